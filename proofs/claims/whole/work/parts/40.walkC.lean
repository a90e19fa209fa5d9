abbrev rmJ6_bitCount_0f7a4 : Room := { frames := 1, cells := 0, slots := 0, locals := 40 }
set_option maxRecDepth 100000 in
set_option maxHeartbeats 4000000 in
theorem mtJ6_bitCount_0f7a4 {l : Launch} {D : va_G} {cI cB cS cR : ClassId} {ad : Nat → Nat} {tS tP : Nat} {kS vS : Nat → Nat} {sz : Nat} {σ : wx_Z} {x0 : Int32} {K : Int32 → wx_Z → Prop} (h : wpJ6_bitCount_0f7a4 σ x0 K) : Met l yJ6_bitCount_0f7a4 wsJ6_bitCount_0f7a4 rmJ6_bitCount_0f7a4 (wx_Pre D [(cI, .int), (cB, .byte), (cS, .object RX5), (cR, .array .int)] (wC_RO tS tP kS vS) 58 (wC_E cI cB cS cR ad) ad σ sz [.int x0]) (va_Qi K (wx_B D [(cI, .int), (cB, .byte), (cS, .object RX5), (cR, .array .int)] 58 (wC_E cI cB cS cR ad) ad (va_A (wx_w 58 (wC_E cI cB cS cR ad) ad σ) sz)) (va_A (wx_w 58 (wC_E cI cB cS cR ad) ad σ) sz)) 0 0 (va_A (wx_w 58 (wC_E cI cB cS cR ad) ad σ) sz) := by
  unfold wpJ6_bitCount_0f7a4 at h
  refine wx_meti (cc := cJ6_bitCount_0f7a4) (maxL := 1) (own := RJ6) rfl (by decide) rfl (Nat.le_of_ble_eq_true rfl) (wC_ROok tS tP kS vS) ?_
  intro p e s m args below meth c A Q ls C Rt hP hD hS hl
  obtain ⟨⟨hx, hb, hml, hown, hts⟩, hA, hK, hRO, hro⟩ := id C
  have hl : lv_has ls 1 [(0, .int x0)] := hl
  obtain ⟨H, eH⟩ : ∃ z, z = s.heap := ⟨_, rfl⟩
  obtain ⟨locs, eL⟩ : ∃ z : List Loc, z = [] := ⟨_, rfl⟩
  rw [← eH] at hP
  have hS : va_S A s.heap H locs := by rw [eH, eL]; exact hS
  have goal : W p l e rmJ6_bitCount_0f7a4 s m args below meth c H locs 0 0 Q (F0 m 0 ls []) := by
    refine lv_iload_n hx hb dJ6_bitCount_0f7a4_0 rfl (lv_at hl 0 rfl) ?_
    refine lv_iload_n hx hb dJ6_bitCount_0f7a4_1 rfl (lv_at hl 0 rfl) ?_
    refine lv_iconst (v := 1) hx hb dJ6_bitCount_0f7a4_2 (by decide) ?_
    refine lv_iushr (v := wx_us x0 1) hx hb dJ6_bitCount_0f7a4_3 rfl ?_
    refine lv_ldcw hx hb hown (hts _ (List.mem_of_getElem? (i := 1) rfl)) dJ6_bitCount_0f7a4_4 ?_
    refine lv_iand hx hb dJ6_bitCount_0f7a4_7 ?_
    refine lv_isub hx hb dJ6_bitCount_0f7a4_8 ?_
    refine lv_topi (fun t9 e_t9 => ?_)
    have h := h t9 e_t9
    refine lv_istore_n (lv' := [(0, .int t9)]) hx hb dJ6_bitCount_0f7a4_9 rfl hl (by decide) rfl (fun ls hl => ?_)
    refine lv_iload_n hx hb dJ6_bitCount_0f7a4_10 rfl (lv_at hl 0 rfl) ?_
    refine lv_ldcw hx hb hown (hts _ (List.mem_of_getElem? (i := 2) rfl)) dJ6_bitCount_0f7a4_11 ?_
    refine lv_iand hx hb dJ6_bitCount_0f7a4_14 ?_
    refine lv_iload_n hx hb dJ6_bitCount_0f7a4_15 rfl (lv_at hl 0 rfl) ?_
    refine lv_iconst (v := 2) hx hb dJ6_bitCount_0f7a4_16 (by decide) ?_
    refine lv_iushr (v := wx_us t9 2) hx hb dJ6_bitCount_0f7a4_17 rfl ?_
    refine lv_ldcw hx hb hown (hts _ (List.mem_of_getElem? (i := 2) rfl)) dJ6_bitCount_0f7a4_18 ?_
    refine lv_iand hx hb dJ6_bitCount_0f7a4_21 ?_
    refine lv_iadd hx hb dJ6_bitCount_0f7a4_22 ?_
    refine lv_topi (fun t23 e_t23 => ?_)
    have h := h t23 e_t23
    refine lv_istore_n (lv' := [(0, .int t23)]) hx hb dJ6_bitCount_0f7a4_23 rfl hl (by decide) rfl (fun ls hl => ?_)
    refine lv_iload_n hx hb dJ6_bitCount_0f7a4_24 rfl (lv_at hl 0 rfl) ?_
    refine lv_iload_n hx hb dJ6_bitCount_0f7a4_25 rfl (lv_at hl 0 rfl) ?_
    refine lv_iconst (v := 4) hx hb dJ6_bitCount_0f7a4_26 (by decide) ?_
    refine lv_iushr (v := wx_us t23 4) hx hb dJ6_bitCount_0f7a4_27 rfl ?_
    refine lv_iadd hx hb dJ6_bitCount_0f7a4_28 ?_
    refine lv_ldcw hx hb hown (hts _ (List.mem_of_getElem? (i := 3) rfl)) dJ6_bitCount_0f7a4_29 ?_
    refine lv_iand hx hb dJ6_bitCount_0f7a4_32 ?_
    refine lv_topi (fun t33 e_t33 => ?_)
    have h := h t33 e_t33
    refine lv_istore_n (lv' := [(0, .int t33)]) hx hb dJ6_bitCount_0f7a4_33 rfl hl (by decide) rfl (fun ls hl => ?_)
    refine lv_iload_n hx hb dJ6_bitCount_0f7a4_34 rfl (lv_at hl 0 rfl) ?_
    refine lv_iload_n hx hb dJ6_bitCount_0f7a4_35 rfl (lv_at hl 0 rfl) ?_
    refine lv_bipush (v := 8) hx hb dJ6_bitCount_0f7a4_36 (by decide) ?_
    refine lv_iushr (v := wx_us t33 8) hx hb dJ6_bitCount_0f7a4_38 rfl ?_
    refine lv_iadd hx hb dJ6_bitCount_0f7a4_39 ?_
    refine lv_topi (fun t40 e_t40 => ?_)
    have h := h t40 e_t40
    refine lv_istore_n (lv' := [(0, .int t40)]) hx hb dJ6_bitCount_0f7a4_40 rfl hl (by decide) rfl (fun ls hl => ?_)
    refine lv_iload_n hx hb dJ6_bitCount_0f7a4_41 rfl (lv_at hl 0 rfl) ?_
    refine lv_iload_n hx hb dJ6_bitCount_0f7a4_42 rfl (lv_at hl 0 rfl) ?_
    refine lv_bipush (v := 16) hx hb dJ6_bitCount_0f7a4_43 (by decide) ?_
    refine lv_iushr (v := wx_us t40 16) hx hb dJ6_bitCount_0f7a4_45 rfl ?_
    refine lv_iadd hx hb dJ6_bitCount_0f7a4_46 ?_
    refine lv_topi (fun t47 e_t47 => ?_)
    have h := h t47 e_t47
    refine lv_istore_n (lv' := [(0, .int t47)]) hx hb dJ6_bitCount_0f7a4_47 rfl hl (by decide) rfl (fun ls hl => ?_)
    refine lv_iload_n hx hb dJ6_bitCount_0f7a4_48 rfl (lv_at hl 0 rfl) ?_
    refine lv_bipush (v := 63) hx hb dJ6_bitCount_0f7a4_49 (by decide) ?_
    refine lv_iand hx hb dJ6_bitCount_0f7a4_51 ?_
    exact Rt _ _ _ _ _ _ h hP hD hS dJ6_bitCount_0f7a4_52
  rw [eH, eL] at goal
  exact goal
abbrev rmJ6_numberOfTrailingZeros_0f7a4 : Room := { frames := 1, cells := 0, slots := 0, locals := 40 }
set_option maxRecDepth 100000 in
set_option maxHeartbeats 4000000 in
theorem bJ6_numberOfTrailingZeros_0f7a4_62 {p : Program} {l : Launch} {e : Env} {s : State} {m : MethodId} {args : Array Value} {below : List Frame} {meth : Method} {c : Code} {A : Nat → Prop} {Q : State → Prop} {D : va_G} {cI cB cS cR : ClassId} {ad : Nat → Nat} {tS tP : Nat} {kS vS : Nat → Nat} {K : Int32 → wx_Z → Prop} (C : wx_C p s m args c cJ6_numberOfTrailingZeros_0f7a4 2 RJ6 wsJ6_numberOfTrailingZeros_0f7a4 D [(cI, .int), (cB, .byte), (cS, .object RX5), (cR, .array .int)] (wC_RO tS tP kS vS) A) (Rt : wx_Ri p l e rmJ6_numberOfTrailingZeros_0f7a4 s m args below meth c cJ6_numberOfTrailingZeros_0f7a4 D 58 (wC_E cI cB cS cR ad) ad A K Q) : ∀ (σ : wx_Z) (x0 : Int32) (x1 : Int32), wpJ6_numberOfTrailingZeros_0f7a4_62 K σ x0 x1 → ∀ (H : Heap) (locs : List Loc) (ls : Array Slot), va_P D vwCl (wx_w 58 (wC_E cI cB cS cR ad) ad σ) H → va_D A (wx_w 58 (wC_E cI cB cS cR ad) ad σ) → va_S A s.heap H locs → lv_has ls 2 [(0, .int x0), (1, .int x1)] → W p l e rmJ6_numberOfTrailingZeros_0f7a4 s m args below meth c H locs 0 0 Q (F0 m 62 ls []) := by
  obtain ⟨⟨hx, hb, hml, hown, hts⟩, hA, hK, hRO, hro⟩ := id C
  intro σ x0 x1 h H locs ls hP hD hS hl
  unfold wpJ6_numberOfTrailingZeros_0f7a4_62 at h
  refine lv_iload_n hx hb dJ6_numberOfTrailingZeros_0f7a4_62 rfl (lv_at hl 0 rfl) ?_
  refine lv_iconst (v := 4) hx hb dJ6_numberOfTrailingZeros_0f7a4_63 (by decide) ?_
  refine lv_icmp_le (tgt := 74) hx hb dJ6_numberOfTrailingZeros_0f7a4_64 (by decide) (fun c64 => ?_) (fun c64 => ?_)
  · have h := h.1 c64
    refine lv_iload_n hx hb dJ6_numberOfTrailingZeros_0f7a4_74 rfl (lv_at hl 1 rfl) ?_
    refine lv_iload_n hx hb dJ6_numberOfTrailingZeros_0f7a4_75 rfl (lv_at hl 0 rfl) ?_
    refine lv_iconst (v := 1) hx hb dJ6_numberOfTrailingZeros_0f7a4_76 (by decide) ?_
    refine lv_iushr (v := wx_us x0 1) hx hb dJ6_numberOfTrailingZeros_0f7a4_77 rfl ?_
    refine lv_iadd hx hb dJ6_numberOfTrailingZeros_0f7a4_78 ?_
    exact Rt _ _ _ _ _ _ h hP hD hS dJ6_numberOfTrailingZeros_0f7a4_79
  · have h := h.2 c64
    obtain ⟨t67, e_t67⟩ : ∃ y : Int32, y = x1 + 2 := ⟨_, rfl⟩
    have h := h t67 e_t67
    refine lv_iinc (v := t67) (lv' := [(1, .int t67), (0, .int x0)]) hx hb dJ6_numberOfTrailingZeros_0f7a4_67 hl (k := 1) rfl (by rw [e_t67]; rfl) (by decide) rfl (fun ls hl => ?_)
    refine lv_iload_n hx hb dJ6_numberOfTrailingZeros_0f7a4_70 rfl (lv_at hl 1 rfl) ?_
    refine lv_iconst (v := 2) hx hb dJ6_numberOfTrailingZeros_0f7a4_71 (by decide) ?_
    refine lv_iushr (v := wx_us x0 2) hx hb dJ6_numberOfTrailingZeros_0f7a4_72 rfl ?_
    refine lv_topi (fun t73 e_t73 => ?_)
    have h := h t73 e_t73
    refine lv_istore_n (lv' := [(0, .int t73), (1, .int t67)]) hx hb dJ6_numberOfTrailingZeros_0f7a4_73 rfl hl (by decide) rfl (fun ls hl => ?_)
    refine lv_iload_n hx hb dJ6_numberOfTrailingZeros_0f7a4_74 rfl (lv_at hl 1 rfl) ?_
    refine lv_iload_n hx hb dJ6_numberOfTrailingZeros_0f7a4_75 rfl (lv_at hl 0 rfl) ?_
    refine lv_iconst (v := 1) hx hb dJ6_numberOfTrailingZeros_0f7a4_76 (by decide) ?_
    refine lv_iushr (v := wx_us t73 1) hx hb dJ6_numberOfTrailingZeros_0f7a4_77 rfl ?_
    refine lv_iadd hx hb dJ6_numberOfTrailingZeros_0f7a4_78 ?_
    exact Rt _ _ _ _ _ _ h hP hD hS dJ6_numberOfTrailingZeros_0f7a4_79
set_option maxRecDepth 100000 in
set_option maxHeartbeats 4000000 in
theorem bJ6_numberOfTrailingZeros_0f7a4_49 {p : Program} {l : Launch} {e : Env} {s : State} {m : MethodId} {args : Array Value} {below : List Frame} {meth : Method} {c : Code} {A : Nat → Prop} {Q : State → Prop} {D : va_G} {cI cB cS cR : ClassId} {ad : Nat → Nat} {tS tP : Nat} {kS vS : Nat → Nat} {K : Int32 → wx_Z → Prop} (C : wx_C p s m args c cJ6_numberOfTrailingZeros_0f7a4 2 RJ6 wsJ6_numberOfTrailingZeros_0f7a4 D [(cI, .int), (cB, .byte), (cS, .object RX5), (cR, .array .int)] (wC_RO tS tP kS vS) A) (Rt : wx_Ri p l e rmJ6_numberOfTrailingZeros_0f7a4 s m args below meth c cJ6_numberOfTrailingZeros_0f7a4 D 58 (wC_E cI cB cS cR ad) ad A K Q) : ∀ (σ : wx_Z) (x0 : Int32) (x1 : Int32), wpJ6_numberOfTrailingZeros_0f7a4_49 K σ x0 x1 → ∀ (H : Heap) (locs : List Loc) (ls : Array Slot), va_P D vwCl (wx_w 58 (wC_E cI cB cS cR ad) ad σ) H → va_D A (wx_w 58 (wC_E cI cB cS cR ad) ad σ) → va_S A s.heap H locs → lv_has ls 2 [(0, .int x0), (1, .int x1)] → W p l e rmJ6_numberOfTrailingZeros_0f7a4 s m args below meth c H locs 0 0 Q (F0 m 49 ls []) := by
  obtain ⟨⟨hx, hb, hml, hown, hts⟩, hA, hK, hRO, hro⟩ := id C
  intro σ x0 x1 h H locs ls hP hD hS hl
  unfold wpJ6_numberOfTrailingZeros_0f7a4_49 at h
  refine lv_iload_n hx hb dJ6_numberOfTrailingZeros_0f7a4_49 rfl (lv_at hl 0 rfl) ?_
  refine lv_bipush (v := 16) hx hb dJ6_numberOfTrailingZeros_0f7a4_50 (by decide) ?_
  refine lv_icmp_le (tgt := 62) hx hb dJ6_numberOfTrailingZeros_0f7a4_52 (by decide) (fun c52 => ?_) (fun c52 => ?_)
  · have h := h.1 c52
    exact bJ6_numberOfTrailingZeros_0f7a4_62 C Rt σ x0 x1  h _ _ _ hP hD hS (lv_sub hl [0, 1] rfl)
  · have h := h.2 c52
    obtain ⟨t55, e_t55⟩ : ∃ y : Int32, y = x1 + 4 := ⟨_, rfl⟩
    have h := h t55 e_t55
    refine lv_iinc (v := t55) (lv' := [(1, .int t55), (0, .int x0)]) hx hb dJ6_numberOfTrailingZeros_0f7a4_55 hl (k := 1) rfl (by rw [e_t55]; rfl) (by decide) rfl (fun ls hl => ?_)
    refine lv_iload_n hx hb dJ6_numberOfTrailingZeros_0f7a4_58 rfl (lv_at hl 1 rfl) ?_
    refine lv_iconst (v := 4) hx hb dJ6_numberOfTrailingZeros_0f7a4_59 (by decide) ?_
    refine lv_iushr (v := wx_us x0 4) hx hb dJ6_numberOfTrailingZeros_0f7a4_60 rfl ?_
    refine lv_topi (fun t61 e_t61 => ?_)
    have h := h t61 e_t61
    refine lv_istore_n (lv' := [(0, .int t61), (1, .int t55)]) hx hb dJ6_numberOfTrailingZeros_0f7a4_61 rfl hl (by decide) rfl (fun ls hl => ?_)
    exact bJ6_numberOfTrailingZeros_0f7a4_62 C Rt σ t61 t55  h _ _ _ hP hD hS (lv_sub hl [0, 1] rfl)
set_option maxRecDepth 100000 in
set_option maxHeartbeats 4000000 in
theorem bJ6_numberOfTrailingZeros_0f7a4_34 {p : Program} {l : Launch} {e : Env} {s : State} {m : MethodId} {args : Array Value} {below : List Frame} {meth : Method} {c : Code} {A : Nat → Prop} {Q : State → Prop} {D : va_G} {cI cB cS cR : ClassId} {ad : Nat → Nat} {tS tP : Nat} {kS vS : Nat → Nat} {K : Int32 → wx_Z → Prop} (C : wx_C p s m args c cJ6_numberOfTrailingZeros_0f7a4 2 RJ6 wsJ6_numberOfTrailingZeros_0f7a4 D [(cI, .int), (cB, .byte), (cS, .object RX5), (cR, .array .int)] (wC_RO tS tP kS vS) A) (Rt : wx_Ri p l e rmJ6_numberOfTrailingZeros_0f7a4 s m args below meth c cJ6_numberOfTrailingZeros_0f7a4 D 58 (wC_E cI cB cS cR ad) ad A K Q) : ∀ (σ : wx_Z) (x0 : Int32) (x1 : Int32), wpJ6_numberOfTrailingZeros_0f7a4_34 K σ x0 x1 → ∀ (H : Heap) (locs : List Loc) (ls : Array Slot), va_P D vwCl (wx_w 58 (wC_E cI cB cS cR ad) ad σ) H → va_D A (wx_w 58 (wC_E cI cB cS cR ad) ad σ) → va_S A s.heap H locs → lv_has ls 2 [(0, .int x0), (1, .int x1)] → W p l e rmJ6_numberOfTrailingZeros_0f7a4 s m args below meth c H locs 0 0 Q (F0 m 34 ls []) := by
  obtain ⟨⟨hx, hb, hml, hown, hts⟩, hA, hK, hRO, hro⟩ := id C
  intro σ x0 x1 h H locs ls hP hD hS hl
  unfold wpJ6_numberOfTrailingZeros_0f7a4_34 at h
  refine lv_iload_n hx hb dJ6_numberOfTrailingZeros_0f7a4_34 rfl (lv_at hl 0 rfl) ?_
  refine lv_sipush (v := 256) hx hb dJ6_numberOfTrailingZeros_0f7a4_35 (by decide) ?_
  refine lv_icmp_le (tgt := 49) hx hb dJ6_numberOfTrailingZeros_0f7a4_38 (by decide) (fun c38 => ?_) (fun c38 => ?_)
  · have h := h.1 c38
    exact bJ6_numberOfTrailingZeros_0f7a4_49 C Rt σ x0 x1  h _ _ _ hP hD hS (lv_sub hl [0, 1] rfl)
  · have h := h.2 c38
    obtain ⟨t41, e_t41⟩ : ∃ y : Int32, y = x1 + 8 := ⟨_, rfl⟩
    have h := h t41 e_t41
    refine lv_iinc (v := t41) (lv' := [(1, .int t41), (0, .int x0)]) hx hb dJ6_numberOfTrailingZeros_0f7a4_41 hl (k := 1) rfl (by rw [e_t41]; rfl) (by decide) rfl (fun ls hl => ?_)
    refine lv_iload_n hx hb dJ6_numberOfTrailingZeros_0f7a4_44 rfl (lv_at hl 1 rfl) ?_
    refine lv_bipush (v := 8) hx hb dJ6_numberOfTrailingZeros_0f7a4_45 (by decide) ?_
    refine lv_iushr (v := wx_us x0 8) hx hb dJ6_numberOfTrailingZeros_0f7a4_47 rfl ?_
    refine lv_topi (fun t48 e_t48 => ?_)
    have h := h t48 e_t48
    refine lv_istore_n (lv' := [(0, .int t48), (1, .int t41)]) hx hb dJ6_numberOfTrailingZeros_0f7a4_48 rfl hl (by decide) rfl (fun ls hl => ?_)
    exact bJ6_numberOfTrailingZeros_0f7a4_49 C Rt σ t48 t41  h _ _ _ hP hD hS (lv_sub hl [0, 1] rfl)
set_option maxRecDepth 100000 in
set_option maxHeartbeats 4000000 in
theorem mtJ6_numberOfTrailingZeros_0f7a4 {l : Launch} {D : va_G} {cI cB cS cR : ClassId} {ad : Nat → Nat} {tS tP : Nat} {kS vS : Nat → Nat} {sz : Nat} {σ : wx_Z} {x0 : Int32} {K : Int32 → wx_Z → Prop} (h : wpJ6_numberOfTrailingZeros_0f7a4 σ x0 K) : Met l yJ6_numberOfTrailingZeros_0f7a4 wsJ6_numberOfTrailingZeros_0f7a4 rmJ6_numberOfTrailingZeros_0f7a4 (wx_Pre D [(cI, .int), (cB, .byte), (cS, .object RX5), (cR, .array .int)] (wC_RO tS tP kS vS) 58 (wC_E cI cB cS cR ad) ad σ sz [.int x0]) (va_Qi K (wx_B D [(cI, .int), (cB, .byte), (cS, .object RX5), (cR, .array .int)] 58 (wC_E cI cB cS cR ad) ad (va_A (wx_w 58 (wC_E cI cB cS cR ad) ad σ) sz)) (va_A (wx_w 58 (wC_E cI cB cS cR ad) ad σ) sz)) 0 0 (va_A (wx_w 58 (wC_E cI cB cS cR ad) ad σ) sz) := by
  unfold wpJ6_numberOfTrailingZeros_0f7a4 at h
  refine wx_meti (cc := cJ6_numberOfTrailingZeros_0f7a4) (maxL := 2) (own := RJ6) rfl (by decide) rfl (Nat.le_of_ble_eq_true rfl) (wC_ROok tS tP kS vS) ?_
  intro p e s m args below meth c A Q ls C Rt hP hD hS hl
  obtain ⟨⟨hx, hb, hml, hown, hts⟩, hA, hK, hRO, hro⟩ := id C
  have hl : lv_has ls 2 [(0, .int x0)] := hl
  obtain ⟨H, eH⟩ : ∃ z, z = s.heap := ⟨_, rfl⟩
  obtain ⟨locs, eL⟩ : ∃ z : List Loc, z = [] := ⟨_, rfl⟩
  rw [← eH] at hP
  have hS : va_S A s.heap H locs := by rw [eH, eL]; exact hS
  have goal : W p l e rmJ6_numberOfTrailingZeros_0f7a4 s m args below meth c H locs 0 0 Q (F0 m 0 ls []) := by
    refine lv_iload_n hx hb dJ6_numberOfTrailingZeros_0f7a4_0 rfl (lv_at hl 0 rfl) ?_
    refine lv_iconst (v := (-1)) hx hb dJ6_numberOfTrailingZeros_0f7a4_1 (by decide) ?_
    refine lv_ixor hx hb dJ6_numberOfTrailingZeros_0f7a4_2 ?_
    refine lv_iload_n hx hb dJ6_numberOfTrailingZeros_0f7a4_3 rfl (lv_at hl 0 rfl) ?_
    refine lv_iconst (v := 1) hx hb dJ6_numberOfTrailingZeros_0f7a4_4 (by decide) ?_
    refine lv_isub hx hb dJ6_numberOfTrailingZeros_0f7a4_5 ?_
    refine lv_iand hx hb dJ6_numberOfTrailingZeros_0f7a4_6 ?_
    refine lv_topi (fun t7 e_t7 => ?_)
    have h := h t7 e_t7
    refine lv_istore_n (lv' := [(0, .int t7)]) hx hb dJ6_numberOfTrailingZeros_0f7a4_7 rfl hl (by decide) rfl (fun ls hl => ?_)
    refine lv_iload_n hx hb dJ6_numberOfTrailingZeros_0f7a4_8 rfl (lv_at hl 0 rfl) ?_
    refine lv_if_gt (tgt := 17) hx hb dJ6_numberOfTrailingZeros_0f7a4_9 (by decide) (fun c9 => ?_) (fun c9 => ?_)
    · have h := h.1 c9
      refine lv_iconst (v := 1) hx hb dJ6_numberOfTrailingZeros_0f7a4_17 (by decide) ?_
      refine lv_istore_n (lv' := [(1, .int 1), (0, .int t7)]) hx hb dJ6_numberOfTrailingZeros_0f7a4_18 rfl hl (by decide) rfl (fun ls hl => ?_)
      refine lv_iload_n hx hb dJ6_numberOfTrailingZeros_0f7a4_19 rfl (lv_at hl 1 rfl) ?_
      refine lv_ldcw hx hb hown (hts _ (List.mem_of_getElem? (i := 1) rfl)) dJ6_numberOfTrailingZeros_0f7a4_20 ?_
      refine lv_icmp_le (tgt := 34) hx hb dJ6_numberOfTrailingZeros_0f7a4_23 (by decide) (fun c23 => ?_) (fun c23 => ?_)
      · have h := h.1 c23
        exact bJ6_numberOfTrailingZeros_0f7a4_34 C Rt σ t7 1  h _ _ _ hP hD hS (lv_sub hl [1, 0] rfl)
      · have h := h.2 c23
        obtain ⟨t26, e_t26⟩ : ∃ y : Int32, y = 1 + 16 := ⟨_, rfl⟩
        have h := h t26 e_t26
        refine lv_iinc (v := t26) (lv' := [(1, .int t26), (0, .int t7)]) hx hb dJ6_numberOfTrailingZeros_0f7a4_26 hl (k := 0) rfl (by rw [e_t26]; rfl) (by decide) rfl (fun ls hl => ?_)
        refine lv_iload_n hx hb dJ6_numberOfTrailingZeros_0f7a4_29 rfl (lv_at hl 1 rfl) ?_
        refine lv_bipush (v := 16) hx hb dJ6_numberOfTrailingZeros_0f7a4_30 (by decide) ?_
        refine lv_iushr (v := wx_us t7 16) hx hb dJ6_numberOfTrailingZeros_0f7a4_32 rfl ?_
        refine lv_topi (fun t33 e_t33 => ?_)
        have h := h t33 e_t33
        refine lv_istore_n (lv' := [(0, .int t33), (1, .int t26)]) hx hb dJ6_numberOfTrailingZeros_0f7a4_33 rfl hl (by decide) rfl (fun ls hl => ?_)
        exact bJ6_numberOfTrailingZeros_0f7a4_34 C Rt σ t33 t26  h _ _ _ hP hD hS (lv_sub hl [0, 1] rfl)
    · have h := h.2 c9
      refine lv_iload_n hx hb dJ6_numberOfTrailingZeros_0f7a4_12 rfl (lv_at hl 0 rfl) ?_
      refine lv_bipush (v := 32) hx hb dJ6_numberOfTrailingZeros_0f7a4_13 (by decide) ?_
      refine lv_iand hx hb dJ6_numberOfTrailingZeros_0f7a4_15 ?_
      exact Rt _ _ _ _ _ _ h hP hD hS dJ6_numberOfTrailingZeros_0f7a4_16
  rw [eH, eL] at goal
  exact goal
abbrev rmJ7_fill_53178 : Room := { frames := 1, cells := 0, slots := 0, locals := 40 }
set_option maxRecDepth 100000 in
set_option maxHeartbeats 4000000 in
theorem bJ7_fill_53178_5 {p : Program} {l : Launch} {e : Env} {s : State} {m : MethodId} {args : Array Value} {below : List Frame} {meth : Method} {c : Code} {A : Nat → Prop} {Q : State → Prop} {D : va_G} {cI cB cS cR : ClassId} {ad : Nat → Nat} {tS tP : Nat} {kS vS : Nat → Nat} {g : Nat} {K : wx_Z → Prop} (C : wx_C p s m args c cJ7_fill_53178 4 RJ7 wsJ7_fill_53178 D [(cI, .int), (cB, .byte), (cS, .object RX5), (cR, .array .int)] (wC_RO tS tP kS vS) A) (Rt : wx_Rv p l e rmJ7_fill_53178 s m args below meth c cJ7_fill_53178 D 58 (wC_E cI cB cS cR ad) ad A K Q) (hg : g < 10) : ∀ (n : Nat) (σ : wx_Z) (x1 : Int32) (x2 : Int32) (x3 : Int32), wpJ7_fill_53178_5 g K n σ x1 x2 x3 → ∀ (H : Heap) (locs : List Loc) (ls : Array Slot), va_P D vwCl (wx_w 58 (wC_E cI cB cS cR ad) ad σ) H → va_D A (wx_w 58 (wC_E cI cB cS cR ad) ad σ) → va_S A s.heap H locs → lv_has ls 4 [(0, .ref (ad (cSo g))), (1, .int x1), (2, .int x2), (3, .int x3)] → W p l e rmJ7_fill_53178 s m args below meth c H locs 0 0 Q (F0 m 5 ls []) := by
  obtain ⟨⟨hx, hb, hml, hown, hts⟩, hA, hK, hRO, hro⟩ := id C
  intro n
  induction n with
  | zero => intro σ x1 x2 x3 h; exact h.elim
  | succ n ih =>
    intro σ x1 x2 x3 h H locs ls hP hD hS hl
    unfold wpJ7_fill_53178_5 at h
    refine lv_iload_n hx hb dJ7_fill_53178_5 rfl (lv_at hl 2 rfl) ?_
    refine lv_iload_n hx hb dJ7_fill_53178_6 rfl (lv_at hl 3 rfl) ?_
    refine lv_icmp_ge (tgt := 20) hx hb dJ7_fill_53178_7 (by decide) (fun c7 => ?_) (fun c7 => ?_)
    · have h := h.1 c7
      exact Rt _ _ _ _ _ h hP hD hS dJ7_fill_53178_20
    · have h := h.2 c7
      refine lv_aload_n hx hb dJ7_fill_53178_10 rfl (lv_at hl 0 rfl) ?_
      refine lv_iload_n hx hb dJ7_fill_53178_11 rfl (lv_at hl 2 rfl) ?_
      refine lv_iload_n hx hb dJ7_fill_53178_12 rfl (lv_at hl 1 rfl) ?_
      refine wx_ist C hP hD hS (q := (cSo g)) (lt_so hg) (eC_so hg) 0 rfl h.1 dJ7_fill_53178_13 (fun H locs hP hD hS => ?_)
      generalize e_σ13 : wx_up σ (cSo g) (Int32.toNatClampNeg x2) x1 = σ13 at hP hD
      have h := h.2 σ13 e_σ13.symm
      obtain ⟨t14, e_t14⟩ : ∃ y : Int32, y = x2 + 1 := ⟨_, rfl⟩
      have h := h t14 e_t14
      refine lv_iinc (v := t14) (lv' := [(2, .int t14), (0, .ref (ad (cSo g))), (1, .int x1), (3, .int x3)]) hx hb dJ7_fill_53178_14 hl (k := 2) rfl (by rw [e_t14]; rfl) (by decide) rfl (fun ls hl => ?_)
      refine lv_goto (tgt := 5) hx hb dJ7_fill_53178_17 (by decide) ?_
      exact ih σ13 x1 t14 x3  h _ _ _ hP hD hS (lv_sub hl [1, 2, 0, 3] rfl)
set_option maxRecDepth 100000 in
set_option maxHeartbeats 4000000 in
theorem mtJ7_fill_53178 {l : Launch} {D : va_G} {cI cB cS cR : ClassId} {ad : Nat → Nat} {tS tP : Nat} {kS vS : Nat → Nat} {sz : Nat} {g : Nat} {σ : wx_Z} {x1 : Int32} {K : wx_Z → Prop} (hg : g < 10) (h : wpJ7_fill_53178 g σ x1 K) : Met l yJ7_fill_53178 wsJ7_fill_53178 rmJ7_fill_53178 (wx_Pre D [(cI, .int), (cB, .byte), (cS, .object RX5), (cR, .array .int)] (wC_RO tS tP kS vS) 58 (wC_E cI cB cS cR ad) ad σ sz [.ref (ad (cSo g)), .int x1]) (va_Qv K (wx_B D [(cI, .int), (cB, .byte), (cS, .object RX5), (cR, .array .int)] 58 (wC_E cI cB cS cR ad) ad (va_A (wx_w 58 (wC_E cI cB cS cR ad) ad σ) sz)) (va_A (wx_w 58 (wC_E cI cB cS cR ad) ad σ) sz)) 0 0 (va_A (wx_w 58 (wC_E cI cB cS cR ad) ad σ) sz) := by
  unfold wpJ7_fill_53178 at h
  refine wx_metv (cc := cJ7_fill_53178) (maxL := 4) (own := RJ7) rfl (by decide) rfl (Nat.le_of_ble_eq_true rfl) (wC_ROok tS tP kS vS) ?_
  intro p e s m args below meth c A Q ls C Rt hP hD hS hl
  obtain ⟨⟨hx, hb, hml, hown, hts⟩, hA, hK, hRO, hro⟩ := id C
  have hl : lv_has ls 4 [(0, .ref (ad (cSo g))), (1, .int x1)] := hl
  obtain ⟨H, eH⟩ : ∃ z, z = s.heap := ⟨_, rfl⟩
  obtain ⟨locs, eL⟩ : ∃ z : List Loc, z = [] := ⟨_, rfl⟩
  rw [← eH] at hP
  have hS : va_S A s.heap H locs := by rw [eH, eL]; exact hS
  have goal : W p l e rmJ7_fill_53178 s m args below meth c H locs 0 0 Q (F0 m 0 ls []) := by
    refine lv_iconst (v := 0) hx hb dJ7_fill_53178_0 (by decide) ?_
    refine lv_istore_n (lv' := [(2, .int 0), (0, .ref (ad (cSo g))), (1, .int x1)]) hx hb dJ7_fill_53178_1 rfl hl (by decide) rfl (fun ls hl => ?_)
    refine lv_aload_n hx hb dJ7_fill_53178_2 rfl (lv_at hl 1 rfl) ?_
    refine wx_aln C hP (q := (cSo g)) (lt_so hg) (eC_so hg) 0 rfl (v := 32) (by decide) dJ7_fill_53178_3 ?_
    refine lv_istore_n (lv' := [(3, .int 32), (2, .int 0), (0, .ref (ad (cSo g))), (1, .int x1)]) hx hb dJ7_fill_53178_4 rfl hl (by decide) rfl (fun ls hl => ?_)
    obtain ⟨n5, h⟩ := h
    exact bJ7_fill_53178_5 C Rt hg n5 σ x1 0 32  h _ _ _ hP hD hS (lv_sub hl [2, 3, 1, 0] rfl)
  rw [eH, eL] at goal
  exact goal
abbrev rmJ0_isLatin1_aae02 : Room := { frames := 1, cells := 0, slots := 0, locals := 40 }
set_option maxRecDepth 100000 in
set_option maxHeartbeats 4000000 in
theorem mtJ0_isLatin1_aae02 {l : Launch} {D : va_G} {cI cB cS cR : ClassId} {ad : Nat → Nat} {tS tP : Nat} {kS vS : Nat → Nat} {sz : Nat} {j : Nat} {σ : wx_Z} {K : Int32 → wx_Z → Prop} (hj : j < 2) (h : wpJ0_isLatin1_aae02 j σ K) : Met l yJ0_isLatin1_aae02 wsJ0_isLatin1_aae02 rmJ0_isLatin1_aae02 (wx_Pre D [(cI, .int), (cB, .byte), (cS, .object RX5), (cR, .array .int)] (wC_RO tS tP kS vS) 58 (wC_E cI cB cS cR ad) ad σ sz [.ref (kS j)]) (va_Qi K (wx_B D [(cI, .int), (cB, .byte), (cS, .object RX5), (cR, .array .int)] 58 (wC_E cI cB cS cR ad) ad (va_A (wx_w 58 (wC_E cI cB cS cR ad) ad σ) sz)) (va_A (wx_w 58 (wC_E cI cB cS cR ad) ad σ) sz)) 0 0 (va_A (wx_w 58 (wC_E cI cB cS cR ad) ad σ) sz) := by
  unfold wpJ0_isLatin1_aae02 at h
  refine wx_metz (cc := cJ0_isLatin1_aae02) (maxL := 1) (own := RJ0) rfl (by decide) rfl (Nat.le_of_ble_eq_true rfl) (wC_ROok tS tP kS vS) ?_
  intro p e s m args below meth c A Q ls C Rt hP hD hS hl
  obtain ⟨⟨hx, hb, hml, hown, hts⟩, hA, hK, hRO, hro⟩ := id C
  have hl : lv_has ls 1 [(0, .ref (kS j))] := hl
  obtain ⟨H, eH⟩ : ∃ z, z = s.heap := ⟨_, rfl⟩
  obtain ⟨locs, eL⟩ : ∃ z : List Loc, z = [] := ⟨_, rfl⟩
  rw [← eH] at hP
  have hS : va_S A s.heap H locs := by rw [eH, eL]; exact hS
  have goal : W p l e rmJ0_isLatin1_aae02 s m args below meth c H locs 0 0 Q (F0 m 0 ls []) := by
    refine va_gets hx hb (ro_cs hro) hS hown (hts _ (List.mem_of_getElem? (i := 1) rfl)) (fun _ h9 => h9) dJ0_isLatin1_aae02_0 ?_
    refine lv_if_eq (tgt := 17) hx hb dJ0_isLatin1_aae02_3 (by decide) (fun c3 => ?_) (fun c3 => ?_)
    · have h := h.1 c3
      refine lv_iconst (v := 0) hx hb dJ0_isLatin1_aae02_17 (by decide) ?_
      exact Rt _ _ _ _ _ _ rfl h hP hD hS dJ0_isLatin1_aae02_18
    · have h := h.2 c3
      refine lv_aload_n hx hb dJ0_isLatin1_aae02_6 rfl (lv_at hl 0 rfl) ?_
      refine vk_getf hx hb (ro_co hro hj) hS hown (hts _ (List.mem_of_getElem? (i := 2) rfl)) (fun _ h9 => h9) dJ0_isLatin1_aae02_7 ?_
      refine lv_if_ne (tgt := 17) hx hb dJ0_isLatin1_aae02_10 (by decide) (fun c10 => ?_) (fun c10 => ?_)
      · have h := h.1 c10
        refine lv_iconst (v := 0) hx hb dJ0_isLatin1_aae02_17 (by decide) ?_
        exact Rt _ _ _ _ _ _ rfl h hP hD hS dJ0_isLatin1_aae02_18
      · have h := h.2 c10
        refine lv_iconst (v := 1) hx hb dJ0_isLatin1_aae02_13 (by decide) ?_
        refine lv_goto (tgt := 18) hx hb dJ0_isLatin1_aae02_14 (by decide) ?_
        exact Rt _ _ _ _ _ _ rfl h hP hD hS dJ0_isLatin1_aae02_18
  rw [eH, eL] at goal
  exact goal
abbrev rmJ0_coder_7d493 : Room := { frames := 1, cells := 0, slots := 0, locals := 40 }
set_option maxRecDepth 100000 in
set_option maxHeartbeats 4000000 in
theorem mtJ0_coder_7d493 {l : Launch} {D : va_G} {cI cB cS cR : ClassId} {ad : Nat → Nat} {tS tP : Nat} {kS vS : Nat → Nat} {sz : Nat} {j : Nat} {σ : wx_Z} {K : Int32 → wx_Z → Prop} (hj : j < 2) (h : wpJ0_coder_7d493 j σ K) : Met l yJ0_coder_7d493 wsJ0_coder_7d493 rmJ0_coder_7d493 (wx_Pre D [(cI, .int), (cB, .byte), (cS, .object RX5), (cR, .array .int)] (wC_RO tS tP kS vS) 58 (wC_E cI cB cS cR ad) ad σ sz [.ref (kS j)]) (va_Qi K (wx_B D [(cI, .int), (cB, .byte), (cS, .object RX5), (cR, .array .int)] 58 (wC_E cI cB cS cR ad) ad (va_A (wx_w 58 (wC_E cI cB cS cR ad) ad σ) sz)) (va_A (wx_w 58 (wC_E cI cB cS cR ad) ad σ) sz)) 0 0 (va_A (wx_w 58 (wC_E cI cB cS cR ad) ad σ) sz) := by
  unfold wpJ0_coder_7d493 at h
  refine wx_metz (cc := cJ0_coder_7d493) (maxL := 1) (own := RJ0) rfl (by decide) rfl (Nat.le_of_ble_eq_true rfl) (wC_ROok tS tP kS vS) ?_
  intro p e s m args below meth c A Q ls C Rt hP hD hS hl
  obtain ⟨⟨hx, hb, hml, hown, hts⟩, hA, hK, hRO, hro⟩ := id C
  have hl : lv_has ls 1 [(0, .ref (kS j))] := hl
  obtain ⟨H, eH⟩ : ∃ z, z = s.heap := ⟨_, rfl⟩
  obtain ⟨locs, eL⟩ : ∃ z : List Loc, z = [] := ⟨_, rfl⟩
  rw [← eH] at hP
  have hS : va_S A s.heap H locs := by rw [eH, eL]; exact hS
  have goal : W p l e rmJ0_coder_7d493 s m args below meth c H locs 0 0 Q (F0 m 0 ls []) := by
    refine va_gets hx hb (ro_cs hro) hS hown (hts _ (List.mem_of_getElem? (i := 1) rfl)) (fun _ h9 => h9) dJ0_coder_7d493_0 ?_
    refine lv_if_eq (tgt := 13) hx hb dJ0_coder_7d493_3 (by decide) (fun c3 => ?_) (fun c3 => ?_)
    · have h := h.1 c3
      refine lv_iconst (v := 1) hx hb dJ0_coder_7d493_13 (by decide) ?_
      exact Rt _ _ _ _ _ _ rfl h hP hD hS dJ0_coder_7d493_14
    · have h := h.2 c3
      refine lv_aload_n hx hb dJ0_coder_7d493_6 rfl (lv_at hl 0 rfl) ?_
      refine vk_getf hx hb (ro_co hro hj) hS hown (hts _ (List.mem_of_getElem? (i := 2) rfl)) (fun _ h9 => h9) dJ0_coder_7d493_7 ?_
      refine lv_goto (tgt := 14) hx hb dJ0_coder_7d493_10 (by decide) ?_
      exact Rt _ _ _ _ _ _ rfl h hP hD hS dJ0_coder_7d493_14
  rw [eH, eL] at goal
  exact goal
abbrev rmJ0_length_8abf5 : Room := { frames := 2, cells := 0, slots := 0, locals := 60 }
theorem nyJ0_coder_7d493 : yJ0_coder_7d493.cls = RJ0 ∧ yJ0_coder_7d493.cls ≠ "java/lang/invoke/MethodHandle" ∧ yJ0_coder_7d493.cls ≠ "java/lang/invoke/VarHandle" ∧ (parseMethodDescriptor yJ0_coder_7d493.desc).map (fun d => d.parameters.length) = some 0 := by decide +kernel
set_option maxRecDepth 100000 in
set_option maxHeartbeats 4000000 in
theorem mtJ0_length_8abf5 {l : Launch} {D : va_G} {cI cB cS cR : ClassId} {ad : Nat → Nat} {tS tP : Nat} {kS vS : Nat → Nat} {sz : Nat} {j : Nat} {σ : wx_Z} {K : Int32 → wx_Z → Prop} (hj : j < 2) (h : wpJ0_length_8abf5 j σ K) : Met l yJ0_length_8abf5 wsJ0_length_8abf5 rmJ0_length_8abf5 (wx_Pre D [(cI, .int), (cB, .byte), (cS, .object RX5), (cR, .array .int)] (wC_RO tS tP kS vS) 58 (wC_E cI cB cS cR ad) ad σ sz [.ref (kS j)]) (va_Qi K (wx_B D [(cI, .int), (cB, .byte), (cS, .object RX5), (cR, .array .int)] 58 (wC_E cI cB cS cR ad) ad (va_A (wx_w 58 (wC_E cI cB cS cR ad) ad σ) sz)) (va_A (wx_w 58 (wC_E cI cB cS cR ad) ad σ) sz)) 0 0 (va_A (wx_w 58 (wC_E cI cB cS cR ad) ad σ) sz) := by
  unfold wpJ0_length_8abf5 at h
  refine wx_meti (cc := cJ0_length_8abf5) (maxL := 1) (own := RJ0) rfl (by decide) rfl (Nat.le_of_ble_eq_true rfl) (wC_ROok tS tP kS vS) ?_
  intro p e s m args below meth c A Q ls C Rt hP hD hS hl
  obtain ⟨⟨hx, hb, hml, hown, hts⟩, hA, hK, hRO, hro⟩ := id C
  have hl : lv_has ls 1 [(0, .ref (kS j))] := hl
  obtain ⟨H, eH⟩ : ∃ z, z = s.heap := ⟨_, rfl⟩
  obtain ⟨locs, eL⟩ : ∃ z : List Loc, z = [] := ⟨_, rfl⟩
  rw [← eH] at hP
  have hS : va_S A s.heap H locs := by rw [eH, eL]; exact hS
  have goal : W p l e rmJ0_length_8abf5 s m args below meth c H locs 0 0 Q (F0 m 0 ls []) := by
    refine lv_aload_n hx hb dJ0_length_8abf5_0 rfl (lv_at hl 0 rfl) ?_
    refine vk_getf hx hb (ro_va hro hj) hS hown (hts _ (List.mem_of_getElem? (i := 1) rfl)) (fun _ h9 => h9) dJ0_length_8abf5_1 ?_
    refine va_tlen hx hb (ro_vt hro hj) hS (v := Int32.ofNat (wC_len j)) rfl dJ0_length_8abf5_4 ?_
    refine lv_aload_n hx hb dJ0_length_8abf5_5 rfl (lv_at hl 0 rfl) ?_
    refine wx_ci C hD hS (va_runV (As := []) (rest := [.int (Int32.ofNat (wC_len j))]) C.1 (mtJ0_coder_7d493 (l := l) (D := D) (sz := H.size) hj h) (cwV 0 hts gJ0_length_8abf5_J0_coder_7d493 rfl rfl rfl nyJ0_coder_7d493 ⟨Nat.le_of_ble_eq_true rfl, Nat.le_of_ble_eq_true rfl⟩) (wx_px C hP hD hS (vk_recv (ro_k hro) hj hS)) rfl rfl hl.1 rfl (lv_room (Nat.le_of_ble_eq_true rfl)) dJ0_length_8abf5_6 ⟨Nat.zero_le _, Nat.zero_le _⟩) (fun r6 σ6 H locs h hP hD hS => ?_)
    refine lv_ishr hx hb dJ0_length_8abf5_9 ?_
    exact Rt _ _ _ _ _ _ h hP hD hS dJ0_length_8abf5_10
  rw [eH, eL] at goal
  exact goal
abbrev rmJ1_canEncode_9a6ad : Room := { frames := 1, cells := 0, slots := 0, locals := 40 }
set_option maxRecDepth 100000 in
set_option maxHeartbeats 4000000 in
theorem mtJ1_canEncode_9a6ad {l : Launch} {D : va_G} {cI cB cS cR : ClassId} {ad : Nat → Nat} {tS tP : Nat} {kS vS : Nat → Nat} {sz : Nat} {σ : wx_Z} {x0 : Int32} {K : Int32 → wx_Z → Prop} (h : wpJ1_canEncode_9a6ad σ x0 K) : Met l yJ1_canEncode_9a6ad wsJ1_canEncode_9a6ad rmJ1_canEncode_9a6ad (wx_Pre D [(cI, .int), (cB, .byte), (cS, .object RX5), (cR, .array .int)] (wC_RO tS tP kS vS) 58 (wC_E cI cB cS cR ad) ad σ sz [.int x0]) (va_Qi K (wx_B D [(cI, .int), (cB, .byte), (cS, .object RX5), (cR, .array .int)] 58 (wC_E cI cB cS cR ad) ad (va_A (wx_w 58 (wC_E cI cB cS cR ad) ad σ) sz)) (va_A (wx_w 58 (wC_E cI cB cS cR ad) ad σ) sz)) 0 0 (va_A (wx_w 58 (wC_E cI cB cS cR ad) ad σ) sz) := by
  unfold wpJ1_canEncode_9a6ad at h
  refine wx_metz (cc := cJ1_canEncode_9a6ad) (maxL := 1) (own := RJ1) rfl (by decide) rfl (Nat.le_of_ble_eq_true rfl) (wC_ROok tS tP kS vS) ?_
  intro p e s m args below meth c A Q ls C Rt hP hD hS hl
  obtain ⟨⟨hx, hb, hml, hown, hts⟩, hA, hK, hRO, hro⟩ := id C
  have hl : lv_has ls 1 [(0, .int x0)] := hl
  obtain ⟨H, eH⟩ : ∃ z, z = s.heap := ⟨_, rfl⟩
  obtain ⟨locs, eL⟩ : ∃ z : List Loc, z = [] := ⟨_, rfl⟩
  rw [← eH] at hP
  have hS : va_S A s.heap H locs := by rw [eH, eL]; exact hS
  have goal : W p l e rmJ1_canEncode_9a6ad s m args below meth c H locs 0 0 Q (F0 m 0 ls []) := by
    refine lv_iload_n hx hb dJ1_canEncode_9a6ad_0 rfl (lv_at hl 0 rfl) ?_
    refine lv_if_lt (tgt := 15) hx hb dJ1_canEncode_9a6ad_1 (by decide) (fun c1 => ?_) (fun c1 => ?_)
    · have h := h.1 c1
      refine lv_iconst (v := 0) hx hb dJ1_canEncode_9a6ad_15 (by decide) ?_
      exact Rt _ _ _ _ _ _ rfl h hP hD hS dJ1_canEncode_9a6ad_16
    · have h := h.2 c1
      refine lv_iload_n hx hb dJ1_canEncode_9a6ad_4 rfl (lv_at hl 0 rfl) ?_
      refine lv_sipush (v := 255) hx hb dJ1_canEncode_9a6ad_5 (by decide) ?_
      refine lv_icmp_gt (tgt := 15) hx hb dJ1_canEncode_9a6ad_8 (by decide) (fun c8 => ?_) (fun c8 => ?_)
      · have h := h.1 c8
        refine lv_iconst (v := 0) hx hb dJ1_canEncode_9a6ad_15 (by decide) ?_
        exact Rt _ _ _ _ _ _ rfl h hP hD hS dJ1_canEncode_9a6ad_16
      · have h := h.2 c8
        refine lv_iconst (v := 1) hx hb dJ1_canEncode_9a6ad_11 (by decide) ?_
        refine lv_goto (tgt := 16) hx hb dJ1_canEncode_9a6ad_12 (by decide) ?_
        exact Rt _ _ _ _ _ _ rfl h hP hD hS dJ1_canEncode_9a6ad_16
  rw [eH, eL] at goal
  exact goal
abbrev rmJ1_indexOfChar_4cfef : Room := { frames := 1, cells := 0, slots := 0, locals := 40 }
set_option maxRecDepth 100000 in
set_option maxHeartbeats 4000000 in
theorem bJ1_indexOfChar_4cfef_7 {p : Program} {l : Launch} {e : Env} {s : State} {m : MethodId} {args : Array Value} {below : List Frame} {meth : Method} {c : Code} {A : Nat → Prop} {Q : State → Prop} {D : va_G} {cI cB cS cR : ClassId} {ad : Nat → Nat} {tS tP : Nat} {kS vS : Nat → Nat} {j : Nat} {K : Int32 → wx_Z → Prop} (C : wx_C p s m args c cJ1_indexOfChar_4cfef 6 RJ1 wsJ1_indexOfChar_4cfef D [(cI, .int), (cB, .byte), (cS, .object RX5), (cR, .array .int)] (wC_RO tS tP kS vS) A) (Rt : wx_Ri p l e rmJ1_indexOfChar_4cfef s m args below meth c cJ1_indexOfChar_4cfef D 58 (wC_E cI cB cS cR ad) ad A K Q) (hj : j < 2) : ∀ (n : Nat) (σ : wx_Z) (x3 : Int32) (x4 : Int32) (x5 : Int32), wpJ1_indexOfChar_4cfef_7 j K n σ x3 x4 x5 → ∀ (H : Heap) (locs : List Loc) (ls : Array Slot), va_P D vwCl (wx_w 58 (wC_E cI cB cS cR ad) ad σ) H → va_D A (wx_w 58 (wC_E cI cB cS cR ad) ad σ) → va_S A s.heap H locs → lv_has ls 6 [(0, .ref (vS j)), (3, .int x3), (4, .int x4), (5, .int x5)] → W p l e rmJ1_indexOfChar_4cfef s m args below meth c H locs 0 0 Q (F0 m 7 ls []) := by
  obtain ⟨⟨hx, hb, hml, hown, hts⟩, hA, hK, hRO, hro⟩ := id C
  intro n
  induction n with
  | zero => intro σ x3 x4 x5 h; exact h.elim
  | succ n ih =>
    intro σ x3 x4 x5 h H locs ls hP hD hS hl
    unfold wpJ1_indexOfChar_4cfef_7 at h
    refine lv_iload hx hb dJ1_indexOfChar_4cfef_7 (lv_at hl 3 rfl) ?_
    refine lv_iload_n hx hb dJ1_indexOfChar_4cfef_9 rfl (lv_at hl 1 rfl) ?_
    refine lv_icmp_ge (tgt := 31) hx hb dJ1_indexOfChar_4cfef_10 (by decide) (fun c10 => ?_) (fun c10 => ?_)
    · have h := h.1 c10
      refine lv_iconst (v := (-1)) hx hb dJ1_indexOfChar_4cfef_31 (by decide) ?_
      exact Rt _ _ _ _ _ _ h hP hD hS dJ1_indexOfChar_4cfef_32
    · have h := h.2 c10
      refine lv_aload_n hx hb dJ1_indexOfChar_4cfef_13 rfl (lv_at hl 0 rfl) ?_
      refine lv_iload hx hb dJ1_indexOfChar_4cfef_14 (lv_at hl 3 rfl) ?_
      refine va_tb hx hb (ro_vt hro hj) hS h.1 (v := .int (wC_byt j (Int32.toNatClampNeg x5))) rfl dJ1_indexOfChar_4cfef_16 ?_
      have h := h.2
      refine lv_iload hx hb dJ1_indexOfChar_4cfef_17 (lv_at hl 2 rfl) ?_
      refine lv_icmp_ne (tgt := 25) hx hb dJ1_indexOfChar_4cfef_19 (by decide) (fun c19 => ?_) (fun c19 => ?_)
      · have h := h.1 c19
        obtain ⟨t25, e_t25⟩ : ∃ y : Int32, y = x5 + 1 := ⟨_, rfl⟩
        have h := h t25 e_t25
        refine lv_iinc (v := t25) (lv' := [(5, .int t25), (0, .ref (vS j)), (3, .int x3), (4, .int x4)]) hx hb dJ1_indexOfChar_4cfef_25 hl (k := 3) rfl (by rw [e_t25]; rfl) (by decide) rfl (fun ls hl => ?_)
        refine lv_goto (tgt := 7) hx hb dJ1_indexOfChar_4cfef_28 (by decide) ?_
        exact ih σ x3 x4 t25  h _ _ _ hP hD hS (lv_sub hl [1, 2, 3, 0] rfl)
      · have h := h.2 c19
        refine lv_iload hx hb dJ1_indexOfChar_4cfef_22 (lv_at hl 3 rfl) ?_
        exact Rt _ _ _ _ _ _ h hP hD hS dJ1_indexOfChar_4cfef_24
set_option maxRecDepth 100000 in
set_option maxHeartbeats 4000000 in
theorem mtJ1_indexOfChar_4cfef {l : Launch} {D : va_G} {cI cB cS cR : ClassId} {ad : Nat → Nat} {tS tP : Nat} {kS vS : Nat → Nat} {sz : Nat} {j : Nat} {σ : wx_Z} {x1 : Int32} {x2 : Int32} {x3 : Int32} {K : Int32 → wx_Z → Prop} (hj : j < 2) (h : wpJ1_indexOfChar_4cfef j σ x1 x2 x3 K) : Met l yJ1_indexOfChar_4cfef wsJ1_indexOfChar_4cfef rmJ1_indexOfChar_4cfef (wx_Pre D [(cI, .int), (cB, .byte), (cS, .object RX5), (cR, .array .int)] (wC_RO tS tP kS vS) 58 (wC_E cI cB cS cR ad) ad σ sz [.ref (vS j), .int x1, .int x2, .int x3]) (va_Qi K (wx_B D [(cI, .int), (cB, .byte), (cS, .object RX5), (cR, .array .int)] 58 (wC_E cI cB cS cR ad) ad (va_A (wx_w 58 (wC_E cI cB cS cR ad) ad σ) sz)) (va_A (wx_w 58 (wC_E cI cB cS cR ad) ad σ) sz)) 0 0 (va_A (wx_w 58 (wC_E cI cB cS cR ad) ad σ) sz) := by
  unfold wpJ1_indexOfChar_4cfef at h
  refine wx_meti (cc := cJ1_indexOfChar_4cfef) (maxL := 6) (own := RJ1) rfl (by decide) rfl (Nat.le_of_ble_eq_true rfl) (wC_ROok tS tP kS vS) ?_
  intro p e s m args below meth c A Q ls C Rt hP hD hS hl
  obtain ⟨⟨hx, hb, hml, hown, hts⟩, hA, hK, hRO, hro⟩ := id C
  have hl : lv_has ls 6 [(0, .ref (vS j)), (1, .int x1), (2, .int x2), (3, .int x3)] := hl
  obtain ⟨H, eH⟩ : ∃ z, z = s.heap := ⟨_, rfl⟩
  obtain ⟨locs, eL⟩ : ∃ z : List Loc, z = [] := ⟨_, rfl⟩
  rw [← eH] at hP
  have hS : va_S A s.heap H locs := by rw [eH, eL]; exact hS
  have goal : W p l e rmJ1_indexOfChar_4cfef s m args below meth c H locs 0 0 Q (F0 m 0 ls []) := by
    refine lv_iload_n hx hb dJ1_indexOfChar_4cfef_0 rfl (lv_at hl 1 rfl) ?_
    refine lv_i2b (v := (Int32.toInt8 x1).toInt32) hx hb dJ1_indexOfChar_4cfef_1 rfl ?_
    refine lv_topi (fun t2 e_t2 => ?_)
    have h := h t2 e_t2
    refine lv_istore (lv' := [(4, .int t2), (0, .ref (vS j)), (1, .int x1), (2, .int x2), (3, .int x3)]) hx hb dJ1_indexOfChar_4cfef_2 hl (by decide) rfl (fun ls hl => ?_)
    refine lv_iload_n hx hb dJ1_indexOfChar_4cfef_4 rfl (lv_at hl 3 rfl) ?_
    refine lv_istore (lv' := [(5, .int x2), (4, .int t2), (0, .ref (vS j)), (1, .int x1), (2, .int x2), (3, .int x3)]) hx hb dJ1_indexOfChar_4cfef_5 hl (by decide) rfl (fun ls hl => ?_)
    obtain ⟨n7, h⟩ := h
    exact bJ1_indexOfChar_4cfef_7 C Rt hj n7 σ x3 t2 x2  h _ _ _ hP hD hS (lv_sub hl [2, 5, 1, 0] rfl)
  rw [eH, eL] at goal
  exact goal
abbrev rmJ1_indexOf_4cfef : Room := { frames := 2, cells := 0, slots := 0, locals := 65 }
theorem nyJ1_canEncode_9a6ad : yJ1_canEncode_9a6ad.cls = RJ1 ∧ yJ1_canEncode_9a6ad.cls ≠ "java/lang/invoke/MethodHandle" ∧ yJ1_canEncode_9a6ad.cls ≠ "java/lang/invoke/VarHandle" ∧ (parseMethodDescriptor yJ1_canEncode_9a6ad.desc).map (fun d => d.parameters.length) = some 1 := by decide +kernel
theorem nyJ1_indexOfChar_4cfef : yJ1_indexOfChar_4cfef.cls = RJ1 ∧ yJ1_indexOfChar_4cfef.cls ≠ "java/lang/invoke/MethodHandle" ∧ yJ1_indexOfChar_4cfef.cls ≠ "java/lang/invoke/VarHandle" ∧ (parseMethodDescriptor yJ1_indexOfChar_4cfef.desc).map (fun d => d.parameters.length) = some 4 := by decide +kernel
set_option maxRecDepth 100000 in
set_option maxHeartbeats 4000000 in
theorem mtJ1_indexOf_4cfef {l : Launch} {D : va_G} {cI cB cS cR : ClassId} {ad : Nat → Nat} {tS tP : Nat} {kS vS : Nat → Nat} {sz : Nat} {j : Nat} {σ : wx_Z} {x1 : Int32} {x2 : Int32} {x3 : Int32} {K : Int32 → wx_Z → Prop} (hj : j < 2) (h : wpJ1_indexOf_4cfef j σ x1 x2 x3 K) : Met l yJ1_indexOf_4cfef wsJ1_indexOf_4cfef rmJ1_indexOf_4cfef (wx_Pre D [(cI, .int), (cB, .byte), (cS, .object RX5), (cR, .array .int)] (wC_RO tS tP kS vS) 58 (wC_E cI cB cS cR ad) ad σ sz [.ref (vS j), .int x1, .int x2, .int x3]) (va_Qi K (wx_B D [(cI, .int), (cB, .byte), (cS, .object RX5), (cR, .array .int)] 58 (wC_E cI cB cS cR ad) ad (va_A (wx_w 58 (wC_E cI cB cS cR ad) ad σ) sz)) (va_A (wx_w 58 (wC_E cI cB cS cR ad) ad σ) sz)) 0 0 (va_A (wx_w 58 (wC_E cI cB cS cR ad) ad σ) sz) := by
  unfold wpJ1_indexOf_4cfef at h
  refine wx_meti (cc := cJ1_indexOf_4cfef) (maxL := 4) (own := RJ1) rfl (by decide) rfl (Nat.le_of_ble_eq_true rfl) (wC_ROok tS tP kS vS) ?_
  intro p e s m args below meth c A Q ls C Rt hP hD hS hl
  obtain ⟨⟨hx, hb, hml, hown, hts⟩, hA, hK, hRO, hro⟩ := id C
  have hl : lv_has ls 4 [(0, .ref (vS j)), (1, .int x1), (2, .int x2), (3, .int x3)] := hl
  obtain ⟨H, eH⟩ : ∃ z, z = s.heap := ⟨_, rfl⟩
  obtain ⟨locs, eL⟩ : ∃ z : List Loc, z = [] := ⟨_, rfl⟩
  rw [← eH] at hP
  have hS : va_S A s.heap H locs := by rw [eH, eL]; exact hS
  have goal : W p l e rmJ1_indexOf_4cfef s m args below meth c H locs 0 0 Q (F0 m 0 ls []) := by
    refine lv_iload_n hx hb dJ1_indexOf_4cfef_0 rfl (lv_at hl 1 rfl) ?_
    refine wx_ci C hD hS (va_runS (As := [.int x1]) (rest := []) C.1 (mtJ1_canEncode_9a6ad (l := l) (D := D) (sz := H.size) h) (va_cwS 1 hts gJ1_indexOf_4cfef_J1_canEncode_9a6ad rfl rfl rfl nyJ1_canEncode_9a6ad.2 ⟨Nat.le_of_ble_eq_true rfl, Nat.le_of_ble_eq_true rfl⟩) (wx_ps C hP hD hS) rfl rfl hl.1 rfl (lv_room (Nat.le_of_ble_eq_true rfl)) dJ1_indexOf_4cfef_1 ⟨Nat.zero_le _, Nat.zero_le _⟩) (fun r1 σ1 H locs h hP hD hS => ?_)
    refine lv_if_ne (tgt := 9) hx hb dJ1_indexOf_4cfef_4 (by decide) (fun c4 => ?_) (fun c4 => ?_)
    · have h := h.1 c4
      refine lv_iload_n hx hb dJ1_indexOf_4cfef_9 rfl (lv_at hl 2 rfl) ?_
      refine lv_iconst (v := 0) hx hb dJ1_indexOf_4cfef_10 (by decide) ?_
      refine va_mmax hx hb (hml.trans hl.1.symm) hown (hts (.methodLink RJ1 92 Lib.Math.max.name) (List.mem_of_getElem? (i := 1) rfl)) (hts (.static Lib.Math.max.name) (List.mem_of_getElem? (i := 2) rfl)) (hts (.initialized "java/lang/Math") (List.mem_of_getElem? (i := 3) rfl)) (hts (.code Lib.Math.max.name Lib.Math.max.code 2 (some .int)) (List.mem_of_getElem? (i := 4) rfl)) (Nat.le_of_ble_eq_true rfl) (Nat.le_of_ble_eq_true rfl) (Nat.zero_le _) (Nat.zero_le _) dJ1_indexOf_4cfef_11 ?_
      refine lv_topi (fun t11 e_t11 => ?_)
      have h := h t11 e_t11
      refine lv_istore_n (lv' := [(2, .int t11), (0, .ref (vS j)), (1, .int x1), (3, .int x3)]) hx hb dJ1_indexOf_4cfef_14 rfl hl (by decide) rfl (fun ls hl => ?_)
      refine lv_iload_n hx hb dJ1_indexOf_4cfef_15 rfl (lv_at hl 3 rfl) ?_
      refine lv_aload_n hx hb dJ1_indexOf_4cfef_16 rfl (lv_at hl 1 rfl) ?_
      refine va_tlen hx hb (ro_vt hro hj) hS (v := Int32.ofNat (wC_len j)) rfl dJ1_indexOf_4cfef_17 ?_
      refine va_mmin hx hb (hml.trans hl.1.symm) hown (hts (.methodLink RJ1 38 Lib.Math.min.name) (List.mem_of_getElem? (i := 5) rfl)) (hts (.static Lib.Math.min.name) (List.mem_of_getElem? (i := 6) rfl)) (hts (.initialized "java/lang/Math") (List.mem_of_getElem? (i := 3) rfl)) (hts (.code Lib.Math.min.name Lib.Math.min.code 2 (some .int)) (List.mem_of_getElem? (i := 7) rfl)) (Nat.le_of_ble_eq_true rfl) (Nat.le_of_ble_eq_true rfl) (Nat.zero_le _) (Nat.zero_le _) dJ1_indexOf_4cfef_18 ?_
      refine lv_topi (fun t18 e_t18 => ?_)
      have h := h t18 e_t18
      refine lv_istore_n (lv' := [(3, .int t18), (2, .int t11), (0, .ref (vS j)), (1, .int x1)]) hx hb dJ1_indexOf_4cfef_21 rfl hl (by decide) rfl (fun ls hl => ?_)
      refine lv_iload_n hx hb dJ1_indexOf_4cfef_22 rfl (lv_at hl 1 rfl) ?_
      refine lv_iload_n hx hb dJ1_indexOf_4cfef_23 rfl (lv_at hl 0 rfl) ?_
      refine lv_icmp_lt (tgt := 29) hx hb dJ1_indexOf_4cfef_24 (by decide) (fun c24 => ?_) (fun c24 => ?_)
      · have h := h.1 c24
        refine lv_aload_n hx hb dJ1_indexOf_4cfef_29 rfl (lv_at hl 2 rfl) ?_
        refine lv_iload_n hx hb dJ1_indexOf_4cfef_30 rfl (lv_at hl 3 rfl) ?_
        refine lv_iload_n hx hb dJ1_indexOf_4cfef_31 rfl (lv_at hl 1 rfl) ?_
        refine lv_iload_n hx hb dJ1_indexOf_4cfef_32 rfl (lv_at hl 0 rfl) ?_
        refine wx_ci C hD hS (va_runS (As := [.ref (vS j), .int x1, .int t11, .int t18]) (rest := []) C.1 (mtJ1_indexOfChar_4cfef (l := l) (D := D) (sz := H.size) hj h) (va_cwS 4 hts gJ1_indexOf_4cfef_J1_indexOfChar_4cfef rfl rfl rfl nyJ1_indexOfChar_4cfef.2 ⟨Nat.le_of_ble_eq_true rfl, Nat.le_of_ble_eq_true rfl⟩) (wx_ps C hP hD hS) rfl rfl hl.1 rfl (lv_room (Nat.le_of_ble_eq_true rfl)) dJ1_indexOf_4cfef_33 ⟨Nat.zero_le _, Nat.zero_le _⟩) (fun r33 σ33 H locs h hP hD hS => ?_)
        exact Rt _ _ _ _ _ _ h hP hD hS dJ1_indexOf_4cfef_36
      · have h := h.2 c24
        refine lv_iconst (v := (-1)) hx hb dJ1_indexOf_4cfef_27 (by decide) ?_
        exact Rt _ _ _ _ _ _ h hP hD hS dJ1_indexOf_4cfef_28
    · have h := h.2 c4
      refine lv_iconst (v := (-1)) hx hb dJ1_indexOf_4cfef_7 (by decide) ?_
      exact Rt _ _ _ _ _ _ h hP hD hS dJ1_indexOf_4cfef_8
  rw [eH, eL] at goal
  exact goal
abbrev rmJ0_indexOf_7cf53 : Room := { frames := 3, cells := 0, slots := 0, locals := 88 }
theorem nyJ0_isLatin1_aae02 : yJ0_isLatin1_aae02.cls = RJ0 ∧ yJ0_isLatin1_aae02.cls ≠ "java/lang/invoke/MethodHandle" ∧ yJ0_isLatin1_aae02.cls ≠ "java/lang/invoke/VarHandle" ∧ (parseMethodDescriptor yJ0_isLatin1_aae02.desc).map (fun d => d.parameters.length) = some 0 := by decide +kernel
theorem nyJ0_length_8abf5 : yJ0_length_8abf5.cls = RJ0 ∧ yJ0_length_8abf5.cls ≠ "java/lang/invoke/MethodHandle" ∧ yJ0_length_8abf5.cls ≠ "java/lang/invoke/VarHandle" ∧ (parseMethodDescriptor yJ0_length_8abf5.desc).map (fun d => d.parameters.length) = some 0 := by decide +kernel
theorem nyJ1_indexOf_4cfef : yJ1_indexOf_4cfef.cls = RJ1 ∧ yJ1_indexOf_4cfef.cls ≠ "java/lang/invoke/MethodHandle" ∧ yJ1_indexOf_4cfef.cls ≠ "java/lang/invoke/VarHandle" ∧ (parseMethodDescriptor yJ1_indexOf_4cfef.desc).map (fun d => d.parameters.length) = some 4 := by decide +kernel
set_option maxRecDepth 100000 in
set_option maxHeartbeats 4000000 in
theorem mtJ0_indexOf_7cf53 {l : Launch} {D : va_G} {cI cB cS cR : ClassId} {ad : Nat → Nat} {tS tP : Nat} {kS vS : Nat → Nat} {sz : Nat} {j : Nat} {σ : wx_Z} {x1 : Int32} {x2 : Int32} {K : Int32 → wx_Z → Prop} (hj : j < 2) (h : wpJ0_indexOf_7cf53 j σ x1 x2 K) : Met l yJ0_indexOf_7cf53 wsJ0_indexOf_7cf53 rmJ0_indexOf_7cf53 (wx_Pre D [(cI, .int), (cB, .byte), (cS, .object RX5), (cR, .array .int)] (wC_RO tS tP kS vS) 58 (wC_E cI cB cS cR ad) ad σ sz [.ref (kS j), .int x1, .int x2]) (va_Qi K (wx_B D [(cI, .int), (cB, .byte), (cS, .object RX5), (cR, .array .int)] 58 (wC_E cI cB cS cR ad) ad (va_A (wx_w 58 (wC_E cI cB cS cR ad) ad σ) sz)) (va_A (wx_w 58 (wC_E cI cB cS cR ad) ad σ) sz)) 0 0 (va_A (wx_w 58 (wC_E cI cB cS cR ad) ad σ) sz) := by
  unfold wpJ0_indexOf_7cf53 at h
  refine wx_meti (cc := cJ0_indexOf_7cf53) (maxL := 3) (own := RJ0) rfl (by decide) rfl (Nat.le_of_ble_eq_true rfl) (wC_ROok tS tP kS vS) ?_
  intro p e s m args below meth c A Q ls C Rt hP hD hS hl
  obtain ⟨⟨hx, hb, hml, hown, hts⟩, hA, hK, hRO, hro⟩ := id C
  have hl : lv_has ls 3 [(0, .ref (kS j)), (1, .int x1), (2, .int x2)] := hl
  obtain ⟨H, eH⟩ : ∃ z, z = s.heap := ⟨_, rfl⟩
  obtain ⟨locs, eL⟩ : ∃ z : List Loc, z = [] := ⟨_, rfl⟩
  rw [← eH] at hP
  have hS : va_S A s.heap H locs := by rw [eH, eL]; exact hS
  have goal : W p l e rmJ0_indexOf_7cf53 s m args below meth c H locs 0 0 Q (F0 m 0 ls []) := by
    refine lv_aload_n hx hb dJ0_indexOf_7cf53_0 rfl (lv_at hl 0 rfl) ?_
    refine wx_ci C hD hS (va_runV (As := []) (rest := []) C.1 (mtJ0_isLatin1_aae02 (l := l) (D := D) (sz := H.size) hj h) (cwV 0 hts gJ0_indexOf_7cf53_J0_isLatin1_aae02 rfl rfl rfl nyJ0_isLatin1_aae02 ⟨Nat.le_of_ble_eq_true rfl, Nat.le_of_ble_eq_true rfl⟩) (wx_px C hP hD hS (vk_recv (ro_k hro) hj hS)) rfl rfl hl.1 rfl (lv_room (Nat.le_of_ble_eq_true rfl)) dJ0_indexOf_7cf53_1 ⟨Nat.zero_le _, Nat.zero_le _⟩) (fun r1 σ1 H locs h hP hD hS => ?_)
    refine lv_if_eq (tgt := 23) hx hb dJ0_indexOf_7cf53_4 (by decide) (fun c4 => ?_) (fun c4 => ?_)
    · have h := h.1 c4
      exact h.elim
    · have h := h.2 c4
      refine lv_aload_n hx hb dJ0_indexOf_7cf53_7 rfl (lv_at hl 0 rfl) ?_
      refine vk_getf hx hb (ro_va hro hj) hS hown (hts _ (List.mem_of_getElem? (i := 1) rfl)) (fun _ h9 => h9) dJ0_indexOf_7cf53_8 ?_
      refine lv_iload_n hx hb dJ0_indexOf_7cf53_11 rfl (lv_at hl 1 rfl) ?_
      refine lv_iload_n hx hb dJ0_indexOf_7cf53_12 rfl (lv_at hl 2 rfl) ?_
      refine lv_aload_n hx hb dJ0_indexOf_7cf53_13 rfl (lv_at hl 0 rfl) ?_
      refine wx_ci C hD hS (va_runV (As := []) (rest := [.int x2, .int x1, .ref (vS j)]) C.1 (mtJ0_length_8abf5 (l := l) (D := D) (sz := H.size) hj h) (cwV 0 hts gJ0_indexOf_7cf53_J0_length_8abf5 rfl rfl rfl nyJ0_length_8abf5 ⟨Nat.le_of_ble_eq_true rfl, Nat.le_of_ble_eq_true rfl⟩) (wx_px C hP hD hS (vk_recv (ro_k hro) hj hS)) rfl rfl hl.1 rfl (lv_room (Nat.le_of_ble_eq_true rfl)) dJ0_indexOf_7cf53_14 ⟨Nat.zero_le _, Nat.zero_le _⟩) (fun r14 σ14 H locs h hP hD hS => ?_)
      refine wx_ci C hD hS (va_runS (As := [.ref (vS j), .int x1, .int x2, .int r14]) (rest := []) C.1 (mtJ1_indexOf_4cfef (l := l) (D := D) (sz := H.size) hj h) (va_cwS 4 hts gJ0_indexOf_7cf53_J1_indexOf_4cfef rfl rfl rfl nyJ1_indexOf_4cfef.2 ⟨Nat.le_of_ble_eq_true rfl, Nat.le_of_ble_eq_true rfl⟩) (wx_ps C hP hD hS) rfl rfl hl.1 rfl (lv_room (Nat.le_of_ble_eq_true rfl)) dJ0_indexOf_7cf53_17 ⟨Nat.zero_le _, Nat.zero_le _⟩) (fun r17 σ17 H locs h hP hD hS => ?_)
      refine lv_goto (tgt := 36) hx hb dJ0_indexOf_7cf53_20 (by decide) ?_
      exact Rt _ _ _ _ _ _ h hP hD hS dJ0_indexOf_7cf53_36
  rw [eH, eL] at goal
  exact goal
abbrev rmJ0_indexOf_0f7a4 : Room := { frames := 4, cells := 0, slots := 0, locals := 110 }
theorem nyJ0_indexOf_7cf53 : yJ0_indexOf_7cf53.cls = RJ0 ∧ yJ0_indexOf_7cf53.cls ≠ "java/lang/invoke/MethodHandle" ∧ yJ0_indexOf_7cf53.cls ≠ "java/lang/invoke/VarHandle" ∧ (parseMethodDescriptor yJ0_indexOf_7cf53.desc).map (fun d => d.parameters.length) = some 2 := by decide +kernel
set_option maxRecDepth 100000 in
set_option maxHeartbeats 4000000 in
theorem mtJ0_indexOf_0f7a4 {l : Launch} {D : va_G} {cI cB cS cR : ClassId} {ad : Nat → Nat} {tS tP : Nat} {kS vS : Nat → Nat} {sz : Nat} {j : Nat} {σ : wx_Z} {x1 : Int32} {K : Int32 → wx_Z → Prop} (hj : j < 2) (h : wpJ0_indexOf_0f7a4 j σ x1 K) : Met l yJ0_indexOf_0f7a4 wsJ0_indexOf_0f7a4 rmJ0_indexOf_0f7a4 (wx_Pre D [(cI, .int), (cB, .byte), (cS, .object RX5), (cR, .array .int)] (wC_RO tS tP kS vS) 58 (wC_E cI cB cS cR ad) ad σ sz [.ref (kS j), .int x1]) (va_Qi K (wx_B D [(cI, .int), (cB, .byte), (cS, .object RX5), (cR, .array .int)] 58 (wC_E cI cB cS cR ad) ad (va_A (wx_w 58 (wC_E cI cB cS cR ad) ad σ) sz)) (va_A (wx_w 58 (wC_E cI cB cS cR ad) ad σ) sz)) 0 0 (va_A (wx_w 58 (wC_E cI cB cS cR ad) ad σ) sz) := by
  unfold wpJ0_indexOf_0f7a4 at h
  refine wx_meti (cc := cJ0_indexOf_0f7a4) (maxL := 2) (own := RJ0) rfl (by decide) rfl (Nat.le_of_ble_eq_true rfl) (wC_ROok tS tP kS vS) ?_
  intro p e s m args below meth c A Q ls C Rt hP hD hS hl
  obtain ⟨⟨hx, hb, hml, hown, hts⟩, hA, hK, hRO, hro⟩ := id C
  have hl : lv_has ls 2 [(0, .ref (kS j)), (1, .int x1)] := hl
  obtain ⟨H, eH⟩ : ∃ z, z = s.heap := ⟨_, rfl⟩
  obtain ⟨locs, eL⟩ : ∃ z : List Loc, z = [] := ⟨_, rfl⟩
  rw [← eH] at hP
  have hS : va_S A s.heap H locs := by rw [eH, eL]; exact hS
  have goal : W p l e rmJ0_indexOf_0f7a4 s m args below meth c H locs 0 0 Q (F0 m 0 ls []) := by
    refine lv_aload_n hx hb dJ0_indexOf_0f7a4_0 rfl (lv_at hl 0 rfl) ?_
    refine lv_iload_n hx hb dJ0_indexOf_0f7a4_1 rfl (lv_at hl 1 rfl) ?_
    refine lv_iconst (v := 0) hx hb dJ0_indexOf_0f7a4_2 (by decide) ?_
    refine wx_ci C hD hS (va_runV (As := [.int x1, .int 0]) (rest := []) C.1 (mtJ0_indexOf_7cf53 (l := l) (D := D) (sz := H.size) hj h) (cwV 2 hts gJ0_indexOf_0f7a4_J0_indexOf_7cf53 rfl rfl rfl nyJ0_indexOf_7cf53 ⟨Nat.le_of_ble_eq_true rfl, Nat.le_of_ble_eq_true rfl⟩) (wx_px C hP hD hS (vk_recv (ro_k hro) hj hS)) rfl rfl hl.1 rfl (lv_room (Nat.le_of_ble_eq_true rfl)) dJ0_indexOf_0f7a4_3 ⟨Nat.zero_le _, Nat.zero_le _⟩) (fun r3 σ3 H locs h hP hD hS => ?_)
    exact Rt _ _ _ _ _ _ h hP hD hS dJ0_indexOf_0f7a4_6
  rw [eH, eL] at goal
  exact goal
abbrev rmX8_partsOf : Room := { frames := 1, cells := 0, slots := 0, locals := 40 }
set_option maxRecDepth 100000 in
set_option maxHeartbeats 4000000 in
theorem bX8_partsOf_4 {p : Program} {l : Launch} {e : Env} {s : State} {m : MethodId} {args : Array Value} {below : List Frame} {meth : Method} {c : Code} {A : Nat → Prop} {Q : State → Prop} {D : va_G} {cI cB cS cR : ClassId} {ad : Nat → Nat} {tS tP : Nat} {kS vS : Nat → Nat} {K : Int32 → wx_Z → Prop} (C : wx_C p s m args c cX8_partsOf 3 RX8 wsX8_partsOf D [(cI, .int), (cB, .byte), (cS, .object RX5), (cR, .array .int)] (wC_RO tS tP kS vS) A) (Rt : wx_Ri p l e rmX8_partsOf s m args below meth c cX8_partsOf D 58 (wC_E cI cB cS cR ad) ad A K Q) : ∀ (n : Nat) (σ : wx_Z) (x0 : Int32) (x1 : Int32) (x2 : Int32), wpX8_partsOf_4 K n σ x0 x1 x2 → ∀ (H : Heap) (locs : List Loc) (ls : Array Slot), va_P D vwCl (wx_w 58 (wC_E cI cB cS cR ad) ad σ) H → va_D A (wx_w 58 (wC_E cI cB cS cR ad) ad σ) → va_S A s.heap H locs → lv_has ls 3 [(0, .int x0), (1, .int x1), (2, .int x2)] → W p l e rmX8_partsOf s m args below meth c H locs 0 0 Q (F0 m 4 ls []) := by
  obtain ⟨⟨hx, hb, hml, hown, hts⟩, hA, hK, hRO, hro⟩ := id C
  intro n
  induction n with
  | zero => intro σ x0 x1 x2 h; exact h.elim
  | succ n ih =>
    intro σ x0 x1 x2 h H locs ls hP hD hS hl
    unfold wpX8_partsOf_4 at h
    refine lv_iload_n hx hb dX8_partsOf_4 rfl (lv_at hl 2 rfl) ?_
    refine lv_iconst (v := 5) hx hb dX8_partsOf_5 (by decide) ?_
    refine lv_icmp_ge (tgt := 32) hx hb dX8_partsOf_6 (by decide) (fun c6 => ?_) (fun c6 => ?_)
    · have h := h.1 c6
      refine lv_iload_n hx hb dX8_partsOf_32 rfl (lv_at hl 1 rfl) ?_
      exact Rt _ _ _ _ _ _ h hP hD hS dX8_partsOf_33
    · have h := h.2 c6
      refine lv_iload_n hx hb dX8_partsOf_9 rfl (lv_at hl 0 rfl) ?_
      refine lv_iload_n hx hb dX8_partsOf_10 rfl (lv_at hl 2 rfl) ?_
      refine lv_iushr (v := wx_us x0 x2) hx hb dX8_partsOf_11 rfl ?_
      refine lv_iconst (v := 1) hx hb dX8_partsOf_12 (by decide) ?_
      refine lv_iand hx hb dX8_partsOf_13 ?_
      refine lv_iconst (v := 1) hx hb dX8_partsOf_14 (by decide) ?_
      refine lv_icmp_ne (tgt := 26) hx hb dX8_partsOf_15 (by decide) (fun c15 => ?_) (fun c15 => ?_)
      · have h := h.1 c15
        obtain ⟨t26, e_t26⟩ : ∃ y : Int32, y = x2 + 1 := ⟨_, rfl⟩
        have h := h t26 e_t26
        refine lv_iinc (v := t26) (lv' := [(2, .int t26), (0, .int x0), (1, .int x1)]) hx hb dX8_partsOf_26 hl (k := 2) rfl (by rw [e_t26]; rfl) (by decide) rfl (fun ls hl => ?_)
        refine lv_goto (tgt := 4) hx hb dX8_partsOf_29 (by decide) ?_
        exact ih σ x0 x1 t26  h _ _ _ hP hD hS (lv_sub hl [1, 2, 0] rfl)
      · have h := h.2 c15
        refine lv_iload_n hx hb dX8_partsOf_18 rfl (lv_at hl 1 rfl) ?_
        refine lv_iload_n hx hb dX8_partsOf_19 rfl (lv_at hl 1 rfl) ?_
        refine lv_iconst (v := 1) hx hb dX8_partsOf_20 (by decide) ?_
        refine lv_iload_n hx hb dX8_partsOf_21 rfl (lv_at hl 2 rfl) ?_
        refine lv_ishl hx hb dX8_partsOf_22 ?_
        refine lv_ishl hx hb dX8_partsOf_23 ?_
        refine lv_ior hx hb dX8_partsOf_24 ?_
        refine lv_topi (fun t25 e_t25 => ?_)
        have h := h t25 e_t25
        refine lv_istore_n (lv' := [(1, .int t25), (0, .int x0), (2, .int x2)]) hx hb dX8_partsOf_25 rfl hl (by decide) rfl (fun ls hl => ?_)
        obtain ⟨t26_1, e_t26_1⟩ : ∃ y : Int32, y = x2 + 1 := ⟨_, rfl⟩
        have h := h t26_1 e_t26_1
        refine lv_iinc (v := t26_1) (lv' := [(2, .int t26_1), (1, .int t25), (0, .int x0)]) hx hb dX8_partsOf_26 hl (k := 2) rfl (by rw [e_t26_1]; rfl) (by decide) rfl (fun ls hl => ?_)
        refine lv_goto (tgt := 4) hx hb dX8_partsOf_29 (by decide) ?_
        exact ih σ x0 t25 t26_1  h _ _ _ hP hD hS (lv_sub hl [2, 1, 0] rfl)
set_option maxRecDepth 100000 in
set_option maxHeartbeats 4000000 in
theorem mtX8_partsOf {l : Launch} {D : va_G} {cI cB cS cR : ClassId} {ad : Nat → Nat} {tS tP : Nat} {kS vS : Nat → Nat} {sz : Nat} {σ : wx_Z} {x0 : Int32} {K : Int32 → wx_Z → Prop} (h : wpX8_partsOf σ x0 K) : Met l yX8_partsOf wsX8_partsOf rmX8_partsOf (wx_Pre D [(cI, .int), (cB, .byte), (cS, .object RX5), (cR, .array .int)] (wC_RO tS tP kS vS) 58 (wC_E cI cB cS cR ad) ad σ sz [.int x0]) (va_Qi K (wx_B D [(cI, .int), (cB, .byte), (cS, .object RX5), (cR, .array .int)] 58 (wC_E cI cB cS cR ad) ad (va_A (wx_w 58 (wC_E cI cB cS cR ad) ad σ) sz)) (va_A (wx_w 58 (wC_E cI cB cS cR ad) ad σ) sz)) 0 0 (va_A (wx_w 58 (wC_E cI cB cS cR ad) ad σ) sz) := by
  unfold wpX8_partsOf at h
  refine wx_meti (cc := cX8_partsOf) (maxL := 3) (own := RX8) rfl (by decide) rfl (Nat.le_of_ble_eq_true rfl) (wC_ROok tS tP kS vS) ?_
  intro p e s m args below meth c A Q ls C Rt hP hD hS hl
  obtain ⟨⟨hx, hb, hml, hown, hts⟩, hA, hK, hRO, hro⟩ := id C
  have hl : lv_has ls 3 [(0, .int x0)] := hl
  obtain ⟨H, eH⟩ : ∃ z, z = s.heap := ⟨_, rfl⟩
  obtain ⟨locs, eL⟩ : ∃ z : List Loc, z = [] := ⟨_, rfl⟩
  rw [← eH] at hP
  have hS : va_S A s.heap H locs := by rw [eH, eL]; exact hS
  have goal : W p l e rmX8_partsOf s m args below meth c H locs 0 0 Q (F0 m 0 ls []) := by
    refine lv_iconst (v := 1) hx hb dX8_partsOf_0 (by decide) ?_
    refine lv_istore_n (lv' := [(1, .int 1), (0, .int x0)]) hx hb dX8_partsOf_1 rfl hl (by decide) rfl (fun ls hl => ?_)
    refine lv_iconst (v := 0) hx hb dX8_partsOf_2 (by decide) ?_
    refine lv_istore_n (lv' := [(2, .int 0), (1, .int 1), (0, .int x0)]) hx hb dX8_partsOf_3 rfl hl (by decide) rfl (fun ls hl => ?_)
    obtain ⟨n4, h⟩ := h
    exact bX8_partsOf_4 C Rt n4 σ x0 1 0  h _ _ _ hP hD hS (lv_sub hl [2, 1, 0] rfl)
  rw [eH, eL] at goal
  exact goal
abbrev rmX8_isOdd : Room := { frames := 2, cells := 0, slots := 0, locals := 60 }
theorem nyJ6_bitCount_0f7a4 : yJ6_bitCount_0f7a4.cls = RJ6 ∧ yJ6_bitCount_0f7a4.cls ≠ "java/lang/invoke/MethodHandle" ∧ yJ6_bitCount_0f7a4.cls ≠ "java/lang/invoke/VarHandle" ∧ (parseMethodDescriptor yJ6_bitCount_0f7a4.desc).map (fun d => d.parameters.length) = some 1 := by decide +kernel
set_option maxRecDepth 100000 in
set_option maxHeartbeats 4000000 in
theorem mtX8_isOdd {l : Launch} {D : va_G} {cI cB cS cR : ClassId} {ad : Nat → Nat} {tS tP : Nat} {kS vS : Nat → Nat} {sz : Nat} {σ : wx_Z} {x0 : Int32} {K : Int32 → wx_Z → Prop} (h : wpX8_isOdd σ x0 K) : Met l yX8_isOdd wsX8_isOdd rmX8_isOdd (wx_Pre D [(cI, .int), (cB, .byte), (cS, .object RX5), (cR, .array .int)] (wC_RO tS tP kS vS) 58 (wC_E cI cB cS cR ad) ad σ sz [.int x0]) (va_Qi K (wx_B D [(cI, .int), (cB, .byte), (cS, .object RX5), (cR, .array .int)] 58 (wC_E cI cB cS cR ad) ad (va_A (wx_w 58 (wC_E cI cB cS cR ad) ad σ) sz)) (va_A (wx_w 58 (wC_E cI cB cS cR ad) ad σ) sz)) 0 0 (va_A (wx_w 58 (wC_E cI cB cS cR ad) ad σ) sz) := by
  unfold wpX8_isOdd at h
  refine wx_metz (cc := cX8_isOdd) (maxL := 1) (own := RX8) rfl (by decide) rfl (Nat.le_of_ble_eq_true rfl) (wC_ROok tS tP kS vS) ?_
  intro p e s m args below meth c A Q ls C Rt hP hD hS hl
  obtain ⟨⟨hx, hb, hml, hown, hts⟩, hA, hK, hRO, hro⟩ := id C
  have hl : lv_has ls 1 [(0, .int x0)] := hl
  obtain ⟨H, eH⟩ : ∃ z, z = s.heap := ⟨_, rfl⟩
  obtain ⟨locs, eL⟩ : ∃ z : List Loc, z = [] := ⟨_, rfl⟩
  rw [← eH] at hP
  have hS : va_S A s.heap H locs := by rw [eH, eL]; exact hS
  have goal : W p l e rmX8_isOdd s m args below meth c H locs 0 0 Q (F0 m 0 ls []) := by
    refine lv_iload_n hx hb dX8_isOdd_0 rfl (lv_at hl 0 rfl) ?_
    refine wx_ci C hD hS (va_runS (As := [.int x0]) (rest := []) C.1 (mtJ6_bitCount_0f7a4 (l := l) (D := D) (sz := H.size) h) (va_cwS 1 hts gX8_isOdd_J6_bitCount_0f7a4 rfl rfl rfl nyJ6_bitCount_0f7a4.2 ⟨Nat.le_of_ble_eq_true rfl, Nat.le_of_ble_eq_true rfl⟩) (wx_ps C hP hD hS) rfl rfl hl.1 rfl (lv_room (Nat.le_of_ble_eq_true rfl)) dX8_isOdd_1 ⟨Nat.zero_le _, Nat.zero_le _⟩) (fun r1 σ1 H locs h hP hD hS => ?_)
    refine lv_iconst (v := 1) hx hb dX8_isOdd_4 (by decide) ?_
    refine lv_iand hx hb dX8_isOdd_5 ?_
    refine lv_iconst (v := 1) hx hb dX8_isOdd_6 (by decide) ?_
    refine lv_icmp_ne (tgt := 14) hx hb dX8_isOdd_7 (by decide) (fun c7 => ?_) (fun c7 => ?_)
    · have h := h.1 c7
      refine lv_iconst (v := 0) hx hb dX8_isOdd_14 (by decide) ?_
      exact Rt _ _ _ _ _ _ rfl h hP hD hS dX8_isOdd_15
    · have h := h.2 c7
      refine lv_iconst (v := 1) hx hb dX8_isOdd_10 (by decide) ?_
      refine lv_goto (tgt := 15) hx hb dX8_isOdd_11 (by decide) ?_
      exact Rt _ _ _ _ _ _ rfl h hP hD hS dX8_isOdd_15
  rw [eH, eL] at goal
  exact goal
abbrev rmX0_isCarried : Room := { frames := 3, cells := 0, slots := 0, locals := 80 }
set_option maxRecDepth 20000 in
theorem inX0_isCarried_X0 : ∀ w ∈ u_ws RX0 TX0 5, w ∈ wsX0_isCarried := by decide +kernel
set_option maxRecDepth 20000 in
theorem inX0_isCarried_X1 : ∀ w ∈ u_ws RX1 TX1 5, w ∈ wsX0_isCarried := by decide +kernel
theorem nyX8_isOdd : yX8_isOdd.cls = RX8 ∧ yX8_isOdd.cls ≠ "java/lang/invoke/MethodHandle" ∧ yX8_isOdd.cls ≠ "java/lang/invoke/VarHandle" ∧ (parseMethodDescriptor yX8_isOdd.desc).map (fun d => d.parameters.length) = some 1 := by decide +kernel
theorem nyX8_partsOf : yX8_partsOf.cls = RX8 ∧ yX8_partsOf.cls ≠ "java/lang/invoke/MethodHandle" ∧ yX8_partsOf.cls ≠ "java/lang/invoke/VarHandle" ∧ (parseMethodDescriptor yX8_partsOf.desc).map (fun d => d.parameters.length) = some 1 := by decide +kernel
set_option maxRecDepth 100000 in
set_option maxHeartbeats 4000000 in
theorem bX0_isCarried_98 {p : Program} {l : Launch} {e : Env} {s : State} {m : MethodId} {args : Array Value} {below : List Frame} {meth : Method} {c : Code} {A : Nat → Prop} {Q : State → Prop} {D : va_G} {cI cB cS cR : ClassId} {ad : Nat → Nat} {tS tP : Nat} {kS vS : Nat → Nat} {g : Nat} {K : Int32 → wx_Z → Prop} (C : wx_C p s m args c cX0_isCarried 7 RX0 wsX0_isCarried D [(cI, .int), (cB, .byte), (cS, .object RX5), (cR, .array .int)] (wC_RO tS tP kS vS) A) (Rt : wx_Rz .boolean p l e rmX0_isCarried s m args below meth c cX0_isCarried D 58 (wC_E cI cB cS cR ad) ad A K Q) (hg : g < 10) : ∀ (σ : wx_Z) (x5 : Int32), wpX0_isCarried_98 g K σ x5 → ∀ (H : Heap) (locs : List Loc) (ls : Array Slot), va_P D vwCl (wx_w 58 (wC_E cI cB cS cR ad) ad σ) H → va_D A (wx_w 58 (wC_E cI cB cS cR ad) ad σ) → va_S A s.heap H locs → lv_has ls 7 [(5, .int x5)] → W p l e rmX0_isCarried s m args below meth c H locs 0 0 Q (F0 m 98 ls []) := by
  obtain ⟨⟨hx, hb, hml, hown, hts⟩, hA, hK, hRO, hro⟩ := id C
  intro σ x5 h H locs ls hP hD hS hl
  unfold wpX0_isCarried_98 at h
  refine lv_iload hx hb dX0_isCarried_98 (lv_at hl 0 rfl) ?_
  refine lv_if_le (tgt := 107) hx hb dX0_isCarried_100 (by decide) (fun c100 => ?_) (fun c100 => ?_)
  · have h := h.1 c100
    refine lv_iconst (v := 0) hx hb dX0_isCarried_107 (by decide) ?_
    exact Rt _ _ _ _ _ _ rfl h hP hD hS dX0_isCarried_108
  · have h := h.2 c100
    refine lv_iconst (v := 1) hx hb dX0_isCarried_103 (by decide) ?_
    refine lv_goto (tgt := 108) hx hb dX0_isCarried_104 (by decide) ?_
    exact Rt _ _ _ _ _ _ rfl h hP hD hS dX0_isCarried_108
set_option maxRecDepth 100000 in
set_option maxHeartbeats 4000000 in
theorem bX0_isCarried_72 {p : Program} {l : Launch} {e : Env} {s : State} {m : MethodId} {args : Array Value} {below : List Frame} {meth : Method} {c : Code} {A : Nat → Prop} {Q : State → Prop} {D : va_G} {cI cB cS cR : ClassId} {ad : Nat → Nat} {tS tP : Nat} {kS vS : Nat → Nat} {g : Nat} {K : Int32 → wx_Z → Prop} (C : wx_C p s m args c cX0_isCarried 7 RX0 wsX0_isCarried D [(cI, .int), (cB, .byte), (cS, .object RX5), (cR, .array .int)] (wC_RO tS tP kS vS) A) (Rt : wx_Rz .boolean p l e rmX0_isCarried s m args below meth c cX0_isCarried D 58 (wC_E cI cB cS cR ad) ad A K Q) (hg : g < 10) : ∀ (σ : wx_Z) (x3 : Int32) (x5 : Int32), wpX0_isCarried_72 g K σ x3 x5 → ∀ (H : Heap) (locs : List Loc) (ls : Array Slot), va_P D vwCl (wx_w 58 (wC_E cI cB cS cR ad) ad σ) H → va_D A (wx_w 58 (wC_E cI cB cS cR ad) ad σ) → va_S A s.heap H locs → lv_has ls 7 [(0, .ref (ad 45)), (3, .int x3), (5, .int x5)] → W p l e rmX0_isCarried s m args below meth c H locs 0 0 Q (F0 m 72 ls []) := by
  obtain ⟨⟨hx, hb, hml, hown, hts⟩, hA, hK, hRO, hro⟩ := id C
  intro σ x3 x5 h H locs ls hP hD hS hl
  unfold wpX0_isCarried_72 at h
  refine lv_iload hx hb dX0_isCarried_72 (lv_at hl 2 rfl) ?_
  refine va_mabs hx hb (hml.trans hl.1.symm) hown (hts (.methodLink RX0 66 Lib.Math.abs.name) (List.mem_of_getElem? (i := 3) rfl)) (hts (.static Lib.Math.abs.name) (List.mem_of_getElem? (i := 4) rfl)) (hts (.initialized "java/lang/Math") (List.mem_of_getElem? (i := 5) rfl)) (hts (.code Lib.Math.abs.name Lib.Math.abs.code 1 (some .int)) (List.mem_of_getElem? (i := 6) rfl)) (Nat.le_of_ble_eq_true rfl) (Nat.le_of_ble_eq_true rfl) (Nat.zero_le _) (Nat.zero_le _) dX0_isCarried_74 ?_
  refine lv_topi (fun t74 e_t74 => ?_)
  have h := h t74 e_t74
  refine lv_aload_n hx hb dX0_isCarried_77 rfl (lv_at hl 0 rfl) ?_
  refine wx_get C hP (q := 45) (ci := 0) (Nat.le_of_ble_eq_true rfl) (eC_45 _) (Cn := RX0) (T := TX0) (Nf := 5) rfl inX0_isCarried_X0 4 (by decide) (List.mem_of_getElem? (i := 7) rfl) (v := .int (σ 45 4)) rfl dX0_isCarried_78 ?_
  refine lv_icmp_ge (tgt := 98) hx hb dX0_isCarried_81 (by decide) (fun c81 => ?_) (fun c81 => ?_)
  · have h := h.1 c81
    exact bX0_isCarried_98 C Rt hg σ x5  h _ _ _ hP hD hS (lv_sub hl [2] rfl)
  · have h := h.2 c81
    refine lv_aload_n hx hb dX0_isCarried_84 rfl (lv_at hl 0 rfl) ?_
    refine lv_iload hx hb dX0_isCarried_85 (lv_at hl 2 rfl) ?_
    refine va_mabs hx hb (hml.trans hl.1.symm) hown (hts (.methodLink RX0 66 Lib.Math.abs.name) (List.mem_of_getElem? (i := 3) rfl)) (hts (.static Lib.Math.abs.name) (List.mem_of_getElem? (i := 4) rfl)) (hts (.initialized "java/lang/Math") (List.mem_of_getElem? (i := 5) rfl)) (hts (.code Lib.Math.abs.name Lib.Math.abs.code 1 (some .int)) (List.mem_of_getElem? (i := 6) rfl)) (Nat.le_of_ble_eq_true rfl) (Nat.le_of_ble_eq_true rfl) (Nat.zero_le _) (Nat.zero_le _) dX0_isCarried_87 ?_
    refine lv_topi (fun t87 e_t87 => ?_)
    have h := h t87 e_t87
    refine wx_put C hP hD hS (q := 45) (ci := 0) (Nat.le_of_ble_eq_true rfl) (eC_45 _) (Cn := RX0) (T := TX0) (Nf := 5) rfl inX0_isCarried_X0 tyX0 tyX0_ok nmX0 4 (by decide) (List.mem_of_getElem? (i := 7) rfl) rfl rfl (Nat.le_of_ble_eq_true rfl) rfl dX0_isCarried_90 (fun H locs hP hD hS => ?_)
    generalize e_σ90 : wx_up σ 45 4 t87 = σ90 at hP hD
    have h := h σ90 e_σ90.symm
    refine lv_aload_n hx hb dX0_isCarried_93 rfl (lv_at hl 0 rfl) ?_
    refine lv_iload_n hx hb dX0_isCarried_94 rfl (lv_at hl 1 rfl) ?_
    refine wx_put C hP hD hS (q := 45) (ci := 0) (Nat.le_of_ble_eq_true rfl) (eC_45 _) (Cn := RX0) (T := TX0) (Nf := 5) rfl inX0_isCarried_X0 tyX0 tyX0_ok nmX0 3 (by decide) (List.mem_of_getElem? (i := 8) rfl) rfl rfl (Nat.le_of_ble_eq_true rfl) rfl dX0_isCarried_95 (fun H locs hP hD hS => ?_)
    generalize e_σ95 : wx_up σ90 45 3 x3 = σ95 at hP hD
    have h := h σ95 e_σ95.symm
    exact bX0_isCarried_98 C Rt hg σ95 x5  h _ _ _ hP hD hS (lv_sub hl [2] rfl)
set_option maxRecDepth 100000 in
set_option maxHeartbeats 4000000 in
theorem bX0_isCarried_12 {p : Program} {l : Launch} {e : Env} {s : State} {m : MethodId} {args : Array Value} {below : List Frame} {meth : Method} {c : Code} {A : Nat → Prop} {Q : State → Prop} {D : va_G} {cI cB cS cR : ClassId} {ad : Nat → Nat} {tS tP : Nat} {kS vS : Nat → Nat} {g : Nat} {K : Int32 → wx_Z → Prop} (C : wx_C p s m args c cX0_isCarried 7 RX0 wsX0_isCarried D [(cI, .int), (cB, .byte), (cS, .object RX5), (cR, .array .int)] (wC_RO tS tP kS vS) A) (Rt : wx_Rz .boolean p l e rmX0_isCarried s m args below meth c cX0_isCarried D 58 (wC_E cI cB cS cR ad) ad A K Q) (hg : g < 10) : ∀ (n : Nat) (σ : wx_Z) (x2 : Int32) (x3 : Int32) (x4 : Int32) (x5 : Int32) (x6 : Int32), wpX0_isCarried_12 g K n σ x2 x3 x4 x5 x6 → ∀ (H : Heap) (locs : List Loc) (ls : Array Slot), va_P D vwCl (wx_w 58 (wC_E cI cB cS cR ad) ad σ) H → va_D A (wx_w 58 (wC_E cI cB cS cR ad) ad σ) → va_S A s.heap H locs → lv_has ls 7 [(0, .ref (ad 45)), (1, .ref (ad (cCo g))), (2, .int x2), (3, .int x3), (4, .int x4), (5, .int x5), (6, .int x6)] → W p l e rmX0_isCarried s m args below meth c H locs 0 0 Q (F0 m 12 ls []) := by
  obtain ⟨⟨hx, hb, hml, hown, hts⟩, hA, hK, hRO, hro⟩ := id C
  intro n
  induction n with
  | zero => intro σ x2 x3 x4 x5 x6 h; exact h.elim
  | succ n ih =>
    intro σ x2 x3 x4 x5 x6 h H locs ls hP hD hS hl
    unfold wpX0_isCarried_12 at h
    refine lv_iload hx hb dX0_isCarried_12 (lv_at hl 6 rfl) ?_
    refine lv_aload_n hx hb dX0_isCarried_14 rfl (lv_at hl 1 rfl) ?_
    refine wx_get C hP (q := (cCo g)) (ci := 1) (lt_co hg) (eC_co hg _) (Cn := RX1) (T := TX1) (Nf := 5) rfl inX0_isCarried_X1 2 (by decide) (List.mem_of_getElem? (i := 1) rfl) (v := .int (σ (cCo g) 2)) rfl dX0_isCarried_15 ?_
    refine lv_icmp_ge (tgt := 57) hx hb dX0_isCarried_18 (by decide) (fun c18 => ?_) (fun c18 => ?_)
    · have h := h.1 c18
      refine lv_iload hx hb dX0_isCarried_57 (lv_at hl 5 rfl) ?_
      refine lv_if_ne (tgt := 72) hx hb dX0_isCarried_59 (by decide) (fun c59 => ?_) (fun c59 => ?_)
      · have h := h.1 c59
        exact bX0_isCarried_72 C Rt hg σ x3 x5  h _ _ _ hP hD hS (lv_sub hl [0, 3, 5] rfl)
      · have h := h.2 c59
        refine lv_aload_n hx hb dX0_isCarried_62 rfl (lv_at hl 0 rfl) ?_
        refine lv_dup hx hb dX0_isCarried_63 rfl ?_
        refine wx_get C hP (q := 45) (ci := 0) (Nat.le_of_ble_eq_true rfl) (eC_45 _) (Cn := RX0) (T := TX0) (Nf := 5) rfl inX0_isCarried_X0 2 (by decide) (List.mem_of_getElem? (i := 2) rfl) (v := .int (σ 45 2)) rfl dX0_isCarried_64 ?_
        refine lv_iconst (v := 1) hx hb dX0_isCarried_67 (by decide) ?_
        refine lv_iadd hx hb dX0_isCarried_68 ?_
        refine wx_put C hP hD hS (q := 45) (ci := 0) (Nat.le_of_ble_eq_true rfl) (eC_45 _) (Cn := RX0) (T := TX0) (Nf := 5) rfl inX0_isCarried_X0 tyX0 tyX0_ok nmX0 2 (by decide) (List.mem_of_getElem? (i := 2) rfl) rfl rfl (Nat.le_of_ble_eq_true rfl) rfl dX0_isCarried_69 (fun H locs hP hD hS => ?_)
        generalize e_σ69 : wx_up σ 45 2 ((σ 45 2) + 1) = σ69 at hP hD
        have h := h σ69 e_σ69.symm
        exact bX0_isCarried_72 C Rt hg σ69 x3 x5  h _ _ _ hP hD hS (lv_sub hl [0, 3, 5] rfl)
    · have h := h.2 c18
      refine lv_iload hx hb dX0_isCarried_21 (lv_at hl 6 rfl) ?_
      refine lv_iload_n hx hb dX0_isCarried_23 rfl (lv_at hl 3 rfl) ?_
      refine lv_iand hx hb dX0_isCarried_24 ?_
      refine lv_if_ne (tgt := 51) hx hb dX0_isCarried_25 (by decide) (fun c25 => ?_) (fun c25 => ?_)
      · have h := h.1 c25
        obtain ⟨t51, e_t51⟩ : ∃ y : Int32, y = x6 + 1 := ⟨_, rfl⟩
        have h := h t51 e_t51
        refine lv_iinc (v := t51) (lv' := [(6, .int t51), (0, .ref (ad 45)), (1, .ref (ad (cCo g))), (2, .int x2), (3, .int x3), (4, .int x4), (5, .int x5)]) hx hb dX0_isCarried_51 hl (k := 6) rfl (by rw [e_t51]; rfl) (by decide) rfl (fun ls hl => ?_)
        refine lv_goto (tgt := 12) hx hb dX0_isCarried_54 (by decide) ?_
        exact ih σ x2 x3 x4 x5 t51  h _ _ _ hP hD hS (lv_sub hl [1, 2, 3, 4, 5, 6, 0] rfl)
      · have h := h.2 c25
        refine lv_iload hx hb dX0_isCarried_28 (lv_at hl 5 rfl) ?_
        refine lv_iload_n hx hb dX0_isCarried_30 rfl (lv_at hl 2 rfl) ?_
        refine lv_iload hx hb dX0_isCarried_31 (lv_at hl 4 rfl) ?_
        refine lv_iload hx hb dX0_isCarried_33 (lv_at hl 6 rfl) ?_
        refine lv_ishl hx hb dX0_isCarried_35 ?_
        refine lv_iand hx hb dX0_isCarried_36 ?_
        refine wx_ci C hD hS (va_runSN (As := [.int (x2 &&& (x4 <<< (x6 &&& 31)))]) (rest := [.int x5]) C.1 (mtX8_isOdd (l := l) (D := D) (sz := H.size) h) ⟨va_cnB 1 hts ggX0_isCarried_X8_isOdd rfl rfl rfl (ro_n5 hro) (hts (.initialized RX8) (List.mem_of_getElem? (i := 10) rfl)) nyX8_isOdd.2 ⟨Nat.le_of_ble_eq_true rfl, Nat.le_of_ble_eq_true rfl⟩, hts (.static yX8_isOdd) (List.mem_of_getElem? (i := 12) rfl), trivial⟩ (wx_ps C hP hD hS) rfl rfl hl.1 rfl (lv_room (Nat.le_of_ble_eq_true rfl)) dX0_isCarried_37 ⟨Nat.zero_le _, Nat.zero_le _⟩) (fun r37 σ37 H locs h hP hD hS => ?_)
        refine lv_if_eq (tgt := 47) hx hb dX0_isCarried_40 (by decide) (fun c40 => ?_) (fun c40 => ?_)
        · have h := h.1 c40
          refine lv_iconst (v := (-1)) hx hb dX0_isCarried_47 (by decide) ?_
          refine lv_iadd hx hb dX0_isCarried_48 ?_
          refine lv_topi (fun t49 e_t49 => ?_)
          have h := h t49 e_t49
          refine lv_istore (lv' := [(5, .int t49), (0, .ref (ad 45)), (1, .ref (ad (cCo g))), (2, .int x2), (3, .int x3), (4, .int x4), (6, .int x6)]) hx hb dX0_isCarried_49 hl (by decide) rfl (fun ls hl => ?_)
          obtain ⟨t51_1, e_t51_1⟩ : ∃ y : Int32, y = x6 + 1 := ⟨_, rfl⟩
          have h := h t51_1 e_t51_1
          refine lv_iinc (v := t51_1) (lv' := [(6, .int t51_1), (5, .int t49), (0, .ref (ad 45)), (1, .ref (ad (cCo g))), (2, .int x2), (3, .int x3), (4, .int x4)]) hx hb dX0_isCarried_51 hl (k := 6) rfl (by rw [e_t51_1]; rfl) (by decide) rfl (fun ls hl => ?_)
          refine lv_goto (tgt := 12) hx hb dX0_isCarried_54 (by decide) ?_
          exact ih σ37 x2 x3 x4 t49 t51_1  h _ _ _ hP hD hS (lv_sub hl [2, 3, 4, 5, 6, 1, 0] rfl)
        · have h := h.2 c40
          refine lv_iconst (v := 1) hx hb dX0_isCarried_43 (by decide) ?_
          refine lv_goto (tgt := 48) hx hb dX0_isCarried_44 (by decide) ?_
          refine lv_iadd hx hb dX0_isCarried_48 ?_
          refine lv_topi (fun t49_1 e_t49_1 => ?_)
          have h := h t49_1 e_t49_1
          refine lv_istore (lv' := [(5, .int t49_1), (0, .ref (ad 45)), (1, .ref (ad (cCo g))), (2, .int x2), (3, .int x3), (4, .int x4), (6, .int x6)]) hx hb dX0_isCarried_49 hl (by decide) rfl (fun ls hl => ?_)
          obtain ⟨t51_2, e_t51_2⟩ : ∃ y : Int32, y = x6 + 1 := ⟨_, rfl⟩
          have h := h t51_2 e_t51_2
          refine lv_iinc (v := t51_2) (lv' := [(6, .int t51_2), (5, .int t49_1), (0, .ref (ad 45)), (1, .ref (ad (cCo g))), (2, .int x2), (3, .int x3), (4, .int x4)]) hx hb dX0_isCarried_51 hl (k := 6) rfl (by rw [e_t51_2]; rfl) (by decide) rfl (fun ls hl => ?_)
          refine lv_goto (tgt := 12) hx hb dX0_isCarried_54 (by decide) ?_
          exact ih σ37 x2 x3 x4 t49_1 t51_2  h _ _ _ hP hD hS (lv_sub hl [2, 3, 4, 5, 6, 1, 0] rfl)
set_option maxRecDepth 100000 in
set_option maxHeartbeats 4000000 in
theorem mtX0_isCarried {l : Launch} {D : va_G} {cI cB cS cR : ClassId} {ad : Nat → Nat} {tS tP : Nat} {kS vS : Nat → Nat} {sz : Nat} {g : Nat} {σ : wx_Z} {x2 : Int32} {x3 : Int32} {K : Int32 → wx_Z → Prop} (hg : g < 10) (h : wpX0_isCarried g σ x2 x3 K) : Met l yX0_isCarried wsX0_isCarried rmX0_isCarried (wx_Pre D [(cI, .int), (cB, .byte), (cS, .object RX5), (cR, .array .int)] (wC_RO tS tP kS vS) 58 (wC_E cI cB cS cR ad) ad σ sz [.ref (ad 45), .ref (ad (cCo g)), .int x2, .int x3]) (va_Qi K (wx_B D [(cI, .int), (cB, .byte), (cS, .object RX5), (cR, .array .int)] 58 (wC_E cI cB cS cR ad) ad (va_A (wx_w 58 (wC_E cI cB cS cR ad) ad σ) sz)) (va_A (wx_w 58 (wC_E cI cB cS cR ad) ad σ) sz)) 0 0 (va_A (wx_w 58 (wC_E cI cB cS cR ad) ad σ) sz) := by
  unfold wpX0_isCarried at h
  refine wx_metz (cc := cX0_isCarried) (maxL := 7) (own := RX0) rfl (by decide) rfl (Nat.le_of_ble_eq_true rfl) (wC_ROok tS tP kS vS) ?_
  intro p e s m args below meth c A Q ls C Rt hP hD hS hl
  obtain ⟨⟨hx, hb, hml, hown, hts⟩, hA, hK, hRO, hro⟩ := id C
  have hl : lv_has ls 7 [(0, .ref (ad 45)), (1, .ref (ad (cCo g))), (2, .int x2), (3, .int x3)] := hl
  obtain ⟨H, eH⟩ : ∃ z, z = s.heap := ⟨_, rfl⟩
  obtain ⟨locs, eL⟩ : ∃ z : List Loc, z = [] := ⟨_, rfl⟩
  rw [← eH] at hP
  have hS : va_S A s.heap H locs := by rw [eH, eL]; exact hS
  have goal : W p l e rmX0_isCarried s m args below meth c H locs 0 0 Q (F0 m 0 ls []) := by
    refine lv_iload_n hx hb dX0_isCarried_0 rfl (lv_at hl 3 rfl) ?_
    refine wx_ci C hD hS (va_runSN (As := [.int x3]) (rest := []) C.1 (mtX8_partsOf (l := l) (D := D) (sz := H.size) h) ⟨va_cnB 1 hts ggX0_isCarried_X8_partsOf rfl rfl rfl (ro_n4 hro) (hts (.initialized RX8) (List.mem_of_getElem? (i := 10) rfl)) nyX8_partsOf.2 ⟨Nat.le_of_ble_eq_true rfl, Nat.le_of_ble_eq_true rfl⟩, hts (.static yX8_partsOf) (List.mem_of_getElem? (i := 9) rfl), trivial⟩ (wx_ps C hP hD hS) rfl rfl hl.1 rfl (lv_room (Nat.le_of_ble_eq_true rfl)) dX0_isCarried_1 ⟨Nat.zero_le _, Nat.zero_le _⟩) (fun r1 σ1 H locs h hP hD hS => ?_)
    refine lv_istore (lv' := [(4, .int r1), (0, .ref (ad 45)), (1, .ref (ad (cCo g))), (2, .int x2), (3, .int x3)]) hx hb dX0_isCarried_4 hl (by decide) rfl (fun ls hl => ?_)
    refine lv_iconst (v := 0) hx hb dX0_isCarried_6 (by decide) ?_
    refine lv_istore (lv' := [(5, .int 0), (4, .int r1), (0, .ref (ad 45)), (1, .ref (ad (cCo g))), (2, .int x2), (3, .int x3)]) hx hb dX0_isCarried_7 hl (by decide) rfl (fun ls hl => ?_)
    refine lv_iconst (v := 0) hx hb dX0_isCarried_9 (by decide) ?_
    refine lv_istore (lv' := [(6, .int 0), (5, .int 0), (4, .int r1), (0, .ref (ad 45)), (1, .ref (ad (cCo g))), (2, .int x2), (3, .int x3)]) hx hb dX0_isCarried_10 hl (by decide) rfl (fun ls hl => ?_)
    obtain ⟨n12, h⟩ := h
    exact bX0_isCarried_12 C Rt hg n12 σ1 x2 x3 r1 0 0  h _ _ _ hP hD hS (lv_sub hl [3, 4, 5, 6, 2, 1, 0] rfl)
  rw [eH, eL] at goal
  exact goal
abbrev rmX1_summed : Room := { frames := 1, cells := 0, slots := 0, locals := 40 }
set_option maxRecDepth 20000 in
theorem inX1_summed_X1 : ∀ w ∈ u_ws RX1 TX1 5, w ∈ wsX1_summed := by decide +kernel
set_option maxRecDepth 100000 in
set_option maxHeartbeats 4000000 in
theorem bX1_summed_4 {p : Program} {l : Launch} {e : Env} {s : State} {m : MethodId} {args : Array Value} {below : List Frame} {meth : Method} {c : Code} {A : Nat → Prop} {Q : State → Prop} {D : va_G} {cI cB cS cR : ClassId} {ad : Nat → Nat} {tS tP : Nat} {kS vS : Nat → Nat} {g : Nat} {K : Int32 → wx_Z → Prop} (C : wx_C p s m args c cX1_summed 4 RX1 wsX1_summed D [(cI, .int), (cB, .byte), (cS, .object RX5), (cR, .array .int)] (wC_RO tS tP kS vS) A) (Rt : wx_Ri p l e rmX1_summed s m args below meth c cX1_summed D 58 (wC_E cI cB cS cR ad) ad A K Q) (hg : g < 10) : ∀ (n : Nat) (σ : wx_Z) (x2 : Int32) (x3 : Int32), wpX1_summed_4 g K n σ x2 x3 → ∀ (H : Heap) (locs : List Loc) (ls : Array Slot), va_P D vwCl (wx_w 58 (wC_E cI cB cS cR ad) ad σ) H → va_D A (wx_w 58 (wC_E cI cB cS cR ad) ad σ) → va_S A s.heap H locs → lv_has ls 4 [(0, .ref (ad (cCo g))), (2, .int x2), (3, .int x3)] → W p l e rmX1_summed s m args below meth c H locs 0 0 Q (F0 m 4 ls []) := by
  obtain ⟨⟨hx, hb, hml, hown, hts⟩, hA, hK, hRO, hro⟩ := id C
  intro n
  induction n with
  | zero => intro σ x2 x3 h; exact h.elim
  | succ n ih =>
    intro σ x2 x3 h H locs ls hP hD hS hl
    unfold wpX1_summed_4 at h
    refine lv_iload_n hx hb dX1_summed_4 rfl (lv_at hl 2 rfl) ?_
    refine lv_aload_n hx hb dX1_summed_5 rfl (lv_at hl 0 rfl) ?_
    refine wx_get C hP (q := (cCo g)) (ci := 1) (lt_co hg) (eC_co hg _) (Cn := RX1) (T := TX1) (Nf := 5) rfl inX1_summed_X1 1 (by decide) (List.mem_of_getElem? (i := 1) rfl) (v := .int (σ (cCo g) 1)) rfl dX1_summed_6 ?_
    refine lv_icmp_ge (tgt := 32) hx hb dX1_summed_9 (by decide) (fun c9 => ?_) (fun c9 => ?_)
    · have h := h.1 c9
      refine lv_iload_n hx hb dX1_summed_32 rfl (lv_at hl 1 rfl) ?_
      exact Rt _ _ _ _ _ _ h hP hD hS dX1_summed_33
    · have h := h.2 c9
      refine lv_iload_n hx hb dX1_summed_12 rfl (lv_at hl 1 rfl) ?_
      refine lv_iload_n hx hb dX1_summed_13 rfl (lv_at hl 1 rfl) ?_
      refine va_getsN hx hb (ro_zP hro) hS hown (ro_n2 hro) (fun _ h9 => h9) dX1_summed_14 ?_
      refine lv_iload_n hx hb dX1_summed_17 rfl (lv_at hl 2 rfl) ?_
      refine va_ti hx hb (ro_tP hro) hS h.1 (v := .int (wC_P (Int32.toNatClampNeg x3))) rfl dX1_summed_18 ?_
      have h := h.2
      refine lv_iand hx hb dX1_summed_19 ?_
      refine lv_iconst (v := 1) hx hb dX1_summed_20 (by decide) ?_
      refine lv_iload_n hx hb dX1_summed_21 rfl (lv_at hl 2 rfl) ?_
      refine lv_ishl hx hb dX1_summed_22 ?_
      refine lv_ishl hx hb dX1_summed_23 ?_
      refine lv_ixor hx hb dX1_summed_24 ?_
      refine lv_topi (fun t25 e_t25 => ?_)
      have h := h t25 e_t25
      refine lv_istore_n (lv' := [(2, .int t25), (0, .ref (ad (cCo g))), (3, .int x3)]) hx hb dX1_summed_25 rfl hl (by decide) rfl (fun ls hl => ?_)
      obtain ⟨t26, e_t26⟩ : ∃ y : Int32, y = x3 + 1 := ⟨_, rfl⟩
      have h := h t26 e_t26
      refine lv_iinc (v := t26) (lv' := [(3, .int t26), (2, .int t25), (0, .ref (ad (cCo g)))]) hx hb dX1_summed_26 hl (k := 2) rfl (by rw [e_t26]; rfl) (by decide) rfl (fun ls hl => ?_)
      refine lv_goto (tgt := 4) hx hb dX1_summed_29 (by decide) ?_
      exact ih σ t25 t26  h _ _ _ hP hD hS (lv_sub hl [2, 1, 0] rfl)
set_option maxRecDepth 100000 in
set_option maxHeartbeats 4000000 in
theorem mtX1_summed {l : Launch} {D : va_G} {cI cB cS cR : ClassId} {ad : Nat → Nat} {tS tP : Nat} {kS vS : Nat → Nat} {sz : Nat} {g : Nat} {σ : wx_Z} {x1 : Int32} {K : Int32 → wx_Z → Prop} (hg : g < 10) (h : wpX1_summed g σ x1 K) : Met l yX1_summed wsX1_summed rmX1_summed (wx_Pre D [(cI, .int), (cB, .byte), (cS, .object RX5), (cR, .array .int)] (wC_RO tS tP kS vS) 58 (wC_E cI cB cS cR ad) ad σ sz [.ref (ad (cCo g)), .int x1]) (va_Qi K (wx_B D [(cI, .int), (cB, .byte), (cS, .object RX5), (cR, .array .int)] 58 (wC_E cI cB cS cR ad) ad (va_A (wx_w 58 (wC_E cI cB cS cR ad) ad σ) sz)) (va_A (wx_w 58 (wC_E cI cB cS cR ad) ad σ) sz)) 0 0 (va_A (wx_w 58 (wC_E cI cB cS cR ad) ad σ) sz) := by
  unfold wpX1_summed at h
  refine wx_meti (cc := cX1_summed) (maxL := 4) (own := RX1) rfl (by decide) rfl (Nat.le_of_ble_eq_true rfl) (wC_ROok tS tP kS vS) ?_
  intro p e s m args below meth c A Q ls C Rt hP hD hS hl
  obtain ⟨⟨hx, hb, hml, hown, hts⟩, hA, hK, hRO, hro⟩ := id C
  have hl : lv_has ls 4 [(0, .ref (ad (cCo g))), (1, .int x1)] := hl
  obtain ⟨H, eH⟩ : ∃ z, z = s.heap := ⟨_, rfl⟩
  obtain ⟨locs, eL⟩ : ∃ z : List Loc, z = [] := ⟨_, rfl⟩
  rw [← eH] at hP
  have hS : va_S A s.heap H locs := by rw [eH, eL]; exact hS
  have goal : W p l e rmX1_summed s m args below meth c H locs 0 0 Q (F0 m 0 ls []) := by
    refine lv_iload_n hx hb dX1_summed_0 rfl (lv_at hl 1 rfl) ?_
    refine lv_istore_n (lv' := [(2, .int x1), (0, .ref (ad (cCo g))), (1, .int x1)]) hx hb dX1_summed_1 rfl hl (by decide) rfl (fun ls hl => ?_)
    refine lv_iconst (v := 0) hx hb dX1_summed_2 (by decide) ?_
    refine lv_istore_n (lv' := [(3, .int 0), (2, .int x1), (0, .ref (ad (cCo g))), (1, .int x1)]) hx hb dX1_summed_3 rfl hl (by decide) rfl (fun ls hl => ?_)
    obtain ⟨n4, h⟩ := h
    exact bX1_summed_4 C Rt hg n4 σ x1 0  h _ _ _ hP hD hS (lv_sub hl [2, 1, 0] rfl)
  rw [eH, eL] at goal
  exact goal
abbrev rmX0_wordVoted : Room := { frames := 4, cells := 0, slots := 0, locals := 106 }
set_option maxRecDepth 20000 in
theorem inX0_wordVoted_X0 : ∀ w ∈ u_ws RX0 TX0 5, w ∈ wsX0_wordVoted := by decide +kernel
set_option maxRecDepth 20000 in
theorem inX0_wordVoted_X1 : ∀ w ∈ u_ws RX1 TX1 5, w ∈ wsX0_wordVoted := by decide +kernel
theorem nyX0_isCarried : yX0_isCarried.cls = RX0 ∧ yX0_isCarried.cls ≠ "java/lang/invoke/MethodHandle" ∧ yX0_isCarried.cls ≠ "java/lang/invoke/VarHandle" ∧ (parseMethodDescriptor yX0_isCarried.desc).map (fun d => d.parameters.length) = some 3 := by decide +kernel
theorem nyX1_summed : yX1_summed.cls = RX1 ∧ yX1_summed.cls ≠ "java/lang/invoke/MethodHandle" ∧ yX1_summed.cls ≠ "java/lang/invoke/VarHandle" ∧ (parseMethodDescriptor yX1_summed.desc).map (fun d => d.parameters.length) = some 1 := by decide +kernel
set_option maxRecDepth 100000 in
set_option maxHeartbeats 4000000 in
theorem bX0_wordVoted_6 {p : Program} {l : Launch} {e : Env} {s : State} {m : MethodId} {args : Array Value} {below : List Frame} {meth : Method} {c : Code} {A : Nat → Prop} {Q : State → Prop} {D : va_G} {cI cB cS cR : ClassId} {ad : Nat → Nat} {tS tP : Nat} {kS vS : Nat → Nat} {g : Nat} {K : Int32 → wx_Z → Prop} (C : wx_C p s m args c cX0_wordVoted 7 RX0 wsX0_wordVoted D [(cI, .int), (cB, .byte), (cS, .object RX5), (cR, .array .int)] (wC_RO tS tP kS vS) A) (Rt : wx_Ri p l e rmX0_wordVoted s m args below meth c cX0_wordVoted D 58 (wC_E cI cB cS cR ad) ad A K Q) (hg : g < 10) : ∀ (n : Nat) (σ : wx_Z) (x2 : Int32) (x3 : Int32) (x4 : Int32) (x5 : Int32), wpX0_wordVoted_6 g K n σ x2 x3 x4 x5 → ∀ (H : Heap) (locs : List Loc) (ls : Array Slot), va_P D vwCl (wx_w 58 (wC_E cI cB cS cR ad) ad σ) H → va_D A (wx_w 58 (wC_E cI cB cS cR ad) ad σ) → va_S A s.heap H locs → lv_has ls 7 [(0, .ref (ad 45)), (1, .ref (ad (cCo g))), (2, .int x2), (3, .int x3), (4, .int x4), (5, .int x5)] → W p l e rmX0_wordVoted s m args below meth c H locs 0 0 Q (F0 m 6 ls []) := by
  obtain ⟨⟨hx, hb, hml, hown, hts⟩, hA, hK, hRO, hro⟩ := id C
  intro n
  induction n with
  | zero => intro σ x2 x3 x4 x5 h; exact h.elim
  | succ n ih =>
    intro σ x2 x3 x4 x5 h H locs ls hP hD hS hl
    unfold wpX0_wordVoted_6 at h
    refine lv_iload hx hb dX0_wordVoted_6 (lv_at hl 5 rfl) ?_
    refine lv_aload_n hx hb dX0_wordVoted_8 rfl (lv_at hl 1 rfl) ?_
    refine wx_get C hP (q := (cCo g)) (ci := 1) (lt_co hg) (eC_co hg _) (Cn := RX1) (T := TX1) (Nf := 5) rfl inX0_wordVoted_X1 3 (by decide) (List.mem_of_getElem? (i := 1) rfl) (v := .int (σ (cCo g) 3)) rfl dX0_wordVoted_9 ?_
    refine lv_icmp_ge (tgt := 72) hx hb dX0_wordVoted_12 (by decide) (fun c12 => ?_) (fun c12 => ?_)
    · have h := h.1 c12
      refine lv_aload_n hx hb dX0_wordVoted_72 rfl (lv_at hl 1 rfl) ?_
      refine lv_iload hx hb dX0_wordVoted_73 (lv_at hl 4 rfl) ?_
      refine wx_ci C hD hS (va_runV (As := [.int x4]) (rest := []) C.1 (mtX1_summed (l := l) (D := D) (sz := H.size) hg h) (cwV 1 hts gX0_wordVoted_X1_summed rfl rfl rfl nyX1_summed ⟨Nat.le_of_ble_eq_true rfl, Nat.le_of_ble_eq_true rfl⟩) (wx_pv C hP hD hS (q := (cCo g)) (ci := 1) (lt_co hg) (eC_co hg _) rfl) rfl rfl hl.1 rfl (lv_room (Nat.le_of_ble_eq_true rfl)) dX0_wordVoted_75 ⟨Nat.zero_le _, Nat.zero_le _⟩) (fun r75 σ75 H locs h hP hD hS => ?_)
      exact Rt _ _ _ _ _ _ h hP hD hS dX0_wordVoted_78
    · have h := h.2 c12
      refine lv_aload_n hx hb dX0_wordVoted_15 rfl (lv_at hl 1 rfl) ?_
      refine wx_get C hP (q := (cCo g)) (ci := 1) (lt_co hg) (eC_co hg _) (Cn := RX1) (T := TX1) (Nf := 5) rfl inX0_wordVoted_X1 4 (by decide) (List.mem_of_getElem? (i := 2) rfl) (v := .ref (ad (cTe g))) rfl dX0_wordVoted_16 ?_
      refine lv_iload hx hb dX0_wordVoted_19 (lv_at hl 5 rfl) ?_
      refine wx_ild C hP (q := (cTe g)) (lt_te hg) (eC_te hg) 0 rfl h.1 dX0_wordVoted_21 ?_
      have h := h.2
      refine lv_istore (lv' := [(6, .int (σ (cTe g) (Int32.toNatClampNeg x5))), (0, .ref (ad 45)), (1, .ref (ad (cCo g))), (2, .int x2), (3, .int x3), (4, .int x4), (5, .int x5)]) hx hb dX0_wordVoted_22 hl (by decide) rfl (fun ls hl => ?_)
      refine lv_iload hx hb dX0_wordVoted_24 (lv_at hl 0 rfl) ?_
      refine wx_ci C hD hS (va_runS (As := [.int (σ (cTe g) (Int32.toNatClampNeg x5))]) (rest := []) C.1 (mtJ6_bitCount_0f7a4 (l := l) (D := D) (sz := H.size) h) (va_cwS 1 hts gX0_wordVoted_J6_bitCount_0f7a4 rfl rfl rfl nyJ6_bitCount_0f7a4.2 ⟨Nat.le_of_ble_eq_true rfl, Nat.le_of_ble_eq_true rfl⟩) (wx_ps C hP hD hS) rfl rfl hl.1 rfl (lv_room (Nat.le_of_ble_eq_true rfl)) dX0_wordVoted_26 ⟨Nat.zero_le _, Nat.zero_le _⟩) (fun r26 σ26 H locs h hP hD hS => ?_)
      refine lv_iload_n hx hb dX0_wordVoted_29 rfl (lv_at hl 4 rfl) ?_
      refine lv_icmp_ne (tgt := 66) hx hb dX0_wordVoted_30 (by decide) (fun c30 => ?_) (fun c30 => ?_)
      · have h := h.1 c30
        obtain ⟨t66, e_t66⟩ : ∃ y : Int32, y = x5 + 1 := ⟨_, rfl⟩
        have h := h t66 e_t66
        refine lv_iinc (v := t66) (lv' := [(5, .int t66), (6, .int (σ (cTe g) (Int32.toNatClampNeg x5))), (0, .ref (ad 45)), (1, .ref (ad (cCo g))), (2, .int x2), (3, .int x3), (4, .int x4)]) hx hb dX0_wordVoted_66 hl (k := 6) rfl (by rw [e_t66]; rfl) (by decide) rfl (fun ls hl => ?_)
        refine lv_goto (tgt := 6) hx hb dX0_wordVoted_69 (by decide) ?_
        exact ih σ26 x2 x3 x4 t66  h _ _ _ hP hD hS (lv_sub hl [2, 3, 4, 5, 6, 0] rfl)
      · have h := h.2 c30
        refine lv_aload_n hx hb dX0_wordVoted_33 rfl (lv_at hl 1 rfl) ?_
        refine lv_aload_n hx hb dX0_wordVoted_34 rfl (lv_at hl 2 rfl) ?_
        refine lv_iload_n hx hb dX0_wordVoted_35 rfl (lv_at hl 3 rfl) ?_
        refine lv_iload hx hb dX0_wordVoted_36 (lv_at hl 0 rfl) ?_
        refine wx_ci C hD hS (va_runV (As := [.ref (ad (cCo g)), .int x2, .int (σ (cTe g) (Int32.toNatClampNeg x5))]) (rest := []) C.1 (mtX0_isCarried (l := l) (D := D) (sz := H.size) hg h) (cwV 3 hts gX0_wordVoted_X0_isCarried rfl rfl rfl nyX0_isCarried ⟨Nat.le_of_ble_eq_true rfl, Nat.le_of_ble_eq_true rfl⟩) (wx_pv C hP hD hS (q := 45) (ci := 0) (Nat.le_of_ble_eq_true rfl) (eC_45 _) rfl) rfl rfl hl.1 rfl (lv_room (Nat.le_of_ble_eq_true rfl)) dX0_wordVoted_38 ⟨Nat.zero_le _, Nat.zero_le _⟩) (fun r38 σ38 H locs h hP hD hS => ?_)
        refine lv_if_eq (tgt := 66) hx hb dX0_wordVoted_41 (by decide) (fun c41 => ?_) (fun c41 => ?_)
        · have h := h.1 c41
          obtain ⟨t66_1, e_t66_1⟩ : ∃ y : Int32, y = x5 + 1 := ⟨_, rfl⟩
          have h := h t66_1 e_t66_1
          refine lv_iinc (v := t66_1) (lv' := [(5, .int t66_1), (6, .int (σ (cTe g) (Int32.toNatClampNeg x5))), (0, .ref (ad 45)), (1, .ref (ad (cCo g))), (2, .int x2), (3, .int x3), (4, .int x4)]) hx hb dX0_wordVoted_66 hl (k := 6) rfl (by rw [e_t66_1]; rfl) (by decide) rfl (fun ls hl => ?_)
          refine lv_goto (tgt := 6) hx hb dX0_wordVoted_69 (by decide) ?_
          exact ih σ38 x2 x3 x4 t66_1  h _ _ _ hP hD hS (lv_sub hl [2, 3, 4, 5, 6, 0] rfl)
        · have h := h.2 c41
          refine lv_aload_n hx hb dX0_wordVoted_44 rfl (lv_at hl 1 rfl) ?_
          refine lv_dup hx hb dX0_wordVoted_45 rfl ?_
          refine wx_get C hP (q := 45) (ci := 0) (Nat.le_of_ble_eq_true rfl) (eC_45 _) (Cn := RX0) (T := TX0) (Nf := 5) rfl inX0_wordVoted_X0 0 (by decide) (List.mem_of_getElem? (i := 3) rfl) (v := .int (σ38 45 0)) rfl dX0_wordVoted_46 ?_
          refine lv_iconst (v := 1) hx hb dX0_wordVoted_49 (by decide) ?_
          refine lv_iload hx hb dX0_wordVoted_50 (lv_at hl 6 rfl) ?_
          refine lv_ishl hx hb dX0_wordVoted_52 ?_
          refine lv_ior hx hb dX0_wordVoted_53 ?_
          refine wx_put C hP hD hS (q := 45) (ci := 0) (Nat.le_of_ble_eq_true rfl) (eC_45 _) (Cn := RX0) (T := TX0) (Nf := 5) rfl inX0_wordVoted_X0 tyX0 tyX0_ok nmX0 0 (by decide) (List.mem_of_getElem? (i := 3) rfl) rfl rfl (Nat.le_of_ble_eq_true rfl) rfl dX0_wordVoted_54 (fun H locs hP hD hS => ?_)
          generalize e_σ54 : wx_up σ38 45 0 ((σ38 45 0) ||| (1 <<< (x5 &&& 31))) = σ54 at hP hD
          have h := h σ54 e_σ54.symm
          refine lv_iload hx hb dX0_wordVoted_57 (lv_at hl 5 rfl) ?_
          refine lv_iconst (v := 1) hx hb dX0_wordVoted_59 (by decide) ?_
          refine lv_iload hx hb dX0_wordVoted_60 (lv_at hl 0 rfl) ?_
          refine lv_ishl hx hb dX0_wordVoted_62 ?_
          refine lv_ior hx hb dX0_wordVoted_63 ?_
          refine lv_topi (fun t64 e_t64 => ?_)
          have h := h t64 e_t64
          refine lv_istore (lv' := [(4, .int t64), (6, .int (σ (cTe g) (Int32.toNatClampNeg x5))), (0, .ref (ad 45)), (1, .ref (ad (cCo g))), (2, .int x2), (3, .int x3), (5, .int x5)]) hx hb dX0_wordVoted_64 hl (by decide) rfl (fun ls hl => ?_)
          obtain ⟨t66_2, e_t66_2⟩ : ∃ y : Int32, y = x5 + 1 := ⟨_, rfl⟩
          have h := h t66_2 e_t66_2
          refine lv_iinc (v := t66_2) (lv' := [(5, .int t66_2), (4, .int t64), (6, .int (σ (cTe g) (Int32.toNatClampNeg x5))), (0, .ref (ad 45)), (1, .ref (ad (cCo g))), (2, .int x2), (3, .int x3)]) hx hb dX0_wordVoted_66 hl (k := 6) rfl (by rw [e_t66_2]; rfl) (by decide) rfl (fun ls hl => ?_)
          refine lv_goto (tgt := 6) hx hb dX0_wordVoted_69 (by decide) ?_
          exact ih σ54 x2 x3 t64 t66_2  h _ _ _ hP hD hS (lv_sub hl [3, 4, 5, 6, 1, 0] rfl)
set_option maxRecDepth 100000 in
set_option maxHeartbeats 4000000 in
theorem mtX0_wordVoted {l : Launch} {D : va_G} {cI cB cS cR : ClassId} {ad : Nat → Nat} {tS tP : Nat} {kS vS : Nat → Nat} {sz : Nat} {g : Nat} {σ : wx_Z} {x2 : Int32} {x3 : Int32} {K : Int32 → wx_Z → Prop} (hg : g < 10) (h : wpX0_wordVoted g σ x2 x3 K) : Met l yX0_wordVoted wsX0_wordVoted rmX0_wordVoted (wx_Pre D [(cI, .int), (cB, .byte), (cS, .object RX5), (cR, .array .int)] (wC_RO tS tP kS vS) 58 (wC_E cI cB cS cR ad) ad σ sz [.ref (ad 45), .ref (ad (cCo g)), .int x2, .int x3]) (va_Qi K (wx_B D [(cI, .int), (cB, .byte), (cS, .object RX5), (cR, .array .int)] 58 (wC_E cI cB cS cR ad) ad (va_A (wx_w 58 (wC_E cI cB cS cR ad) ad σ) sz)) (va_A (wx_w 58 (wC_E cI cB cS cR ad) ad σ) sz)) 0 0 (va_A (wx_w 58 (wC_E cI cB cS cR ad) ad σ) sz) := by
  unfold wpX0_wordVoted at h
  refine wx_meti (cc := cX0_wordVoted) (maxL := 7) (own := RX0) rfl (by decide) rfl (Nat.le_of_ble_eq_true rfl) (wC_ROok tS tP kS vS) ?_
  intro p e s m args below meth c A Q ls C Rt hP hD hS hl
  obtain ⟨⟨hx, hb, hml, hown, hts⟩, hA, hK, hRO, hro⟩ := id C
  have hl : lv_has ls 7 [(0, .ref (ad 45)), (1, .ref (ad (cCo g))), (2, .int x2), (3, .int x3)] := hl
  obtain ⟨H, eH⟩ : ∃ z, z = s.heap := ⟨_, rfl⟩
  obtain ⟨locs, eL⟩ : ∃ z : List Loc, z = [] := ⟨_, rfl⟩
  rw [← eH] at hP
  have hS : va_S A s.heap H locs := by rw [eH, eL]; exact hS
  have goal : W p l e rmX0_wordVoted s m args below meth c H locs 0 0 Q (F0 m 0 ls []) := by
    refine lv_iconst (v := 0) hx hb dX0_wordVoted_0 (by decide) ?_
    refine lv_istore (lv' := [(4, .int 0), (0, .ref (ad 45)), (1, .ref (ad (cCo g))), (2, .int x2), (3, .int x3)]) hx hb dX0_wordVoted_1 hl (by decide) rfl (fun ls hl => ?_)
    refine lv_iconst (v := 0) hx hb dX0_wordVoted_3 (by decide) ?_
    refine lv_istore (lv' := [(5, .int 0), (4, .int 0), (0, .ref (ad 45)), (1, .ref (ad (cCo g))), (2, .int x2), (3, .int x3)]) hx hb dX0_wordVoted_4 hl (by decide) rfl (fun ls hl => ?_)
    obtain ⟨n6, h⟩ := h
    exact bX0_wordVoted_6 C Rt hg n6 σ x2 x3 0 0  h _ _ _ hP hD hS (lv_sub hl [2, 3, 4, 5, 1, 0] rfl)
  rw [eH, eL] at goal
  exact goal
abbrev rmX0_hold : Room := { frames := 5, cells := 0, slots := 0, locals := 132 }
set_option maxRecDepth 20000 in
theorem inX0_hold_X0 : ∀ w ∈ u_ws RX0 TX0 5, w ∈ wsX0_hold := by decide +kernel
set_option maxRecDepth 20000 in
theorem inX0_hold_X1 : ∀ w ∈ u_ws RX1 TX1 5, w ∈ wsX0_hold := by decide +kernel
theorem nyX0_wordVoted : yX0_wordVoted.cls = RX0 ∧ yX0_wordVoted.cls ≠ "java/lang/invoke/MethodHandle" ∧ yX0_wordVoted.cls ≠ "java/lang/invoke/VarHandle" ∧ (parseMethodDescriptor yX0_wordVoted.desc).map (fun d => d.parameters.length) = some 3 := by decide +kernel
set_option maxRecDepth 100000 in
set_option maxHeartbeats 4000000 in
theorem bX0_hold_31 {p : Program} {l : Launch} {e : Env} {s : State} {m : MethodId} {args : Array Value} {below : List Frame} {meth : Method} {c : Code} {A : Nat → Prop} {Q : State → Prop} {D : va_G} {cI cB cS cR : ClassId} {ad : Nat → Nat} {tS tP : Nat} {kS vS : Nat → Nat} {g : Nat} {K : wx_Z → Prop} (C : wx_C p s m args c cX0_hold 4 RX0 wsX0_hold D [(cI, .int), (cB, .byte), (cS, .object RX5), (cR, .array .int)] (wC_RO tS tP kS vS) A) (Rt : wx_Rv p l e rmX0_hold s m args below meth c cX0_hold D 58 (wC_E cI cB cS cR ad) ad A K Q) (hg : g < 10) : ∀ (n : Nat) (σ : wx_Z) (x2 : Int32) (x3 : Int32), wpX0_hold_31 g K n σ x2 x3 → ∀ (H : Heap) (locs : List Loc) (ls : Array Slot), va_P D vwCl (wx_w 58 (wC_E cI cB cS cR ad) ad σ) H → va_D A (wx_w 58 (wC_E cI cB cS cR ad) ad σ) → va_S A s.heap H locs → lv_has ls 4 [(0, .ref (ad 45)), (1, .ref (ad (cCo g))), (2, .int x2), (3, .int x3)] → W p l e rmX0_hold s m args below meth c H locs 0 0 Q (F0 m 31 ls []) := by
  obtain ⟨⟨hx, hb, hml, hown, hts⟩, hA, hK, hRO, hro⟩ := id C
  intro n
  induction n with
  | zero => intro σ x2 x3 h; exact h.elim
  | succ n ih =>
    intro σ x2 x3 h H locs ls hP hD hS hl
    unfold wpX0_hold_31 at h
    refine lv_iload_n hx hb dX0_hold_31 rfl (lv_at hl 3 rfl) ?_
    refine lv_if_lt (tgt := 62) hx hb dX0_hold_32 (by decide) (fun c32 => ?_) (fun c32 => ?_)
    · have h := h.1 c32
      exact Rt _ _ _ _ _ h hP hD hS dX0_hold_62
    · have h := h.2 c32
      refine lv_aload_n hx hb dX0_hold_35 rfl (lv_at hl 0 rfl) ?_
      refine lv_dup hx hb dX0_hold_36 rfl ?_
      refine wx_get C hP (q := 45) (ci := 0) (Nat.le_of_ble_eq_true rfl) (eC_45 _) (Cn := RX0) (T := TX0) (Nf := 5) rfl inX0_hold_X0 1 (by decide) (List.mem_of_getElem? (i := 2) rfl) (v := .int (σ 45 1)) rfl dX0_hold_37 ?_
      refine lv_aload_n hx hb dX0_hold_40 rfl (lv_at hl 0 rfl) ?_
      refine lv_aload_n hx hb dX0_hold_41 rfl (lv_at hl 1 rfl) ?_
      refine lv_iload_n hx hb dX0_hold_42 rfl (lv_at hl 2 rfl) ?_
      refine lv_aload_n hx hb dX0_hold_43 rfl (lv_at hl 0 rfl) ?_
      refine wx_get C hP (q := 45) (ci := 0) (Nat.le_of_ble_eq_true rfl) (eC_45 _) (Cn := RX0) (T := TX0) (Nf := 5) rfl inX0_hold_X0 1 (by decide) (List.mem_of_getElem? (i := 2) rfl) (v := .int (σ 45 1)) rfl dX0_hold_44 ?_
      refine lv_ixor hx hb dX0_hold_47 ?_
      refine lv_iload_n hx hb dX0_hold_48 rfl (lv_at hl 3 rfl) ?_
      refine wx_ci C hD hS (va_runV (As := [.ref (ad (cCo g)), .int (x2 ^^^ (σ 45 1)), .int x3]) (rest := [.int (σ 45 1), .ref (ad 45)]) C.1 (mtX0_wordVoted (l := l) (D := D) (sz := H.size) hg h) (cwV 3 hts gX0_hold_X0_wordVoted rfl rfl rfl nyX0_wordVoted ⟨Nat.le_of_ble_eq_true rfl, Nat.le_of_ble_eq_true rfl⟩) (wx_pv C hP hD hS (q := 45) (ci := 0) (Nat.le_of_ble_eq_true rfl) (eC_45 _) rfl) rfl rfl hl.1 rfl (lv_room (Nat.le_of_ble_eq_true rfl)) dX0_hold_49 ⟨Nat.zero_le _, Nat.zero_le _⟩) (fun r49 σ49 H locs h hP hD hS => ?_)
      refine lv_ixor hx hb dX0_hold_52 ?_
      refine wx_put C hP hD hS (q := 45) (ci := 0) (Nat.le_of_ble_eq_true rfl) (eC_45 _) (Cn := RX0) (T := TX0) (Nf := 5) rfl inX0_hold_X0 tyX0 tyX0_ok nmX0 1 (by decide) (List.mem_of_getElem? (i := 2) rfl) rfl rfl (Nat.le_of_ble_eq_true rfl) rfl dX0_hold_53 (fun H locs hP hD hS => ?_)
      generalize e_σ53 : wx_up σ49 45 1 ((σ 45 1) ^^^ r49) = σ53 at hP hD
      have h := h σ53 e_σ53.symm
      obtain ⟨t56, e_t56⟩ : ∃ y : Int32, y = x3 + (-1) := ⟨_, rfl⟩
      have h := h t56 e_t56
      refine lv_iinc (v := t56) (lv' := [(3, .int t56), (0, .ref (ad 45)), (1, .ref (ad (cCo g))), (2, .int x2)]) hx hb dX0_hold_56 hl (k := 3) rfl (by rw [e_t56]; rfl) (by decide) rfl (fun ls hl => ?_)
      refine lv_goto (tgt := 31) hx hb dX0_hold_59 (by decide) ?_
      exact ih σ53 x2 t56  h _ _ _ hP hD hS (lv_sub hl [1, 2, 3, 0] rfl)
set_option maxRecDepth 100000 in
set_option maxHeartbeats 4000000 in
theorem mtX0_hold {l : Launch} {D : va_G} {cI cB cS cR : ClassId} {ad : Nat → Nat} {tS tP : Nat} {kS vS : Nat → Nat} {sz : Nat} {g : Nat} {σ : wx_Z} {x2 : Int32} {K : wx_Z → Prop} (hg : g < 10) (h : wpX0_hold g σ x2 K) : Met l yX0_hold wsX0_hold rmX0_hold (wx_Pre D [(cI, .int), (cB, .byte), (cS, .object RX5), (cR, .array .int)] (wC_RO tS tP kS vS) 58 (wC_E cI cB cS cR ad) ad σ sz [.ref (ad 45), .ref (ad (cCo g)), .int x2]) (va_Qv K (wx_B D [(cI, .int), (cB, .byte), (cS, .object RX5), (cR, .array .int)] 58 (wC_E cI cB cS cR ad) ad (va_A (wx_w 58 (wC_E cI cB cS cR ad) ad σ) sz)) (va_A (wx_w 58 (wC_E cI cB cS cR ad) ad σ) sz)) 0 0 (va_A (wx_w 58 (wC_E cI cB cS cR ad) ad σ) sz) := by
  unfold wpX0_hold at h
  refine wx_metv (cc := cX0_hold) (maxL := 4) (own := RX0) rfl (by decide) rfl (Nat.le_of_ble_eq_true rfl) (wC_ROok tS tP kS vS) ?_
  intro p e s m args below meth c A Q ls C Rt hP hD hS hl
  obtain ⟨⟨hx, hb, hml, hown, hts⟩, hA, hK, hRO, hro⟩ := id C
  have hl : lv_has ls 4 [(0, .ref (ad 45)), (1, .ref (ad (cCo g))), (2, .int x2)] := hl
  obtain ⟨H, eH⟩ : ∃ z, z = s.heap := ⟨_, rfl⟩
  obtain ⟨locs, eL⟩ : ∃ z : List Loc, z = [] := ⟨_, rfl⟩
  rw [← eH] at hP
  have hS : va_S A s.heap H locs := by rw [eH, eL]; exact hS
  have goal : W p l e rmX0_hold s m args below meth c H locs 0 0 Q (F0 m 0 ls []) := by
    refine lv_aload_n hx hb dX0_hold_0 rfl (lv_at hl 0 rfl) ?_
    refine lv_iconst (v := 0) hx hb dX0_hold_1 (by decide) ?_
    refine wx_put C hP hD hS (q := 45) (ci := 0) (Nat.le_of_ble_eq_true rfl) (eC_45 _) (Cn := RX0) (T := TX0) (Nf := 5) rfl inX0_hold_X0 tyX0 tyX0_ok nmX0 0 (by decide) (List.mem_of_getElem? (i := 1) rfl) rfl rfl (Nat.le_of_ble_eq_true rfl) rfl dX0_hold_2 (fun H locs hP hD hS => ?_)
    generalize e_σ2 : wx_up σ 45 0 0 = σ2 at hP hD
    have h := h σ2 e_σ2.symm
    refine lv_aload_n hx hb dX0_hold_5 rfl (lv_at hl 0 rfl) ?_
    refine lv_iconst (v := 0) hx hb dX0_hold_6 (by decide) ?_
    refine wx_put C hP hD hS (q := 45) (ci := 0) (Nat.le_of_ble_eq_true rfl) (eC_45 _) (Cn := RX0) (T := TX0) (Nf := 5) rfl inX0_hold_X0 tyX0 tyX0_ok nmX0 1 (by decide) (List.mem_of_getElem? (i := 2) rfl) rfl rfl (Nat.le_of_ble_eq_true rfl) rfl dX0_hold_7 (fun H locs hP hD hS => ?_)
    generalize e_σ7 : wx_up σ2 45 1 0 = σ7 at hP hD
    have h := h σ7 e_σ7.symm
    refine lv_aload_n hx hb dX0_hold_10 rfl (lv_at hl 0 rfl) ?_
    refine lv_iconst (v := 0) hx hb dX0_hold_11 (by decide) ?_
    refine wx_put C hP hD hS (q := 45) (ci := 0) (Nat.le_of_ble_eq_true rfl) (eC_45 _) (Cn := RX0) (T := TX0) (Nf := 5) rfl inX0_hold_X0 tyX0 tyX0_ok nmX0 2 (by decide) (List.mem_of_getElem? (i := 3) rfl) rfl rfl (Nat.le_of_ble_eq_true rfl) rfl dX0_hold_12 (fun H locs hP hD hS => ?_)
    generalize e_σ12 : wx_up σ7 45 2 0 = σ12 at hP hD
    have h := h σ12 e_σ12.symm
    refine lv_aload_n hx hb dX0_hold_15 rfl (lv_at hl 0 rfl) ?_
    refine lv_iconst (v := (-1)) hx hb dX0_hold_16 (by decide) ?_
    refine wx_put C hP hD hS (q := 45) (ci := 0) (Nat.le_of_ble_eq_true rfl) (eC_45 _) (Cn := RX0) (T := TX0) (Nf := 5) rfl inX0_hold_X0 tyX0 tyX0_ok nmX0 3 (by decide) (List.mem_of_getElem? (i := 4) rfl) rfl rfl (Nat.le_of_ble_eq_true rfl) rfl dX0_hold_17 (fun H locs hP hD hS => ?_)
    generalize e_σ17 : wx_up σ12 45 3 (-1) = σ17 at hP hD
    have h := h σ17 e_σ17.symm
    refine lv_aload_n hx hb dX0_hold_20 rfl (lv_at hl 0 rfl) ?_
    refine lv_bipush (v := 33) hx hb dX0_hold_21 (by decide) ?_
    refine wx_put C hP hD hS (q := 45) (ci := 0) (Nat.le_of_ble_eq_true rfl) (eC_45 _) (Cn := RX0) (T := TX0) (Nf := 5) rfl inX0_hold_X0 tyX0 tyX0_ok nmX0 4 (by decide) (List.mem_of_getElem? (i := 5) rfl) rfl rfl (Nat.le_of_ble_eq_true rfl) rfl dX0_hold_23 (fun H locs hP hD hS => ?_)
    generalize e_σ23 : wx_up σ17 45 4 33 = σ23 at hP hD
    have h := h σ23 e_σ23.symm
    refine lv_aload_n hx hb dX0_hold_26 rfl (lv_at hl 1 rfl) ?_
    refine wx_get C hP (q := (cCo g)) (ci := 1) (lt_co hg) (eC_co hg _) (Cn := RX1) (T := TX1) (Nf := 5) rfl inX0_hold_X1 0 (by decide) (List.mem_of_getElem? (i := 6) rfl) (v := .int (σ23 (cCo g) 0)) rfl dX0_hold_27 ?_
    refine lv_istore_n (lv' := [(3, .int (σ23 (cCo g) 0)), (0, .ref (ad 45)), (1, .ref (ad (cCo g))), (2, .int x2)]) hx hb dX0_hold_30 rfl hl (by decide) rfl (fun ls hl => ?_)
    obtain ⟨n31, h⟩ := h
    exact bX0_hold_31 C Rt hg n31 σ23 x2 (σ23 (cCo g) 0)  h _ _ _ hP hD hS (lv_sub hl [1, 2, 3, 0] rfl)
  rw [eH, eL] at goal
  exact goal
abbrev rmX1_become : Room := { frames := 2, cells := 0, slots := 0, locals := 60 }
set_option maxRecDepth 20000 in
theorem inX1_become_X1 : ∀ w ∈ u_ws RX1 TX1 5, w ∈ wsX1_become := by decide +kernel
set_option maxRecDepth 100000 in
set_option maxHeartbeats 4000000 in
theorem bX1_become_33 {p : Program} {l : Launch} {e : Env} {s : State} {m : MethodId} {args : Array Value} {below : List Frame} {meth : Method} {c : Code} {A : Nat → Prop} {Q : State → Prop} {D : va_G} {cI cB cS cR : ClassId} {ad : Nat → Nat} {tS tP : Nat} {kS vS : Nat → Nat} {g : Nat} {K : wx_Z → Prop} (C : wx_C p s m args c cX1_become 7 RX1 wsX1_become D [(cI, .int), (cB, .byte), (cS, .object RX5), (cR, .array .int)] (wC_RO tS tP kS vS) A) (Rt : wx_Rv p l e rmX1_become s m args below meth c cX1_become D 58 (wC_E cI cB cS cR ad) ad A K Q) (hg : g < 10) : ∀ (n : Nat) (σ : wx_Z) (x1 : Int32) (x4 : Int32) (x5 : Int32), wpX1_become_33 g K n σ x1 x4 x5 → ∀ (H : Heap) (locs : List Loc) (ls : Array Slot), va_P D vwCl (wx_w 58 (wC_E cI cB cS cR ad) ad σ) H → va_D A (wx_w 58 (wC_E cI cB cS cR ad) ad σ) → va_S A s.heap H locs → lv_has ls 7 [(0, .ref (ad (cCo g))), (1, .int x1), (3, .ref tS), (4, .int x4), (5, .int x5)] → W p l e rmX1_become s m args below meth c H locs 0 0 Q (F0 m 33 ls []) := by
  obtain ⟨⟨hx, hb, hml, hown, hts⟩, hA, hK, hRO, hro⟩ := id C
  intro n
  induction n with
  | zero => intro σ x1 x4 x5 h; exact h.elim
  | succ n ih =>
    intro σ x1 x4 x5 h H locs ls hP hD hS hl
    unfold wpX1_become_33 at h
    refine lv_iload hx hb dX1_become_33 (lv_at hl 4 rfl) ?_
    refine lv_iload hx hb dX1_become_35 (lv_at hl 3 rfl) ?_
    refine lv_icmp_ge (tgt := 91) hx hb dX1_become_37 (by decide) (fun c37 => ?_) (fun c37 => ?_)
    · have h := h.1 c37
      exact Rt _ _ _ _ _ h hP hD hS dX1_become_91
    · have h := h.2 c37
      refine lv_aload_n hx hb dX1_become_40 rfl (lv_at hl 2 rfl) ?_
      refine lv_iload hx hb dX1_become_41 (lv_at hl 4 rfl) ?_
      refine va_ti hx hb (ro_tS hro) hS h.1 (v := .int (wC_S (Int32.toNatClampNeg x5))) rfl dX1_become_43 ?_
      have h := h.2
      refine lv_istore (lv' := [(6, .int (wC_S (Int32.toNatClampNeg x5))), (0, .ref (ad (cCo g))), (1, .int x1), (3, .ref tS), (4, .int x4), (5, .int x5)]) hx hb dX1_become_44 hl (by decide) rfl (fun ls hl => ?_)
      refine lv_iload hx hb dX1_become_46 (lv_at hl 0 rfl) ?_
      refine lv_aload_n hx hb dX1_become_48 rfl (lv_at hl 1 rfl) ?_
      refine wx_get C hP (q := (cCo g)) (ci := 1) (lt_co hg) (eC_co hg _) (Cn := RX1) (T := TX1) (Nf := 5) rfl inX1_become_X1 2 (by decide) (List.mem_of_getElem? (i := 3) rfl) (v := .int (σ (cCo g) 2)) rfl dX1_become_49 ?_
      refine lv_icmp_ge (tgt := 85) hx hb dX1_become_52 (by decide) (fun c52 => ?_) (fun c52 => ?_)
      · have h := h.1 c52
        obtain ⟨t85, e_t85⟩ : ∃ y : Int32, y = x5 + 1 := ⟨_, rfl⟩
        have h := h t85 e_t85
        refine lv_iinc (v := t85) (lv' := [(5, .int t85), (6, .int (wC_S (Int32.toNatClampNeg x5))), (0, .ref (ad (cCo g))), (1, .int x1), (3, .ref tS), (4, .int x4)]) hx hb dX1_become_85 hl (k := 5) rfl (by rw [e_t85]; rfl) (by decide) rfl (fun ls hl => ?_)
        refine lv_goto (tgt := 33) hx hb dX1_become_88 (by decide) ?_
        exact ih σ x1 x4 t85  h _ _ _ hP hD hS (lv_sub hl [2, 3, 4, 5, 0] rfl)
      · have h := h.2 c52
        refine lv_iload hx hb dX1_become_55 (lv_at hl 0 rfl) ?_
        refine wx_ci C hD hS (va_runS (As := [.int (wC_S (Int32.toNatClampNeg x5))]) (rest := []) C.1 (mtJ6_bitCount_0f7a4 (l := l) (D := D) (sz := H.size) h) (va_cwS 1 hts gX1_become_J6_bitCount_0f7a4 rfl rfl rfl nyJ6_bitCount_0f7a4.2 ⟨Nat.le_of_ble_eq_true rfl, Nat.le_of_ble_eq_true rfl⟩) (wx_ps C hP hD hS) rfl rfl hl.1 rfl (lv_room (Nat.le_of_ble_eq_true rfl)) dX1_become_57 ⟨Nat.zero_le _, Nat.zero_le _⟩) (fun r57 σ57 H locs h hP hD hS => ?_)
        refine lv_iload_n hx hb dX1_become_60 rfl (lv_at hl 2 rfl) ?_
        refine lv_icmp_gt (tgt := 85) hx hb dX1_become_61 (by decide) (fun c61 => ?_) (fun c61 => ?_)
        · have h := h.1 c61
          obtain ⟨t85_1, e_t85_1⟩ : ∃ y : Int32, y = x5 + 1 := ⟨_, rfl⟩
          have h := h t85_1 e_t85_1
          refine lv_iinc (v := t85_1) (lv' := [(5, .int t85_1), (6, .int (wC_S (Int32.toNatClampNeg x5))), (0, .ref (ad (cCo g))), (1, .int x1), (3, .ref tS), (4, .int x4)]) hx hb dX1_become_85 hl (k := 5) rfl (by rw [e_t85_1]; rfl) (by decide) rfl (fun ls hl => ?_)
          refine lv_goto (tgt := 33) hx hb dX1_become_88 (by decide) ?_
          exact ih σ57 x1 x4 t85_1  h _ _ _ hP hD hS (lv_sub hl [2, 3, 4, 5, 0] rfl)
        · have h := h.2 c61
          refine lv_aload_n hx hb dX1_become_64 rfl (lv_at hl 1 rfl) ?_
          refine wx_get C hP (q := (cCo g)) (ci := 1) (lt_co hg) (eC_co hg _) (Cn := RX1) (T := TX1) (Nf := 5) rfl inX1_become_X1 4 (by decide) (List.mem_of_getElem? (i := 5) rfl) (v := .ref (ad (cTe g))) rfl dX1_become_65 ?_
          refine lv_aload_n hx hb dX1_become_68 rfl (lv_at hl 1 rfl) ?_
          refine wx_get C hP (q := (cCo g)) (ci := 1) (lt_co hg) (eC_co hg _) (Cn := RX1) (T := TX1) (Nf := 5) rfl inX1_become_X1 3 (by decide) (List.mem_of_getElem? (i := 4) rfl) (v := .int (σ57 (cCo g) 3)) rfl dX1_become_69 ?_
          refine lv_iload hx hb dX1_become_72 (lv_at hl 0 rfl) ?_
          refine wx_ist C hP hD hS (q := (cTe g)) (lt_te hg) (eC_te hg) 0 rfl h.1 dX1_become_74 (fun H locs hP hD hS => ?_)
          generalize e_σ74 : wx_up σ57 (cTe g) (Int32.toNatClampNeg (σ57 (cCo g) 3)) (wC_S (Int32.toNatClampNeg x5)) = σ74 at hP hD
          have h := h.2 σ74 e_σ74.symm
          refine lv_aload_n hx hb dX1_become_75 rfl (lv_at hl 1 rfl) ?_
          refine lv_dup hx hb dX1_become_76 rfl ?_
          refine wx_get C hP (q := (cCo g)) (ci := 1) (lt_co hg) (eC_co hg _) (Cn := RX1) (T := TX1) (Nf := 5) rfl inX1_become_X1 3 (by decide) (List.mem_of_getElem? (i := 4) rfl) (v := .int (σ74 (cCo g) 3)) rfl dX1_become_77 ?_
          refine lv_iconst (v := 1) hx hb dX1_become_80 (by decide) ?_
          refine lv_iadd hx hb dX1_become_81 ?_
          refine wx_put C hP hD hS (q := (cCo g)) (ci := 1) (lt_co hg) (eC_co hg _) (Cn := RX1) (T := TX1) (Nf := 5) rfl inX1_become_X1 tyX1 tyX1_ok nmX1 3 (by decide) (List.mem_of_getElem? (i := 4) rfl) rfl rfl (Nat.le_of_ble_eq_true rfl) (eC_co hg _) dX1_become_82 (fun H locs hP hD hS => ?_)
          generalize e_σ82 : wx_up σ74 (cCo g) 3 ((σ74 (cCo g) 3) + 1) = σ82 at hP hD
          have h := h σ82 e_σ82.symm
          obtain ⟨t85_2, e_t85_2⟩ : ∃ y : Int32, y = x5 + 1 := ⟨_, rfl⟩
          have h := h t85_2 e_t85_2
          refine lv_iinc (v := t85_2) (lv' := [(5, .int t85_2), (6, .int (wC_S (Int32.toNatClampNeg x5))), (0, .ref (ad (cCo g))), (1, .int x1), (3, .ref tS), (4, .int x4)]) hx hb dX1_become_85 hl (k := 5) rfl (by rw [e_t85_2]; rfl) (by decide) rfl (fun ls hl => ?_)
          refine lv_goto (tgt := 33) hx hb dX1_become_88 (by decide) ?_
          exact ih σ82 x1 x4 t85_2  h _ _ _ hP hD hS (lv_sub hl [2, 3, 4, 5, 0] rfl)
set_option maxRecDepth 100000 in
set_option maxHeartbeats 4000000 in
theorem mtX1_become {l : Launch} {D : va_G} {cI cB cS cR : ClassId} {ad : Nat → Nat} {tS tP : Nat} {kS vS : Nat → Nat} {sz : Nat} {g : Nat} {σ : wx_Z} {x1 : Int32} {x2 : Int32} {K : wx_Z → Prop} (hg : g < 10) (h : wpX1_become g σ x1 x2 K) : Met l yX1_become wsX1_become rmX1_become (wx_Pre D [(cI, .int), (cB, .byte), (cS, .object RX5), (cR, .array .int)] (wC_RO tS tP kS vS) 58 (wC_E cI cB cS cR ad) ad σ sz [.ref (ad (cCo g)), .int x1, .int x2]) (va_Qv K (wx_B D [(cI, .int), (cB, .byte), (cS, .object RX5), (cR, .array .int)] 58 (wC_E cI cB cS cR ad) ad (va_A (wx_w 58 (wC_E cI cB cS cR ad) ad σ) sz)) (va_A (wx_w 58 (wC_E cI cB cS cR ad) ad σ) sz)) 0 0 (va_A (wx_w 58 (wC_E cI cB cS cR ad) ad σ) sz) := by
  unfold wpX1_become at h
  refine wx_metv (cc := cX1_become) (maxL := 7) (own := RX1) rfl (by decide) rfl (Nat.le_of_ble_eq_true rfl) (wC_ROok tS tP kS vS) ?_
  intro p e s m args below meth c A Q ls C Rt hP hD hS hl
  obtain ⟨⟨hx, hb, hml, hown, hts⟩, hA, hK, hRO, hro⟩ := id C
  have hl : lv_has ls 7 [(0, .ref (ad (cCo g))), (1, .int x1), (2, .int x2)] := hl
  obtain ⟨H, eH⟩ : ∃ z, z = s.heap := ⟨_, rfl⟩
  obtain ⟨locs, eL⟩ : ∃ z : List Loc, z = [] := ⟨_, rfl⟩
  rw [← eH] at hP
  have hS : va_S A s.heap H locs := by rw [eH, eL]; exact hS
  have goal : W p l e rmX1_become s m args below meth c H locs 0 0 Q (F0 m 0 ls []) := by
    refine lv_aload_n hx hb dX1_become_0 rfl (lv_at hl 0 rfl) ?_
    refine lv_iload_n hx hb dX1_become_1 rfl (lv_at hl 1 rfl) ?_
    refine wx_put C hP hD hS (q := (cCo g)) (ci := 1) (lt_co hg) (eC_co hg _) (Cn := RX1) (T := TX1) (Nf := 5) rfl inX1_become_X1 tyX1 tyX1_ok nmX1 0 (by decide) (List.mem_of_getElem? (i := 1) rfl) rfl rfl (Nat.le_of_ble_eq_true rfl) (eC_co hg _) dX1_become_2 (fun H locs hP hD hS => ?_)
    generalize e_σ2 : wx_up σ (cCo g) 0 x1 = σ2 at hP hD
    have h := h σ2 e_σ2.symm
    refine lv_aload_n hx hb dX1_become_5 rfl (lv_at hl 0 rfl) ?_
    refine lv_iload_n hx hb dX1_become_6 rfl (lv_at hl 2 rfl) ?_
    refine wx_put C hP hD hS (q := (cCo g)) (ci := 1) (lt_co hg) (eC_co hg _) (Cn := RX1) (T := TX1) (Nf := 5) rfl inX1_become_X1 tyX1 tyX1_ok nmX1 1 (by decide) (List.mem_of_getElem? (i := 2) rfl) rfl rfl (Nat.le_of_ble_eq_true rfl) (eC_co hg _) dX1_become_7 (fun H locs hP hD hS => ?_)
    generalize e_σ7 : wx_up σ2 (cCo g) 1 x2 = σ7 at hP hD
    have h := h σ7 e_σ7.symm
    refine lv_aload_n hx hb dX1_become_10 rfl (lv_at hl 0 rfl) ?_
    refine lv_iconst (v := 1) hx hb dX1_become_11 (by decide) ?_
    refine lv_iload_n hx hb dX1_become_12 rfl (lv_at hl 2 rfl) ?_
    refine lv_ishl hx hb dX1_become_13 ?_
    refine wx_put C hP hD hS (q := (cCo g)) (ci := 1) (lt_co hg) (eC_co hg _) (Cn := RX1) (T := TX1) (Nf := 5) rfl inX1_become_X1 tyX1 tyX1_ok nmX1 2 (by decide) (List.mem_of_getElem? (i := 3) rfl) rfl rfl (Nat.le_of_ble_eq_true rfl) (eC_co hg _) dX1_become_14 (fun H locs hP hD hS => ?_)
    generalize e_σ14 : wx_up σ7 (cCo g) 2 (1 <<< (x2 &&& 31)) = σ14 at hP hD
    have h := h σ14 e_σ14.symm
    refine lv_aload_n hx hb dX1_become_17 rfl (lv_at hl 0 rfl) ?_
    refine lv_iconst (v := 0) hx hb dX1_become_18 (by decide) ?_
    refine wx_put C hP hD hS (q := (cCo g)) (ci := 1) (lt_co hg) (eC_co hg _) (Cn := RX1) (T := TX1) (Nf := 5) rfl inX1_become_X1 tyX1 tyX1_ok nmX1 3 (by decide) (List.mem_of_getElem? (i := 4) rfl) rfl rfl (Nat.le_of_ble_eq_true rfl) (eC_co hg _) dX1_become_19 (fun H locs hP hD hS => ?_)
    generalize e_σ19 : wx_up σ14 (cCo g) 3 0 = σ19 at hP hD
    have h := h σ19 e_σ19.symm
    refine va_getsN hx hb (ro_zS hro) hS hown (ro_n1 hro) (fun _ h9 => h9) dX1_become_22 ?_
    refine lv_astore_n (lv' := [(3, .ref tS), (0, .ref (ad (cCo g))), (1, .int x1), (2, .int x2)]) hx hb dX1_become_25 rfl hl (by decide) rfl (fun ls hl => ?_)
    refine lv_aload_n hx hb dX1_become_26 rfl (lv_at hl 0 rfl) ?_
    refine va_tlen hx hb (ro_tS hro) hS (v := 32) (by decide) dX1_become_27 ?_
    refine lv_istore (lv' := [(4, .int 32), (3, .ref tS), (0, .ref (ad (cCo g))), (1, .int x1), (2, .int x2)]) hx hb dX1_become_28 hl (by decide) rfl (fun ls hl => ?_)
    refine lv_iconst (v := 0) hx hb dX1_become_30 (by decide) ?_
    refine lv_istore (lv' := [(5, .int 0), (4, .int 32), (3, .ref tS), (0, .ref (ad (cCo g))), (1, .int x1), (2, .int x2)]) hx hb dX1_become_31 hl (by decide) rfl (fun ls hl => ?_)
    obtain ⟨n33, h⟩ := h
    exact bX1_become_33 C Rt hg n33 σ19 x1 32 0  h _ _ _ hP hD hS (lv_sub hl [3, 4, 2, 1, 0] rfl)
  rw [eH, eL] at goal
  exact goal

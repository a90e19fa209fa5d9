abbrev rmX9_weights : Room := { frames := 6, cells := 0, slots := 0, locals := 145 }
set_option maxRecDepth 20000 in
theorem inX9_weights_X9 : ∀ w ∈ u_ws RX9 TX9 27, w ∈ wsX9_weights := by decide +kernel
set_option maxRecDepth 100000 in
set_option maxHeartbeats 4000000 in
theorem bX9_weights_110 {p : Program} {l : Launch} {e : Env} {s : State} {m : MethodId} {args : Array Value} {below : List Frame} {meth : Method} {c : Code} {A : Nat → Prop} {Q : State → Prop} {D : va_G} {cI : ClassId} {ad : Nat → Nat} {K : Int32 → wx_Z → Prop} {C58 : wx_Z → Int32 → Int32 → Int32 → Int32 → Int32 → Prop} (C : wx_C p s m args c cX9_weights 8 RX9 wsX9_weights D [(cI, .int)] wx_T0 A) (Rt : wx_Ri p l e rmX9_weights s m args below meth c cX9_weights D 14 (wM_E cI ad) ad A K Q) (hC58 : ∀ (σ : wx_Z) (x1 : Int32) (x2 : Int32) (x3 : Int32) (x4 : Int32) (x5 : Int32), C58 σ x1 x2 x3 x4 x5 → ∀ (H : Heap) (locs : List Loc) (ls : Array Slot), va_P D vwCl (wx_w 14 (wM_E cI ad) ad σ) H → va_D A (wx_w 14 (wM_E cI ad) ad σ) → va_S A s.heap H locs → lv_has ls 8 [(0, .ref (ad 0)), (1, .int x1), (2, .int x2), (3, .int x3), (4, .int x4), (5, .int x5)] → W p l e rmX9_weights s m args below meth c H locs 0 0 Q (F0 m 58 ls [])) : ∀ (σ : wx_Z) (x1 : Int32) (x2 : Int32) (x3 : Int32) (x4 : Int32) (x5 : Int32), wpX9_weights_110 K C58 σ x1 x2 x3 x4 x5 → ∀ (H : Heap) (locs : List Loc) (ls : Array Slot), va_P D vwCl (wx_w 14 (wM_E cI ad) ad σ) H → va_D A (wx_w 14 (wM_E cI ad) ad σ) → va_S A s.heap H locs → lv_has ls 8 [(0, .ref (ad 0)), (1, .int x1), (2, .int x2), (3, .int x3), (4, .int x4), (5, .int x5)] → W p l e rmX9_weights s m args below meth c H locs 0 0 Q (F0 m 110 ls []) := by
  obtain ⟨⟨hx, hb, hml, hown, hts⟩, hA, hK, hRO, hro⟩ := id C
  intro σ x1 x2 x3 x4 x5 h H locs ls hP hD hS hl
  unfold wpX9_weights_110 at h
  refine lv_iload hx hb dX9_weights_110 (lv_at hl 4 rfl) ?_
  refine lv_iload_n hx hb dX9_weights_112 rfl (lv_at hl 2 rfl) ?_
  refine wx_ci C hD hS (va_runS (As := [.int x2]) (rest := [.int x4]) C.1 (mtX9_bits (l := l) (D := D) (sz := H.size) h) (va_cwS 1 hts gX9_weights_X9_bits rfl rfl rfl nyX9_bits.2 ⟨Nat.le_of_ble_eq_true rfl, Nat.le_of_ble_eq_true rfl⟩) (wx_ps C hP hD hS) rfl rfl hl.1 rfl (lv_room (Nat.le_of_ble_eq_true rfl)) dX9_weights_113 ⟨Nat.zero_le _, Nat.zero_le _⟩) (fun r113 σ113 H locs h hP hD hS => ?_)
  refine lv_iload_n hx hb dX9_weights_116 rfl (lv_at hl 1 rfl) ?_
  refine lv_icmp_ne (tgt := 124) hx hb dX9_weights_117 (by decide) (fun c117 => ?_) (fun c117 => ?_)
  · have h := h.1 c117
    refine lv_iconst (v := 0) hx hb dX9_weights_124 (by decide) ?_
    refine lv_iadd hx hb dX9_weights_125 ?_
    refine lv_topi (fun t126 e_t126 => ?_)
    have h := h t126 e_t126
    refine lv_istore (lv' := [(4, .int t126), (0, .ref (ad 0)), (1, .int x1), (2, .int x2), (3, .int x3), (5, .int x5)]) hx hb dX9_weights_126 hl (by decide) rfl (fun ls hl => ?_)
    obtain ⟨t128, e_t128⟩ : ∃ y : Int32, y = x5 + 1 := ⟨_, rfl⟩
    have h := h t128 e_t128
    refine lv_iinc (v := t128) (lv' := [(5, .int t128), (4, .int t126), (0, .ref (ad 0)), (1, .int x1), (2, .int x2), (3, .int x3)]) hx hb dX9_weights_128 hl (k := 5) rfl (by rw [e_t128]; rfl) (by decide) rfl (fun ls hl => ?_)
    refine lv_goto (tgt := 58) hx hb dX9_weights_131 (by decide) ?_
    exact hC58 σ113 x1 x2 x3 t126 t128  h _ _ _ hP hD hS (lv_sub hl [2, 3, 4, 5, 1, 0] rfl)
  · have h := h.2 c117
    refine lv_iconst (v := 1) hx hb dX9_weights_120 (by decide) ?_
    refine lv_goto (tgt := 125) hx hb dX9_weights_121 (by decide) ?_
    refine lv_iadd hx hb dX9_weights_125 ?_
    refine lv_topi (fun t126_1 e_t126_1 => ?_)
    have h := h t126_1 e_t126_1
    refine lv_istore (lv' := [(4, .int t126_1), (0, .ref (ad 0)), (1, .int x1), (2, .int x2), (3, .int x3), (5, .int x5)]) hx hb dX9_weights_126 hl (by decide) rfl (fun ls hl => ?_)
    obtain ⟨t128_1, e_t128_1⟩ : ∃ y : Int32, y = x5 + 1 := ⟨_, rfl⟩
    have h := h t128_1 e_t128_1
    refine lv_iinc (v := t128_1) (lv' := [(5, .int t128_1), (4, .int t126_1), (0, .ref (ad 0)), (1, .int x1), (2, .int x2), (3, .int x3)]) hx hb dX9_weights_128 hl (k := 5) rfl (by rw [e_t128_1]; rfl) (by decide) rfl (fun ls hl => ?_)
    refine lv_goto (tgt := 58) hx hb dX9_weights_131 (by decide) ?_
    exact hC58 σ113 x1 x2 x3 t126_1 t128_1  h _ _ _ hP hD hS (lv_sub hl [2, 3, 4, 5, 1, 0] rfl)
set_option maxRecDepth 100000 in
set_option maxHeartbeats 4000000 in
theorem bX9_weights_78 {p : Program} {l : Launch} {e : Env} {s : State} {m : MethodId} {args : Array Value} {below : List Frame} {meth : Method} {c : Code} {A : Nat → Prop} {Q : State → Prop} {D : va_G} {cI : ClassId} {ad : Nat → Nat} {K : Int32 → wx_Z → Prop} {C58 : wx_Z → Int32 → Int32 → Int32 → Int32 → Int32 → Prop} (C : wx_C p s m args c cX9_weights 8 RX9 wsX9_weights D [(cI, .int)] wx_T0 A) (Rt : wx_Ri p l e rmX9_weights s m args below meth c cX9_weights D 14 (wM_E cI ad) ad A K Q) (hC58 : ∀ (σ : wx_Z) (x1 : Int32) (x2 : Int32) (x3 : Int32) (x4 : Int32) (x5 : Int32), C58 σ x1 x2 x3 x4 x5 → ∀ (H : Heap) (locs : List Loc) (ls : Array Slot), va_P D vwCl (wx_w 14 (wM_E cI ad) ad σ) H → va_D A (wx_w 14 (wM_E cI ad) ad σ) → va_S A s.heap H locs → lv_has ls 8 [(0, .ref (ad 0)), (1, .int x1), (2, .int x2), (3, .int x3), (4, .int x4), (5, .int x5)] → W p l e rmX9_weights s m args below meth c H locs 0 0 Q (F0 m 58 ls [])) : ∀ (n : Nat) (σ : wx_Z) (x1 : Int32) (x2 : Int32) (x3 : Int32) (x4 : Int32) (x5 : Int32) (x6 : Int32) (x7 : Int32), wpX9_weights_78 K C58 n σ x1 x2 x3 x4 x5 x6 x7 → ∀ (H : Heap) (locs : List Loc) (ls : Array Slot), va_P D vwCl (wx_w 14 (wM_E cI ad) ad σ) H → va_D A (wx_w 14 (wM_E cI ad) ad σ) → va_S A s.heap H locs → lv_has ls 8 [(0, .ref (ad 0)), (1, .int x1), (2, .int x2), (3, .int x3), (4, .int x4), (5, .int x5), (6, .int x6), (7, .int x7)] → W p l e rmX9_weights s m args below meth c H locs 0 0 Q (F0 m 78 ls []) := by
  obtain ⟨⟨hx, hb, hml, hown, hts⟩, hA, hK, hRO, hro⟩ := id C
  intro n
  induction n with
  | zero => intro σ x1 x2 x3 x4 x5 x6 x7 h; exact h.elim
  | succ n ih =>
    intro σ x1 x2 x3 x4 x5 x6 x7 h H locs ls hP hD hS hl
    unfold wpX9_weights_78 at h
    refine lv_iload hx hb dX9_weights_78 (lv_at hl 7 rfl) ?_
    refine lv_iload_n hx hb dX9_weights_80 rfl (lv_at hl 3 rfl) ?_
    refine lv_icmp_ge (tgt := 110) hx hb dX9_weights_81 (by decide) (fun c81 => ?_) (fun c81 => ?_)
    · have h := h.1 c81
      exact bX9_weights_110 C Rt hC58 σ x1 x2 x3 x4 x5  h _ _ _ hP hD hS (lv_sub hl [0, 1, 2, 3, 4, 5] rfl)
    · have h := h.2 c81
      refine lv_iload hx hb dX9_weights_84 (lv_at hl 6 rfl) ?_
      refine lv_iload hx hb dX9_weights_86 (lv_at hl 7 rfl) ?_
      refine wx_ci C hD hS (va_runS (As := [.int x6, .int x7]) (rest := []) C.1 (mtX9_has (l := l) (D := D) (sz := H.size) h) (va_cwS 2 hts gX9_weights_X9_has rfl rfl rfl nyX9_has.2 ⟨Nat.le_of_ble_eq_true rfl, Nat.le_of_ble_eq_true rfl⟩) (wx_ps C hP hD hS) rfl rfl hl.1 rfl (lv_room (Nat.le_of_ble_eq_true rfl)) dX9_weights_88 ⟨Nat.zero_le _, Nat.zero_le _⟩) (fun r88 σ88 H locs h hP hD hS => ?_)
      refine lv_if_eq (tgt := 110) hx hb dX9_weights_91 (by decide) (fun c91 => ?_) (fun c91 => ?_)
      · have h := h.1 c91
        exact bX9_weights_110 C Rt hC58 σ88 x1 x2 x3 x4 x5  h _ _ _ hP hD hS (lv_sub hl [0, 1, 2, 3, 4, 5] rfl)
      · have h := h.2 c91
        refine lv_iload_n hx hb dX9_weights_94 rfl (lv_at hl 2 rfl) ?_
        refine lv_aload_n hx hb dX9_weights_95 rfl (lv_at hl 0 rfl) ?_
        refine wx_get C hP (q := 0) (ci := 9) (Nat.le_of_ble_eq_true rfl) (eM_0 cI ad _) (Cn := RX9) (T := TX9) (Nf := 27) rfl inX9_weights_X9 11 (by decide) (List.mem_of_getElem? (i := 2) rfl) (v := .ref (ad 5)) rfl dX9_weights_96 ?_
        refine lv_iload hx hb dX9_weights_99 (lv_at hl 7 rfl) ?_
        refine wx_ild C hP (q := 5) (Nat.le_of_ble_eq_true rfl) (fun _ => rfl) 0 rfl h.1 dX9_weights_101 ?_
        have h := h.2
        refine lv_ixor hx hb dX9_weights_102 ?_
        refine lv_topi (fun t103 e_t103 => ?_)
        have h := h t103 e_t103
        refine lv_istore_n (lv' := [(2, .int t103), (0, .ref (ad 0)), (1, .int x1), (3, .int x3), (4, .int x4), (5, .int x5), (6, .int x6), (7, .int x7)]) hx hb dX9_weights_103 rfl hl (by decide) rfl (fun ls hl => ?_)
        obtain ⟨t104, e_t104⟩ : ∃ y : Int32, y = x7 + 1 := ⟨_, rfl⟩
        have h := h t104 e_t104
        refine lv_iinc (v := t104) (lv' := [(7, .int t104), (2, .int t103), (0, .ref (ad 0)), (1, .int x1), (3, .int x3), (4, .int x4), (5, .int x5), (6, .int x6)]) hx hb dX9_weights_104 hl (k := 7) rfl (by rw [e_t104]; rfl) (by decide) rfl (fun ls hl => ?_)
        refine lv_goto (tgt := 78) hx hb dX9_weights_107 (by decide) ?_
        exact ih σ88 x1 t103 x3 x4 x5 x6 t104  h _ _ _ hP hD hS (lv_sub hl [2, 3, 1, 4, 5, 6, 7, 0] rfl)
set_option maxRecDepth 100000 in
set_option maxHeartbeats 4000000 in
theorem bX9_weights_58 {p : Program} {l : Launch} {e : Env} {s : State} {m : MethodId} {args : Array Value} {below : List Frame} {meth : Method} {c : Code} {A : Nat → Prop} {Q : State → Prop} {D : va_G} {cI : ClassId} {ad : Nat → Nat} {K : Int32 → wx_Z → Prop} (C : wx_C p s m args c cX9_weights 8 RX9 wsX9_weights D [(cI, .int)] wx_T0 A) (Rt : wx_Ri p l e rmX9_weights s m args below meth c cX9_weights D 14 (wM_E cI ad) ad A K Q) : ∀ (n : Nat) (σ : wx_Z) (x1 : Int32) (x2 : Int32) (x3 : Int32) (x4 : Int32) (x5 : Int32), wpX9_weights_58 K n σ x1 x2 x3 x4 x5 → ∀ (H : Heap) (locs : List Loc) (ls : Array Slot), va_P D vwCl (wx_w 14 (wM_E cI ad) ad σ) H → va_D A (wx_w 14 (wM_E cI ad) ad σ) → va_S A s.heap H locs → lv_has ls 8 [(0, .ref (ad 0)), (1, .int x1), (2, .int x2), (3, .int x3), (4, .int x4), (5, .int x5)] → W p l e rmX9_weights s m args below meth c H locs 0 0 Q (F0 m 58 ls []) := by
  obtain ⟨⟨hx, hb, hml, hown, hts⟩, hA, hK, hRO, hro⟩ := id C
  intro n
  induction n with
  | zero => intro σ x1 x2 x3 x4 x5 h; exact h.elim
  | succ n ih =>
    intro σ x1 x2 x3 x4 x5 h H locs ls hP hD hS hl
    unfold wpX9_weights_58 at h
    refine lv_iload hx hb dX9_weights_58 (lv_at hl 5 rfl) ?_
    refine lv_iconst (v := 1) hx hb dX9_weights_60 (by decide) ?_
    refine lv_iload_n hx hb dX9_weights_61 rfl (lv_at hl 3 rfl) ?_
    refine lv_ishl hx hb dX9_weights_62 ?_
    refine lv_icmp_ge (tgt := 134) hx hb dX9_weights_63 (by decide) (fun c63 => ?_) (fun c63 => ?_)
    · have h := h.1 c63
      refine lv_iload hx hb dX9_weights_134 (lv_at hl 4 rfl) ?_
      exact Rt _ _ _ _ _ _ h hP hD hS dX9_weights_136
    · have h := h.2 c63
      refine lv_iload hx hb dX9_weights_66 (lv_at hl 5 rfl) ?_
      refine lv_iload hx hb dX9_weights_68 (lv_at hl 5 rfl) ?_
      refine lv_iconst (v := 1) hx hb dX9_weights_70 (by decide) ?_
      refine lv_isub hx hb dX9_weights_71 ?_
      refine lv_ixor hx hb dX9_weights_72 ?_
      refine lv_topi (fun t73 e_t73 => ?_)
      have h := h t73 e_t73
      refine lv_istore (lv' := [(6, .int t73), (0, .ref (ad 0)), (1, .int x1), (2, .int x2), (3, .int x3), (4, .int x4), (5, .int x5)]) hx hb dX9_weights_73 hl (by decide) rfl (fun ls hl => ?_)
      refine lv_iconst (v := 0) hx hb dX9_weights_75 (by decide) ?_
      refine lv_istore (lv' := [(7, .int 0), (6, .int t73), (0, .ref (ad 0)), (1, .int x1), (2, .int x2), (3, .int x3), (4, .int x4), (5, .int x5)]) hx hb dX9_weights_76 hl (by decide) rfl (fun ls hl => ?_)
      obtain ⟨n78, h⟩ := h
      exact bX9_weights_78 C Rt ih n78 σ x1 x2 x3 x4 x5 t73 0  h _ _ _ hP hD hS (lv_sub hl [2, 3, 4, 5, 6, 7, 1, 0] rfl)
set_option maxRecDepth 100000 in
set_option maxHeartbeats 4000000 in
theorem bX9_weights_49 {p : Program} {l : Launch} {e : Env} {s : State} {m : MethodId} {args : Array Value} {below : List Frame} {meth : Method} {c : Code} {A : Nat → Prop} {Q : State → Prop} {D : va_G} {cI : ClassId} {ad : Nat → Nat} {K : Int32 → wx_Z → Prop} (C : wx_C p s m args c cX9_weights 8 RX9 wsX9_weights D [(cI, .int)] wx_T0 A) (Rt : wx_Ri p l e rmX9_weights s m args below meth c cX9_weights D 14 (wM_E cI ad) ad A K Q) : ∀ (σ : wx_Z) (x1 : Int32) (x2 : Int32) (x3 : Int32) (s0 : Int32), wpX9_weights_49 K σ x1 x2 x3 s0 → ∀ (H : Heap) (locs : List Loc) (ls : Array Slot), va_P D vwCl (wx_w 14 (wM_E cI ad) ad σ) H → va_D A (wx_w 14 (wM_E cI ad) ad σ) → va_S A s.heap H locs → lv_has ls 8 [(0, .ref (ad 0)), (1, .int x1), (2, .int x2), (3, .int x3)] → W p l e rmX9_weights s m args below meth c H locs 0 0 Q (F0 m 49 ls [.int s0]) := by
  obtain ⟨⟨hx, hb, hml, hown, hts⟩, hA, hK, hRO, hro⟩ := id C
  intro σ x1 x2 x3 s0 h H locs ls hP hD hS hl
  unfold wpX9_weights_49 at h
  refine lv_istore (lv' := [(4, .int s0), (0, .ref (ad 0)), (1, .int x1), (2, .int x2), (3, .int x3)]) hx hb dX9_weights_49 hl (by decide) rfl (fun ls hl => ?_)
  refine lv_aload_n hx hb dX9_weights_51 rfl (lv_at hl 1 rfl) ?_
  refine wx_cv C hD hS (va_runV (As := []) (rest := []) C.1 (mtX9_laysBasis (l := l) (D := D) (sz := H.size) h) (cwV 0 hts gX9_weights_X9_laysBasis rfl rfl rfl nyX9_laysBasis ⟨Nat.le_of_ble_eq_true rfl, Nat.le_of_ble_eq_true rfl⟩) (wx_pv C hP hD hS (q := 0) (ci := 9) (Nat.le_of_ble_eq_true rfl) (eM_0 cI ad _) rfl) rfl rfl hl.1 rfl (lv_room (Nat.le_of_ble_eq_true rfl)) dX9_weights_52 ⟨Nat.zero_le _, Nat.zero_le _⟩) (fun σ52 H locs h hP hD hS => ?_)
  refine lv_iconst (v := 1) hx hb dX9_weights_55 (by decide) ?_
  refine lv_istore (lv' := [(5, .int 1), (4, .int s0), (0, .ref (ad 0)), (1, .int x1), (2, .int x2), (3, .int x3)]) hx hb dX9_weights_56 hl (by decide) rfl (fun ls hl => ?_)
  obtain ⟨n58, h⟩ := h
  exact bX9_weights_58 C Rt n58 σ52 x1 x2 x3 s0 1  h _ _ _ hP hD hS (lv_sub hl [2, 3, 4, 5, 1, 0] rfl)
set_option maxRecDepth 100000 in
set_option maxHeartbeats 4000000 in
theorem mtX9_weights {l : Launch} {D : va_G} {cI : ClassId} {ad : Nat → Nat} {sz : Nat} {σ : wx_Z} {x1 : Int32} {K : Int32 → wx_Z → Prop} (h : wpX9_weights σ x1 K) : Met l yX9_weights wsX9_weights rmX9_weights (wx_Pre D [(cI, .int)] wx_T0 14 (wM_E cI ad) ad σ sz [.ref (ad 0), .int x1]) (va_Qi K (wx_B D [(cI, .int)] 14 (wM_E cI ad) ad (va_A (wx_w 14 (wM_E cI ad) ad σ) sz)) (va_A (wx_w 14 (wM_E cI ad) ad σ) sz)) 0 0 (va_A (wx_w 14 (wM_E cI ad) ad σ) sz) := by
  unfold wpX9_weights at h
  refine wx_meti (cc := cX9_weights) (maxL := 8) (own := RX9) rfl (by decide) rfl (Nat.le_of_ble_eq_true rfl) wx_T0_ok ?_
  intro p e s m args below meth c A Q ls C Rt hP hD hS hl
  obtain ⟨⟨hx, hb, hml, hown, hts⟩, hA, hK, hRO, hro⟩ := id C
  have hl : lv_has ls 8 [(0, .ref (ad 0)), (1, .int x1)] := hl
  obtain ⟨H, eH⟩ : ∃ z, z = s.heap := ⟨_, rfl⟩
  obtain ⟨locs, eL⟩ : ∃ z : List Loc, z = [] := ⟨_, rfl⟩
  rw [← eH] at hP
  have hS : va_S A s.heap H locs := by rw [eH, eL]; exact hS
  have goal : W p l e rmX9_weights s m args below meth c H locs 0 0 Q (F0 m 0 ls []) := by
    refine lv_iload_n hx hb dX9_weights_0 rfl (lv_at hl 1 rfl) ?_
    refine lv_i2l (v := Int32.toInt64 x1) hx hb dX9_weights_1 rfl ?_
    refine lv_lconst (v := 0) hx hb dX9_weights_2 (by decide) ?_
    refine lv_ldc2 hx hb hown (hts _ (List.mem_of_getElem? (i := 1) rfl)) dX9_weights_3 ?_
    refine wx_ci C hD hS (va_runS (As := [.long (Int32.toInt64 x1), .long 0, .long 32]) (rest := []) C.1 (mtX9_in (l := l) (D := D) (sz := H.size) h) (va_cwS 3 hts gX9_weights_X9_in rfl rfl rfl nyX9_in.2 ⟨Nat.le_of_ble_eq_true rfl, Nat.le_of_ble_eq_true rfl⟩) (wx_ps C hP hD hS) rfl rfl hl.1 rfl (lv_room (Nat.le_of_ble_eq_true rfl)) dX9_weights_6 ⟨Nat.zero_le _, Nat.zero_le _⟩) (fun r6 σ6 H locs h hP hD hS => ?_)
    refine lv_if_ne (tgt := 19) hx hb dX9_weights_9 (by decide) (fun c9 => ?_) (fun c9 => ?_)
    · have h := h.1 c9
      refine lv_aload_n hx hb dX9_weights_19 rfl (lv_at hl 0 rfl) ?_
      refine wx_ci C hD hS (va_runV (As := []) (rest := []) C.1 (mtX9_isFew (l := l) (D := D) (sz := H.size) h) (cwV 0 hts gX9_weights_X9_isFew rfl rfl rfl nyX9_isFew ⟨Nat.le_of_ble_eq_true rfl, Nat.le_of_ble_eq_true rfl⟩) (wx_pv C hP hD hS (q := 0) (ci := 9) (Nat.le_of_ble_eq_true rfl) (eM_0 cI ad _) rfl) rfl rfl hl.1 rfl (lv_room (Nat.le_of_ble_eq_true rfl)) dX9_weights_20 ⟨Nat.zero_le _, Nat.zero_le _⟩) (fun r20 σ20 H locs h hP hD hS => ?_)
      refine lv_if_ne (tgt := 33) hx hb dX9_weights_23 (by decide) (fun c23 => ?_) (fun c23 => ?_)
      · have h := h.1 c23
        refine lv_iconst (v := 0) hx hb dX9_weights_33 (by decide) ?_
        refine lv_istore_n (lv' := [(2, .int 0), (0, .ref (ad 0)), (1, .int x1)]) hx hb dX9_weights_34 rfl hl (by decide) rfl (fun ls hl => ?_)
        refine lv_aload_n hx hb dX9_weights_35 rfl (lv_at hl 1 rfl) ?_
        refine wx_ci C hD hS (va_runV (As := []) (rest := []) C.1 (mtX9_many (l := l) (D := D) (sz := H.size) h) (cwV 0 hts gX9_weights_X9_many rfl rfl rfl nyX9_many ⟨Nat.le_of_ble_eq_true rfl, Nat.le_of_ble_eq_true rfl⟩) (wx_pv C hP hD hS (q := 0) (ci := 9) (Nat.le_of_ble_eq_true rfl) (eM_0 cI ad _) rfl) rfl rfl hl.1 rfl (lv_room (Nat.le_of_ble_eq_true rfl)) dX9_weights_36 ⟨Nat.zero_le _, Nat.zero_le _⟩) (fun r36 σ36 H locs h hP hD hS => ?_)
        refine lv_istore_n (lv' := [(3, .int r36), (2, .int 0), (0, .ref (ad 0)), (1, .int x1)]) hx hb dX9_weights_39 rfl hl (by decide) rfl (fun ls hl => ?_)
        refine lv_iload_n hx hb dX9_weights_40 rfl (lv_at hl 3 rfl) ?_
        refine lv_if_ne (tgt := 48) hx hb dX9_weights_41 (by decide) (fun c41 => ?_) (fun c41 => ?_)
        · have h := h.1 c41
          refine lv_iconst (v := 0) hx hb dX9_weights_48 (by decide) ?_
          exact bX9_weights_49 C Rt σ36 x1 0 r36 0  h _ _ _ hP hD hS (lv_sub hl [2, 3, 1, 0] rfl)
        · have h := h.2 c41
          refine lv_iconst (v := 1) hx hb dX9_weights_44 (by decide) ?_
          refine lv_goto (tgt := 49) hx hb dX9_weights_45 (by decide) ?_
          exact bX9_weights_49 C Rt σ36 x1 0 r36 1  h _ _ _ hP hD hS (lv_sub hl [2, 3, 1, 0] rfl)
      · have h := h.2 c23
        refine lv_aload_n hx hb dX9_weights_26 rfl (lv_at hl 0 rfl) ?_
        refine lv_bipush (v := (-3)) hx hb dX9_weights_27 (by decide) ?_
        refine wx_ci C hD hS (va_runV (As := [.int (-3)]) (rest := []) C.1 (mtX9_no (l := l) (D := D) (sz := H.size) h) (cwV 1 hts gX9_weights_X9_no rfl rfl rfl nyX9_no ⟨Nat.le_of_ble_eq_true rfl, Nat.le_of_ble_eq_true rfl⟩) (wx_pv C hP hD hS (q := 0) (ci := 9) (Nat.le_of_ble_eq_true rfl) (eM_0 cI ad _) rfl) rfl rfl hl.1 rfl (lv_room (Nat.le_of_ble_eq_true rfl)) dX9_weights_29 ⟨Nat.zero_le _, Nat.zero_le _⟩) (fun r29 σ29 H locs h hP hD hS => ?_)
        exact Rt _ _ _ _ _ _ h hP hD hS dX9_weights_32
    · have h := h.2 c9
      refine lv_aload_n hx hb dX9_weights_12 rfl (lv_at hl 0 rfl) ?_
      refine lv_bipush (v := (-2)) hx hb dX9_weights_13 (by decide) ?_
      refine wx_ci C hD hS (va_runV (As := [.int (-2)]) (rest := []) C.1 (mtX9_bad (l := l) (D := D) (sz := H.size) h) (cwV 1 hts gX9_weights_X9_bad rfl rfl rfl nyX9_bad ⟨Nat.le_of_ble_eq_true rfl, Nat.le_of_ble_eq_true rfl⟩) (wx_pv C hP hD hS (q := 0) (ci := 9) (Nat.le_of_ble_eq_true rfl) (eM_0 cI ad _) rfl) rfl rfl hl.1 rfl (lv_room (Nat.le_of_ble_eq_true rfl)) dX9_weights_15 ⟨Nat.zero_le _, Nat.zero_le _⟩) (fun r15 σ15 H locs h hP hD hS => ?_)
      exact Rt _ _ _ _ _ _ h hP hD hS dX9_weights_18
  rw [eH, eL] at goal
  exact goal
abbrev rmX9_perpendicular : Room := { frames := 5, cells := 0, slots := 0, locals := 123 }
set_option maxRecDepth 20000 in
theorem inX9_perpendicular_X9 : ∀ w ∈ u_ws RX9 TX9 27, w ∈ wsX9_perpendicular := by decide +kernel
set_option maxRecDepth 100000 in
set_option maxHeartbeats 4000000 in
theorem bX9_perpendicular_9 {p : Program} {l : Launch} {e : Env} {s : State} {m : MethodId} {args : Array Value} {below : List Frame} {meth : Method} {c : Code} {A : Nat → Prop} {Q : State → Prop} {D : va_G} {cI : ClassId} {ad : Nat → Nat} {K : Int32 → wx_Z → Prop} (C : wx_C p s m args c cX9_perpendicular 4 RX9 wsX9_perpendicular D [(cI, .int)] wx_T0 A) (Rt : wx_Ri p l e rmX9_perpendicular s m args below meth c cX9_perpendicular D 14 (wM_E cI ad) ad A K Q) : ∀ (n : Nat) (σ : wx_Z) (x1 : Int32) (x2 : Int32) (x3 : Int32), wpX9_perpendicular_9 K n σ x1 x2 x3 → ∀ (H : Heap) (locs : List Loc) (ls : Array Slot), va_P D vwCl (wx_w 14 (wM_E cI ad) ad σ) H → va_D A (wx_w 14 (wM_E cI ad) ad σ) → va_S A s.heap H locs → lv_has ls 4 [(0, .ref (ad 0)), (1, .int x1), (2, .int x2), (3, .int x3)] → W p l e rmX9_perpendicular s m args below meth c H locs 0 0 Q (F0 m 9 ls []) := by
  obtain ⟨⟨hx, hb, hml, hown, hts⟩, hA, hK, hRO, hro⟩ := id C
  intro n
  induction n with
  | zero => intro σ x1 x2 x3 h; exact h.elim
  | succ n ih =>
    intro σ x1 x2 x3 h H locs ls hP hD hS hl
    unfold wpX9_perpendicular_9 at h
    refine lv_iload_n hx hb dX9_perpendicular_9 rfl (lv_at hl 3 rfl) ?_
    refine lv_iload_n hx hb dX9_perpendicular_10 rfl (lv_at hl 1 rfl) ?_
    refine lv_icmp_ge (tgt := 50) hx hb dX9_perpendicular_11 (by decide) (fun c11 => ?_) (fun c11 => ?_)
    · have h := h.1 c11
      refine lv_iload_n hx hb dX9_perpendicular_50 rfl (lv_at hl 2 rfl) ?_
      exact Rt _ _ _ _ _ _ h hP hD hS dX9_perpendicular_51
    · have h := h.2 c11
      refine lv_aload_n hx hb dX9_perpendicular_14 rfl (lv_at hl 0 rfl) ?_
      refine wx_ci C hD hS (va_runV (As := []) (rest := []) C.1 (mtX9_theWord (l := l) (D := D) (sz := H.size) h) (cwV 0 hts gX9_perpendicular_X9_theWord rfl rfl rfl nyX9_theWord ⟨Nat.le_of_ble_eq_true rfl, Nat.le_of_ble_eq_true rfl⟩) (wx_pv C hP hD hS (q := 0) (ci := 9) (Nat.le_of_ble_eq_true rfl) (eM_0 cI ad _) rfl) rfl rfl hl.1 rfl (lv_room (Nat.le_of_ble_eq_true rfl)) dX9_perpendicular_15 ⟨Nat.zero_le _, Nat.zero_le _⟩) (fun r15 σ15 H locs h hP hD hS => ?_)
      refine lv_aload_n hx hb dX9_perpendicular_18 rfl (lv_at hl 0 rfl) ?_
      refine lv_aload_n hx hb dX9_perpendicular_19 rfl (lv_at hl 0 rfl) ?_
      refine wx_get C hP (q := 0) (ci := 9) (Nat.le_of_ble_eq_true rfl) (eM_0 cI ad _) (Cn := RX9) (T := TX9) (Nf := 27) rfl inX9_perpendicular_X9 4 (by decide) (List.mem_of_getElem? (i := 1) rfl) (v := .ref (ad 4)) rfl dX9_perpendicular_20 ?_
      refine lv_iload_n hx hb dX9_perpendicular_23 rfl (lv_at hl 3 rfl) ?_
      refine wx_ild C hP (q := 4) (Nat.le_of_ble_eq_true rfl) (fun _ => rfl) 0 rfl h.1 dX9_perpendicular_24 ?_
      have h := h.2
      refine wx_ci C hD hS (va_runV (As := [.int (σ15 4 (Int32.toNatClampNeg x3))]) (rest := [.int r15]) C.1 (mtX9_wordOf (l := l) (D := D) (sz := H.size) h) (cwV 1 hts gX9_perpendicular_X9_wordOf rfl rfl rfl nyX9_wordOf ⟨Nat.le_of_ble_eq_true rfl, Nat.le_of_ble_eq_true rfl⟩) (wx_pv C hP hD hS (q := 0) (ci := 9) (Nat.le_of_ble_eq_true rfl) (eM_0 cI ad _) rfl) rfl rfl hl.1 rfl (lv_room (Nat.le_of_ble_eq_true rfl)) dX9_perpendicular_25 ⟨Nat.zero_le _, Nat.zero_le _⟩) (fun r25 σ25 H locs h hP hD hS => ?_)
      refine lv_iand hx hb dX9_perpendicular_28 ?_
      refine wx_ci C hD hS (va_runS (As := [.int (r15 &&& r25)]) (rest := []) C.1 (mtX9_bits (l := l) (D := D) (sz := H.size) h) (va_cwS 1 hts gX9_perpendicular_X9_bits rfl rfl rfl nyX9_bits.2 ⟨Nat.le_of_ble_eq_true rfl, Nat.le_of_ble_eq_true rfl⟩) (wx_ps C hP hD hS) rfl rfl hl.1 rfl (lv_room (Nat.le_of_ble_eq_true rfl)) dX9_perpendicular_29 ⟨Nat.zero_le _, Nat.zero_le _⟩) (fun r29 σ29 H locs h hP hD hS => ?_)
      refine lv_iconst (v := 1) hx hb dX9_perpendicular_32 (by decide) ?_
      refine lv_iand hx hb dX9_perpendicular_33 ?_
      refine lv_iconst (v := 1) hx hb dX9_perpendicular_34 (by decide) ?_
      refine lv_icmp_ne (tgt := 42) hx hb dX9_perpendicular_35 (by decide) (fun c35 => ?_) (fun c35 => ?_)
      · have h := h.1 c35
        refine lv_iload_n hx hb dX9_perpendicular_42 rfl (lv_at hl 2 rfl) ?_
        refine lv_istore_n (lv' := [(2, .int x2), (0, .ref (ad 0)), (1, .int x1), (3, .int x3)]) hx hb dX9_perpendicular_43 rfl hl (by decide) rfl (fun ls hl => ?_)
        obtain ⟨t44, e_t44⟩ : ∃ y : Int32, y = x3 + 1 := ⟨_, rfl⟩
        have h := h t44 e_t44
        refine lv_iinc (v := t44) (lv' := [(3, .int t44), (2, .int x2), (0, .ref (ad 0)), (1, .int x1)]) hx hb dX9_perpendicular_44 hl (k := 3) rfl (by rw [e_t44]; rfl) (by decide) rfl (fun ls hl => ?_)
        refine lv_goto (tgt := 9) hx hb dX9_perpendicular_47 (by decide) ?_
        exact ih σ29 x1 x2 t44  h _ _ _ hP hD hS (lv_sub hl [2, 3, 1, 0] rfl)
      · have h := h.2 c35
        refine lv_iconst (v := 0) hx hb dX9_perpendicular_38 (by decide) ?_
        refine lv_goto (tgt := 43) hx hb dX9_perpendicular_39 (by decide) ?_
        refine lv_istore_n (lv' := [(2, .int 0), (0, .ref (ad 0)), (1, .int x1), (3, .int x3)]) hx hb dX9_perpendicular_43 rfl hl (by decide) rfl (fun ls hl => ?_)
        obtain ⟨t44_1, e_t44_1⟩ : ∃ y : Int32, y = x3 + 1 := ⟨_, rfl⟩
        have h := h t44_1 e_t44_1
        refine lv_iinc (v := t44_1) (lv' := [(3, .int t44_1), (2, .int 0), (0, .ref (ad 0)), (1, .int x1)]) hx hb dX9_perpendicular_44 hl (k := 3) rfl (by rw [e_t44_1]; rfl) (by decide) rfl (fun ls hl => ?_)
        refine lv_goto (tgt := 9) hx hb dX9_perpendicular_47 (by decide) ?_
        exact ih σ29 x1 0 t44_1  h _ _ _ hP hD hS (lv_sub hl [2, 3, 1, 0] rfl)
set_option maxRecDepth 100000 in
set_option maxHeartbeats 4000000 in
theorem mtX9_perpendicular {l : Launch} {D : va_G} {cI : ClassId} {ad : Nat → Nat} {sz : Nat} {σ : wx_Z} {K : Int32 → wx_Z → Prop} (h : wpX9_perpendicular σ K) : Met l yX9_perpendicular wsX9_perpendicular rmX9_perpendicular (wx_Pre D [(cI, .int)] wx_T0 14 (wM_E cI ad) ad σ sz [.ref (ad 0)]) (va_Qi K (wx_B D [(cI, .int)] 14 (wM_E cI ad) ad (va_A (wx_w 14 (wM_E cI ad) ad σ) sz)) (va_A (wx_w 14 (wM_E cI ad) ad σ) sz)) 0 0 (va_A (wx_w 14 (wM_E cI ad) ad σ) sz) := by
  unfold wpX9_perpendicular at h
  refine wx_meti (cc := cX9_perpendicular) (maxL := 4) (own := RX9) rfl (by decide) rfl (Nat.le_of_ble_eq_true rfl) wx_T0_ok ?_
  intro p e s m args below meth c A Q ls C Rt hP hD hS hl
  obtain ⟨⟨hx, hb, hml, hown, hts⟩, hA, hK, hRO, hro⟩ := id C
  have hl : lv_has ls 4 [(0, .ref (ad 0))] := hl
  obtain ⟨H, eH⟩ : ∃ z, z = s.heap := ⟨_, rfl⟩
  obtain ⟨locs, eL⟩ : ∃ z : List Loc, z = [] := ⟨_, rfl⟩
  rw [← eH] at hP
  have hS : va_S A s.heap H locs := by rw [eH, eL]; exact hS
  have goal : W p l e rmX9_perpendicular s m args below meth c H locs 0 0 Q (F0 m 0 ls []) := by
    refine lv_aload_n hx hb dX9_perpendicular_0 rfl (lv_at hl 0 rfl) ?_
    refine wx_ci C hD hS (va_runV (As := []) (rest := []) C.1 (mtX9_many (l := l) (D := D) (sz := H.size) h) (cwV 0 hts gX9_perpendicular_X9_many rfl rfl rfl nyX9_many ⟨Nat.le_of_ble_eq_true rfl, Nat.le_of_ble_eq_true rfl⟩) (wx_pv C hP hD hS (q := 0) (ci := 9) (Nat.le_of_ble_eq_true rfl) (eM_0 cI ad _) rfl) rfl rfl hl.1 rfl (lv_room (Nat.le_of_ble_eq_true rfl)) dX9_perpendicular_1 ⟨Nat.zero_le _, Nat.zero_le _⟩) (fun r1 σ1 H locs h hP hD hS => ?_)
    refine lv_istore_n (lv' := [(1, .int r1), (0, .ref (ad 0))]) hx hb dX9_perpendicular_4 rfl hl (by decide) rfl (fun ls hl => ?_)
    refine lv_iconst (v := 1) hx hb dX9_perpendicular_5 (by decide) ?_
    refine lv_istore_n (lv' := [(2, .int 1), (1, .int r1), (0, .ref (ad 0))]) hx hb dX9_perpendicular_6 rfl hl (by decide) rfl (fun ls hl => ?_)
    refine lv_iconst (v := 0) hx hb dX9_perpendicular_7 (by decide) ?_
    refine lv_istore_n (lv' := [(3, .int 0), (2, .int 1), (1, .int r1), (0, .ref (ad 0))]) hx hb dX9_perpendicular_8 rfl hl (by decide) rfl (fun ls hl => ?_)
    obtain ⟨n9, h⟩ := h
    exact bX9_perpendicular_9 C Rt n9 σ1 r1 1 0  h _ _ _ hP hD hS (lv_sub hl [3, 2, 1, 0] rfl)
  rw [eH, eL] at goal
  exact goal
abbrev rmX9_around : Room := { frames := 3, cells := 0, slots := 0, locals := 80 }
set_option maxRecDepth 100000 in
set_option maxHeartbeats 4000000 in
theorem bX9_around_5 {p : Program} {l : Launch} {e : Env} {s : State} {m : MethodId} {args : Array Value} {below : List Frame} {meth : Method} {c : Code} {A : Nat → Prop} {Q : State → Prop} {D : va_G} {cI : ClassId} {ad : Nat → Nat} {K : Int32 → wx_Z → Prop} (C : wx_C p s m args c cX9_around 6 RX9 wsX9_around D [(cI, .int)] wx_T0 A) (Rt : wx_Ri p l e rmX9_around s m args below meth c cX9_around D 14 (wM_E cI ad) ad A K Q) : ∀ (n : Nat) (σ : wx_Z) (x1 : Int32) (x2 : Int32) (x3 : Int32) (x4 : Int32), wpX9_around_5 K n σ x1 x2 x3 x4 → ∀ (H : Heap) (locs : List Loc) (ls : Array Slot), va_P D vwCl (wx_w 14 (wM_E cI ad) ad σ) H → va_D A (wx_w 14 (wM_E cI ad) ad σ) → va_S A s.heap H locs → lv_has ls 6 [(0, .ref (ad 0)), (1, .int x1), (2, .int x2), (3, .int x3), (4, .int x4)] → W p l e rmX9_around s m args below meth c H locs 0 0 Q (F0 m 5 ls []) := by
  obtain ⟨⟨hx, hb, hml, hown, hts⟩, hA, hK, hRO, hro⟩ := id C
  intro n
  induction n with
  | zero => intro σ x1 x2 x3 x4 h; exact h.elim
  | succ n ih =>
    intro σ x1 x2 x3 x4 h H locs ls hP hD hS hl
    unfold wpX9_around_5 at h
    refine lv_iload hx hb dX9_around_5 (lv_at hl 4 rfl) ?_
    refine lv_aload_n hx hb dX9_around_7 rfl (lv_at hl 0 rfl) ?_
    refine wx_ci C hD hS (va_runV (As := []) (rest := [.int x4]) C.1 (mtX9_places (l := l) (D := D) (sz := H.size) h) (cwV 0 hts gX9_around_X9_places rfl rfl rfl nyX9_places ⟨Nat.le_of_ble_eq_true rfl, Nat.le_of_ble_eq_true rfl⟩) (wx_pv C hP hD hS (q := 0) (ci := 9) (Nat.le_of_ble_eq_true rfl) (eM_0 cI ad _) rfl) rfl rfl hl.1 rfl (lv_room (Nat.le_of_ble_eq_true rfl)) dX9_around_8 ⟨Nat.zero_le _, Nat.zero_le _⟩) (fun r8 σ8 H locs h hP hD hS => ?_)
    refine lv_icmp_ge (tgt := 56) hx hb dX9_around_11 (by decide) (fun c11 => ?_) (fun c11 => ?_)
    · have h := h.1 c11
      refine lv_iload_n hx hb dX9_around_56 rfl (lv_at hl 3 rfl) ?_
      exact Rt _ _ _ _ _ _ h hP hD hS dX9_around_57
    · have h := h.2 c11
      refine lv_iload hx hb dX9_around_14 (lv_at hl 4 rfl) ?_
      refine lv_iload_n hx hb dX9_around_16 rfl (lv_at hl 1 rfl) ?_
      refine lv_ixor hx hb dX9_around_17 ?_
      refine lv_topi (fun t18 e_t18 => ?_)
      have h := h t18 e_t18
      refine lv_istore (lv' := [(5, .int t18), (0, .ref (ad 0)), (1, .int x1), (2, .int x2), (3, .int x3), (4, .int x4)]) hx hb dX9_around_18 hl (by decide) rfl (fun ls hl => ?_)
      refine lv_iload_n hx hb dX9_around_20 rfl (lv_at hl 4 rfl) ?_
      refine lv_iload hx hb dX9_around_21 (lv_at hl 0 rfl) ?_
      refine lv_if_eq (tgt := 47) hx hb dX9_around_23 (by decide) (fun c23 => ?_) (fun c23 => ?_)
      · have h := h.1 c23
        refine lv_iconst (v := 0) hx hb dX9_around_47 (by decide) ?_
        refine lv_ixor hx hb dX9_around_48 ?_
        refine lv_topi (fun t49 e_t49 => ?_)
        have h := h t49 e_t49
        refine lv_istore_n (lv' := [(3, .int t49), (5, .int t18), (0, .ref (ad 0)), (1, .int x1), (2, .int x2), (4, .int x4)]) hx hb dX9_around_49 rfl hl (by decide) rfl (fun ls hl => ?_)
        obtain ⟨t50, e_t50⟩ : ∃ y : Int32, y = x4 + 1 := ⟨_, rfl⟩
        have h := h t50 e_t50
        refine lv_iinc (v := t50) (lv' := [(4, .int t50), (3, .int t49), (5, .int t18), (0, .ref (ad 0)), (1, .int x1), (2, .int x2)]) hx hb dX9_around_50 hl (k := 5) rfl (by rw [e_t50]; rfl) (by decide) rfl (fun ls hl => ?_)
        refine lv_goto (tgt := 5) hx hb dX9_around_53 (by decide) ?_
        exact ih σ8 x1 x2 t49 t50  h _ _ _ hP hD hS (lv_sub hl [3, 4, 5, 1, 0] rfl)
      · have h := h.2 c23
        refine lv_iload hx hb dX9_around_26 (lv_at hl 0 rfl) ?_
        refine lv_iload_n hx hb dX9_around_28 rfl (lv_at hl 3 rfl) ?_
        refine lv_iconst (v := (-1)) hx hb dX9_around_29 (by decide) ?_
        refine lv_ixor hx hb dX9_around_30 ?_
        refine lv_iand hx hb dX9_around_31 ?_
        refine lv_if_ne (tgt := 47) hx hb dX9_around_32 (by decide) (fun c32 => ?_) (fun c32 => ?_)
        · have h := h.1 c32
          refine lv_iconst (v := 0) hx hb dX9_around_47 (by decide) ?_
          refine lv_ixor hx hb dX9_around_48 ?_
          refine lv_topi (fun t49_1 e_t49_1 => ?_)
          have h := h t49_1 e_t49_1
          refine lv_istore_n (lv' := [(3, .int t49_1), (5, .int t18), (0, .ref (ad 0)), (1, .int x1), (2, .int x2), (4, .int x4)]) hx hb dX9_around_49 rfl hl (by decide) rfl (fun ls hl => ?_)
          obtain ⟨t50_1, e_t50_1⟩ : ∃ y : Int32, y = x4 + 1 := ⟨_, rfl⟩
          have h := h t50_1 e_t50_1
          refine lv_iinc (v := t50_1) (lv' := [(4, .int t50_1), (3, .int t49_1), (5, .int t18), (0, .ref (ad 0)), (1, .int x1), (2, .int x2)]) hx hb dX9_around_50 hl (k := 5) rfl (by rw [e_t50_1]; rfl) (by decide) rfl (fun ls hl => ?_)
          refine lv_goto (tgt := 5) hx hb dX9_around_53 (by decide) ?_
          exact ih σ8 x1 x2 t49_1 t50_1  h _ _ _ hP hD hS (lv_sub hl [3, 4, 5, 1, 0] rfl)
        · have h := h.2 c32
          refine lv_aload_n hx hb dX9_around_35 rfl (lv_at hl 1 rfl) ?_
          refine wx_ci C hD hS (va_runV (As := []) (rest := [.int x3]) C.1 (mtX9_theWord (l := l) (D := D) (sz := H.size) h) (cwV 0 hts gX9_around_X9_theWord rfl rfl rfl nyX9_theWord ⟨Nat.le_of_ble_eq_true rfl, Nat.le_of_ble_eq_true rfl⟩) (wx_pv C hP hD hS (q := 0) (ci := 9) (Nat.le_of_ble_eq_true rfl) (eM_0 cI ad _) rfl) rfl rfl hl.1 rfl (lv_room (Nat.le_of_ble_eq_true rfl)) dX9_around_36 ⟨Nat.zero_le _, Nat.zero_le _⟩) (fun r36 σ36 H locs h hP hD hS => ?_)
          refine lv_iload hx hb dX9_around_39 (lv_at hl 5 rfl) ?_
          refine lv_ishr hx hb dX9_around_41 ?_
          refine lv_iconst (v := 1) hx hb dX9_around_42 (by decide) ?_
          refine lv_iand hx hb dX9_around_43 ?_
          refine lv_goto (tgt := 48) hx hb dX9_around_44 (by decide) ?_
          refine lv_ixor hx hb dX9_around_48 ?_
          refine lv_topi (fun t49_2 e_t49_2 => ?_)
          have h := h t49_2 e_t49_2
          refine lv_istore_n (lv' := [(3, .int t49_2), (5, .int t18), (0, .ref (ad 0)), (1, .int x1), (2, .int x2), (4, .int x4)]) hx hb dX9_around_49 rfl hl (by decide) rfl (fun ls hl => ?_)
          obtain ⟨t50_2, e_t50_2⟩ : ∃ y : Int32, y = x4 + 1 := ⟨_, rfl⟩
          have h := h t50_2 e_t50_2
          refine lv_iinc (v := t50_2) (lv' := [(4, .int t50_2), (3, .int t49_2), (5, .int t18), (0, .ref (ad 0)), (1, .int x1), (2, .int x2)]) hx hb dX9_around_50 hl (k := 5) rfl (by rw [e_t50_2]; rfl) (by decide) rfl (fun ls hl => ?_)
          refine lv_goto (tgt := 5) hx hb dX9_around_53 (by decide) ?_
          exact ih σ36 x1 x2 t49_2 t50_2  h _ _ _ hP hD hS (lv_sub hl [3, 4, 5, 1, 0] rfl)
set_option maxRecDepth 100000 in
set_option maxHeartbeats 4000000 in
theorem mtX9_around {l : Launch} {D : va_G} {cI : ClassId} {ad : Nat → Nat} {sz : Nat} {σ : wx_Z} {x1 : Int32} {x2 : Int32} {K : Int32 → wx_Z → Prop} (h : wpX9_around σ x1 x2 K) : Met l yX9_around wsX9_around rmX9_around (wx_Pre D [(cI, .int)] wx_T0 14 (wM_E cI ad) ad σ sz [.ref (ad 0), .int x1, .int x2]) (va_Qi K (wx_B D [(cI, .int)] 14 (wM_E cI ad) ad (va_A (wx_w 14 (wM_E cI ad) ad σ) sz)) (va_A (wx_w 14 (wM_E cI ad) ad σ) sz)) 0 0 (va_A (wx_w 14 (wM_E cI ad) ad σ) sz) := by
  unfold wpX9_around at h
  refine wx_meti (cc := cX9_around) (maxL := 6) (own := RX9) rfl (by decide) rfl (Nat.le_of_ble_eq_true rfl) wx_T0_ok ?_
  intro p e s m args below meth c A Q ls C Rt hP hD hS hl
  obtain ⟨⟨hx, hb, hml, hown, hts⟩, hA, hK, hRO, hro⟩ := id C
  have hl : lv_has ls 6 [(0, .ref (ad 0)), (1, .int x1), (2, .int x2)] := hl
  obtain ⟨H, eH⟩ : ∃ z, z = s.heap := ⟨_, rfl⟩
  obtain ⟨locs, eL⟩ : ∃ z : List Loc, z = [] := ⟨_, rfl⟩
  rw [← eH] at hP
  have hS : va_S A s.heap H locs := by rw [eH, eL]; exact hS
  have goal : W p l e rmX9_around s m args below meth c H locs 0 0 Q (F0 m 0 ls []) := by
    refine lv_iconst (v := 0) hx hb dX9_around_0 (by decide) ?_
    refine lv_istore_n (lv' := [(3, .int 0), (0, .ref (ad 0)), (1, .int x1), (2, .int x2)]) hx hb dX9_around_1 rfl hl (by decide) rfl (fun ls hl => ?_)
    refine lv_iconst (v := 0) hx hb dX9_around_2 (by decide) ?_
    refine lv_istore (lv' := [(4, .int 0), (3, .int 0), (0, .ref (ad 0)), (1, .int x1), (2, .int x2)]) hx hb dX9_around_3 hl (by decide) rfl (fun ls hl => ?_)
    obtain ⟨n5, h⟩ := h
    exact bX9_around_5 C Rt n5 σ x1 x2 0 0  h _ _ _ hP hD hS (lv_sub hl [2, 3, 4, 1, 0] rfl)
  rw [eH, eL] at goal
  exact goal
abbrev rmX9_asked : Room := { frames := 4, cells := 0, slots := 0, locals := 105 }
theorem nyX9_around : yX9_around.cls = RX9 ∧ yX9_around.cls ≠ "java/lang/invoke/MethodHandle" ∧ yX9_around.cls ≠ "java/lang/invoke/VarHandle" ∧ (parseMethodDescriptor yX9_around.desc).map (fun d => d.parameters.length) = some 2 := by decide +kernel
set_option maxRecDepth 100000 in
set_option maxHeartbeats 4000000 in
theorem bX9_asked_37 {p : Program} {l : Launch} {e : Env} {s : State} {m : MethodId} {args : Array Value} {below : List Frame} {meth : Method} {c : Code} {A : Nat → Prop} {Q : State → Prop} {D : va_G} {cI : ClassId} {ad : Nat → Nat} {K : Int32 → wx_Z → Prop} (C : wx_C p s m args c cX9_asked 4 RX9 wsX9_asked D [(cI, .int)] wx_T0 A) (Rt : wx_Ri p l e rmX9_asked s m args below meth c cX9_asked D 14 (wM_E cI ad) ad A K Q) : ∀ (n : Nat) (σ : wx_Z) (x1 : Int32) (x2 : Int32) (x3 : Int32), wpX9_asked_37 K n σ x1 x2 x3 → ∀ (H : Heap) (locs : List Loc) (ls : Array Slot), va_P D vwCl (wx_w 14 (wM_E cI ad) ad σ) H → va_D A (wx_w 14 (wM_E cI ad) ad σ) → va_S A s.heap H locs → lv_has ls 4 [(0, .ref (ad 0)), (1, .int x1), (2, .int x2), (3, .int x3)] → W p l e rmX9_asked s m args below meth c H locs 0 0 Q (F0 m 37 ls []) := by
  obtain ⟨⟨hx, hb, hml, hown, hts⟩, hA, hK, hRO, hro⟩ := id C
  intro n
  induction n with
  | zero => intro σ x1 x2 x3 h; exact h.elim
  | succ n ih =>
    intro σ x1 x2 x3 h H locs ls hP hD hS hl
    unfold wpX9_asked_37 at h
    refine lv_iload_n hx hb dX9_asked_37 rfl (lv_at hl 3 rfl) ?_
    refine lv_aload_n hx hb dX9_asked_38 rfl (lv_at hl 0 rfl) ?_
    refine wx_ci C hD hS (va_runV (As := []) (rest := [.int x3]) C.1 (mtX9_places (l := l) (D := D) (sz := H.size) h) (cwV 0 hts gX9_asked_X9_places rfl rfl rfl nyX9_places ⟨Nat.le_of_ble_eq_true rfl, Nat.le_of_ble_eq_true rfl⟩) (wx_pv C hP hD hS (q := 0) (ci := 9) (Nat.le_of_ble_eq_true rfl) (eM_0 cI ad _) rfl) rfl rfl hl.1 rfl (lv_room (Nat.le_of_ble_eq_true rfl)) dX9_asked_39 ⟨Nat.zero_le _, Nat.zero_le _⟩) (fun r39 σ39 H locs h hP hD hS => ?_)
    refine lv_icmp_ge (tgt := 82) hx hb dX9_asked_42 (by decide) (fun c42 => ?_) (fun c42 => ?_)
    · have h := h.1 c42
      refine lv_iload_n hx hb dX9_asked_82 rfl (lv_at hl 2 rfl) ?_
      refine lv_if_le (tgt := 90) hx hb dX9_asked_83 (by decide) (fun c83 => ?_) (fun c83 => ?_)
      · have h := h.1 c83
        refine lv_iconst (v := 0) hx hb dX9_asked_90 (by decide) ?_
        exact Rt _ _ _ _ _ _ h hP hD hS dX9_asked_91
      · have h := h.2 c83
        refine lv_iconst (v := 1) hx hb dX9_asked_86 (by decide) ?_
        refine lv_goto (tgt := 91) hx hb dX9_asked_87 (by decide) ?_
        exact Rt _ _ _ _ _ _ h hP hD hS dX9_asked_91
    · have h := h.2 c42
      refine lv_iload_n hx hb dX9_asked_45 rfl (lv_at hl 3 rfl) ?_
      refine wx_ci C hD hS (va_runS (As := [.int x3]) (rest := []) C.1 (mtX9_bits (l := l) (D := D) (sz := H.size) h) (va_cwS 1 hts gX9_asked_X9_bits rfl rfl rfl nyX9_bits.2 ⟨Nat.le_of_ble_eq_true rfl, Nat.le_of_ble_eq_true rfl⟩) (wx_ps C hP hD hS) rfl rfl hl.1 rfl (lv_room (Nat.le_of_ble_eq_true rfl)) dX9_asked_46 ⟨Nat.zero_le _, Nat.zero_le _⟩) (fun r46 σ46 H locs h hP hD hS => ?_)
      refine lv_aload_n hx hb dX9_asked_49 rfl (lv_at hl 0 rfl) ?_
      refine wx_ci C hD hS (va_runV (As := []) (rest := [.int r46]) C.1 (mtX9_order (l := l) (D := D) (sz := H.size) h) (cwV 0 hts gX9_asked_X9_order rfl rfl rfl nyX9_order ⟨Nat.le_of_ble_eq_true rfl, Nat.le_of_ble_eq_true rfl⟩) (wx_pv C hP hD hS (q := 0) (ci := 9) (Nat.le_of_ble_eq_true rfl) (eM_0 cI ad _) rfl) rfl rfl hl.1 rfl (lv_room (Nat.le_of_ble_eq_true rfl)) dX9_asked_50 ⟨Nat.zero_le _, Nat.zero_le _⟩) (fun r50 σ50 H locs h hP hD hS => ?_)
      refine lv_iconst (v := 1) hx hb dX9_asked_53 (by decide) ?_
      refine lv_iadd hx hb dX9_asked_54 ?_
      refine lv_icmp_ne (tgt := 76) hx hb dX9_asked_55 (by decide) (fun c55 => ?_) (fun c55 => ?_)
      · have h := h.1 c55
        obtain ⟨t76, e_t76⟩ : ∃ y : Int32, y = x3 + 1 := ⟨_, rfl⟩
        have h := h t76 e_t76
        refine lv_iinc (v := t76) (lv' := [(3, .int t76), (0, .ref (ad 0)), (1, .int x1), (2, .int x2)]) hx hb dX9_asked_76 hl (k := 3) rfl (by rw [e_t76]; rfl) (by decide) rfl (fun ls hl => ?_)
        refine lv_goto (tgt := 37) hx hb dX9_asked_79 (by decide) ?_
        exact ih σ50 x1 x2 t76  h _ _ _ hP hD hS (lv_sub hl [1, 2, 3, 0] rfl)
      · have h := h.2 c55
        refine lv_iload_n hx hb dX9_asked_58 rfl (lv_at hl 2 rfl) ?_
        refine lv_aload_n hx hb dX9_asked_59 rfl (lv_at hl 0 rfl) ?_
        refine lv_iload_n hx hb dX9_asked_60 rfl (lv_at hl 1 rfl) ?_
        refine lv_iload_n hx hb dX9_asked_61 rfl (lv_at hl 3 rfl) ?_
        refine wx_ci C hD hS (va_runV (As := [.int x1, .int x3]) (rest := [.int x2]) C.1 (mtX9_around (l := l) (D := D) (sz := H.size) h) (cwV 2 hts gX9_asked_X9_around rfl rfl rfl nyX9_around ⟨Nat.le_of_ble_eq_true rfl, Nat.le_of_ble_eq_true rfl⟩) (wx_pv C hP hD hS (q := 0) (ci := 9) (Nat.le_of_ble_eq_true rfl) (eM_0 cI ad _) rfl) rfl rfl hl.1 rfl (lv_room (Nat.le_of_ble_eq_true rfl)) dX9_asked_62 ⟨Nat.zero_le _, Nat.zero_le _⟩) (fun r62 σ62 H locs h hP hD hS => ?_)
        refine lv_iconst (v := 1) hx hb dX9_asked_65 (by decide) ?_
        refine lv_icmp_ne (tgt := 73) hx hb dX9_asked_66 (by decide) (fun c66 => ?_) (fun c66 => ?_)
        · have h := h.1 c66
          refine lv_iconst (v := (-1)) hx hb dX9_asked_73 (by decide) ?_
          refine lv_iadd hx hb dX9_asked_74 ?_
          refine lv_topi (fun t75 e_t75 => ?_)
          have h := h t75 e_t75
          refine lv_istore_n (lv' := [(2, .int t75), (0, .ref (ad 0)), (1, .int x1), (3, .int x3)]) hx hb dX9_asked_75 rfl hl (by decide) rfl (fun ls hl => ?_)
          obtain ⟨t76_1, e_t76_1⟩ : ∃ y : Int32, y = x3 + 1 := ⟨_, rfl⟩
          have h := h t76_1 e_t76_1
          refine lv_iinc (v := t76_1) (lv' := [(3, .int t76_1), (2, .int t75), (0, .ref (ad 0)), (1, .int x1)]) hx hb dX9_asked_76 hl (k := 3) rfl (by rw [e_t76_1]; rfl) (by decide) rfl (fun ls hl => ?_)
          refine lv_goto (tgt := 37) hx hb dX9_asked_79 (by decide) ?_
          exact ih σ62 x1 t75 t76_1  h _ _ _ hP hD hS (lv_sub hl [2, 3, 1, 0] rfl)
        · have h := h.2 c66
          refine lv_iconst (v := 1) hx hb dX9_asked_69 (by decide) ?_
          refine lv_goto (tgt := 74) hx hb dX9_asked_70 (by decide) ?_
          refine lv_iadd hx hb dX9_asked_74 ?_
          refine lv_topi (fun t75_1 e_t75_1 => ?_)
          have h := h t75_1 e_t75_1
          refine lv_istore_n (lv' := [(2, .int t75_1), (0, .ref (ad 0)), (1, .int x1), (3, .int x3)]) hx hb dX9_asked_75 rfl hl (by decide) rfl (fun ls hl => ?_)
          obtain ⟨t76_2, e_t76_2⟩ : ∃ y : Int32, y = x3 + 1 := ⟨_, rfl⟩
          have h := h t76_2 e_t76_2
          refine lv_iinc (v := t76_2) (lv' := [(3, .int t76_2), (2, .int t75_1), (0, .ref (ad 0)), (1, .int x1)]) hx hb dX9_asked_76 hl (k := 3) rfl (by rw [e_t76_2]; rfl) (by decide) rfl (fun ls hl => ?_)
          refine lv_goto (tgt := 37) hx hb dX9_asked_79 (by decide) ?_
          exact ih σ62 x1 t75_1 t76_2  h _ _ _ hP hD hS (lv_sub hl [2, 3, 1, 0] rfl)
set_option maxRecDepth 100000 in
set_option maxHeartbeats 4000000 in
theorem mtX9_asked {l : Launch} {D : va_G} {cI : ClassId} {ad : Nat → Nat} {sz : Nat} {σ : wx_Z} {x1 : Int32} {K : Int32 → wx_Z → Prop} (h : wpX9_asked σ x1 K) : Met l yX9_asked wsX9_asked rmX9_asked (wx_Pre D [(cI, .int)] wx_T0 14 (wM_E cI ad) ad σ sz [.ref (ad 0), .int x1]) (va_Qi K (wx_B D [(cI, .int)] 14 (wM_E cI ad) ad (va_A (wx_w 14 (wM_E cI ad) ad σ) sz)) (va_A (wx_w 14 (wM_E cI ad) ad σ) sz)) 0 0 (va_A (wx_w 14 (wM_E cI ad) ad σ) sz) := by
  unfold wpX9_asked at h
  refine wx_meti (cc := cX9_asked) (maxL := 4) (own := RX9) rfl (by decide) rfl (Nat.le_of_ble_eq_true rfl) wx_T0_ok ?_
  intro p e s m args below meth c A Q ls C Rt hP hD hS hl
  obtain ⟨⟨hx, hb, hml, hown, hts⟩, hA, hK, hRO, hro⟩ := id C
  have hl : lv_has ls 4 [(0, .ref (ad 0)), (1, .int x1)] := hl
  obtain ⟨H, eH⟩ : ∃ z, z = s.heap := ⟨_, rfl⟩
  obtain ⟨locs, eL⟩ : ∃ z : List Loc, z = [] := ⟨_, rfl⟩
  rw [← eH] at hP
  have hS : va_S A s.heap H locs := by rw [eH, eL]; exact hS
  have goal : W p l e rmX9_asked s m args below meth c H locs 0 0 Q (F0 m 0 ls []) := by
    refine lv_aload_n hx hb dX9_asked_0 rfl (lv_at hl 0 rfl) ?_
    refine lv_iload_n hx hb dX9_asked_1 rfl (lv_at hl 1 rfl) ?_
    refine wx_ci C hD hS (va_runV (As := [.int x1]) (rest := []) C.1 (mtX9_isPlace (l := l) (D := D) (sz := H.size) h) (cwV 1 hts gX9_asked_X9_isPlace rfl rfl rfl nyX9_isPlace ⟨Nat.le_of_ble_eq_true rfl, Nat.le_of_ble_eq_true rfl⟩) (wx_pv C hP hD hS (q := 0) (ci := 9) (Nat.le_of_ble_eq_true rfl) (eM_0 cI ad _) rfl) rfl rfl hl.1 rfl (lv_room (Nat.le_of_ble_eq_true rfl)) dX9_asked_2 ⟨Nat.zero_le _, Nat.zero_le _⟩) (fun r2 σ2 H locs h hP hD hS => ?_)
    refine lv_if_ne (tgt := 15) hx hb dX9_asked_5 (by decide) (fun c5 => ?_) (fun c5 => ?_)
    · have h := h.1 c5
      refine lv_aload_n hx hb dX9_asked_15 rfl (lv_at hl 0 rfl) ?_
      refine wx_ci C hD hS (va_runV (As := []) (rest := []) C.1 (mtX9_order (l := l) (D := D) (sz := H.size) h) (cwV 0 hts gX9_asked_X9_order rfl rfl rfl nyX9_order ⟨Nat.le_of_ble_eq_true rfl, Nat.le_of_ble_eq_true rfl⟩) (wx_pv C hP hD hS (q := 0) (ci := 9) (Nat.le_of_ble_eq_true rfl) (eM_0 cI ad _) rfl) rfl rfl hl.1 rfl (lv_room (Nat.le_of_ble_eq_true rfl)) dX9_asked_16 ⟨Nat.zero_le _, Nat.zero_le _⟩) (fun r16 σ16 H locs h hP hD hS => ?_)
      refine lv_aload_n hx hb dX9_asked_19 rfl (lv_at hl 0 rfl) ?_
      refine wx_ci C hD hS (va_runV (As := []) (rest := [.int r16]) C.1 (mtX9_length (l := l) (D := D) (sz := H.size) h) (cwV 0 hts gX9_asked_X9_length rfl rfl rfl nyX9_length ⟨Nat.le_of_ble_eq_true rfl, Nat.le_of_ble_eq_true rfl⟩) (wx_pv C hP hD hS (q := 0) (ci := 9) (Nat.le_of_ble_eq_true rfl) (eM_0 cI ad _) rfl) rfl rfl hl.1 rfl (lv_room (Nat.le_of_ble_eq_true rfl)) dX9_asked_20 ⟨Nat.zero_le _, Nat.zero_le _⟩) (fun r20 σ20 H locs h hP hD hS => ?_)
      refine lv_icmp_ne (tgt := 33) hx hb dX9_asked_23 (by decide) (fun c23 => ?_) (fun c23 => ?_)
      · have h := h.1 c23
        refine lv_iconst (v := 0) hx hb dX9_asked_33 (by decide) ?_
        refine lv_istore_n (lv' := [(2, .int 0), (0, .ref (ad 0)), (1, .int x1)]) hx hb dX9_asked_34 rfl hl (by decide) rfl (fun ls hl => ?_)
        refine lv_iconst (v := 0) hx hb dX9_asked_35 (by decide) ?_
        refine lv_istore_n (lv' := [(3, .int 0), (2, .int 0), (0, .ref (ad 0)), (1, .int x1)]) hx hb dX9_asked_36 rfl hl (by decide) rfl (fun ls hl => ?_)
        obtain ⟨n37, h⟩ := h
        exact bX9_asked_37 C Rt n37 σ20 x1 0 0  h _ _ _ hP hD hS (lv_sub hl [2, 3, 1, 0] rfl)
      · have h := h.2 c23
        refine lv_aload_n hx hb dX9_asked_26 rfl (lv_at hl 0 rfl) ?_
        refine lv_bipush (v := (-3)) hx hb dX9_asked_27 (by decide) ?_
        refine wx_ci C hD hS (va_runV (As := [.int (-3)]) (rest := []) C.1 (mtX9_no (l := l) (D := D) (sz := H.size) h) (cwV 1 hts gX9_asked_X9_no rfl rfl rfl nyX9_no ⟨Nat.le_of_ble_eq_true rfl, Nat.le_of_ble_eq_true rfl⟩) (wx_pv C hP hD hS (q := 0) (ci := 9) (Nat.le_of_ble_eq_true rfl) (eM_0 cI ad _) rfl) rfl rfl hl.1 rfl (lv_room (Nat.le_of_ble_eq_true rfl)) dX9_asked_29 ⟨Nat.zero_le _, Nat.zero_le _⟩) (fun r29 σ29 H locs h hP hD hS => ?_)
        exact Rt _ _ _ _ _ _ h hP hD hS dX9_asked_32
    · have h := h.2 c5
      refine lv_aload_n hx hb dX9_asked_8 rfl (lv_at hl 0 rfl) ?_
      refine lv_bipush (v := (-2)) hx hb dX9_asked_9 (by decide) ?_
      refine wx_ci C hD hS (va_runV (As := [.int (-2)]) (rest := []) C.1 (mtX9_bad (l := l) (D := D) (sz := H.size) h) (cwV 1 hts gX9_asked_X9_bad rfl rfl rfl nyX9_bad ⟨Nat.le_of_ble_eq_true rfl, Nat.le_of_ble_eq_true rfl⟩) (wx_pv C hP hD hS (q := 0) (ci := 9) (Nat.le_of_ble_eq_true rfl) (eM_0 cI ad _) rfl) rfl rfl hl.1 rfl (lv_room (Nat.le_of_ble_eq_true rfl)) dX9_asked_11 ⟨Nat.zero_le _, Nat.zero_le _⟩) (fun r11 σ11 H locs h hP hD hS => ?_)
      exact Rt _ _ _ _ _ _ h hP hD hS dX9_asked_14
  rw [eH, eL] at goal
  exact goal
abbrev rmX9_type : Room := { frames := 2, cells := 0, slots := 0, locals := 65 }
set_option maxRecDepth 20000 in
theorem inX9_type_X9 : ∀ w ∈ u_ws RX9 TX9 27, w ∈ wsX9_type := by decide +kernel
theorem nyX9_full : yX9_full.cls = RX9 ∧ yX9_full.cls ≠ "java/lang/invoke/MethodHandle" ∧ yX9_full.cls ≠ "java/lang/invoke/VarHandle" ∧ (parseMethodDescriptor yX9_full.desc).map (fun d => d.parameters.length) = some 0 := by decide +kernel
set_option maxRecDepth 100000 in
set_option maxHeartbeats 4000000 in
theorem mtX9_type {l : Launch} {D : va_G} {cI : ClassId} {ad : Nat → Nat} {sz : Nat} {σ : wx_Z} {x1 : Int32} {K : Int32 → wx_Z → Prop} (h : wpX9_type σ x1 K) : Met l yX9_type wsX9_type rmX9_type (wx_Pre D [(cI, .int)] wx_T0 14 (wM_E cI ad) ad σ sz [.ref (ad 0), .int x1]) (va_Qi K (wx_B D [(cI, .int)] 14 (wM_E cI ad) ad (va_A (wx_w 14 (wM_E cI ad) ad σ) sz)) (va_A (wx_w 14 (wM_E cI ad) ad σ) sz)) 0 0 (va_A (wx_w 14 (wM_E cI ad) ad σ) sz) := by
  unfold wpX9_type at h
  refine wx_meti (cc := cX9_type) (maxL := 2) (own := RX9) rfl (by decide) rfl (Nat.le_of_ble_eq_true rfl) wx_T0_ok ?_
  intro p e s m args below meth c A Q ls C Rt hP hD hS hl
  obtain ⟨⟨hx, hb, hml, hown, hts⟩, hA, hK, hRO, hro⟩ := id C
  have hl : lv_has ls 2 [(0, .ref (ad 0)), (1, .int x1)] := hl
  obtain ⟨H, eH⟩ : ∃ z, z = s.heap := ⟨_, rfl⟩
  obtain ⟨locs, eL⟩ : ∃ z : List Loc, z = [] := ⟨_, rfl⟩
  rw [← eH] at hP
  have hS : va_S A s.heap H locs := by rw [eH, eL]; exact hS
  have goal : W p l e rmX9_type s m args below meth c H locs 0 0 Q (F0 m 0 ls []) := by
    refine lv_iload_n hx hb dX9_type_0 rfl (lv_at hl 1 rfl) ?_
    refine lv_i2l (v := Int32.toInt64 x1) hx hb dX9_type_1 rfl ?_
    refine lv_lconst (v := 0) hx hb dX9_type_2 (by decide) ?_
    refine lv_ldc2 hx hb hown (hts _ (List.mem_of_getElem? (i := 1) rfl)) dX9_type_3 ?_
    refine wx_ci C hD hS (va_runS (As := [.long (Int32.toInt64 x1), .long 0, .long 127]) (rest := []) C.1 (mtX9_in (l := l) (D := D) (sz := H.size) h) (va_cwS 3 hts gX9_type_X9_in rfl rfl rfl nyX9_in.2 ⟨Nat.le_of_ble_eq_true rfl, Nat.le_of_ble_eq_true rfl⟩) (wx_ps C hP hD hS) rfl rfl hl.1 rfl (lv_room (Nat.le_of_ble_eq_true rfl)) dX9_type_6 ⟨Nat.zero_le _, Nat.zero_le _⟩) (fun r6 σ6 H locs h hP hD hS => ?_)
    refine lv_if_ne (tgt := 19) hx hb dX9_type_9 (by decide) (fun c9 => ?_) (fun c9 => ?_)
    · have h := h.1 c9
      refine lv_aload_n hx hb dX9_type_19 rfl (lv_at hl 0 rfl) ?_
      refine wx_get C hP (q := 0) (ci := 9) (Nat.le_of_ble_eq_true rfl) (eM_0 cI ad _) (Cn := RX9) (T := TX9) (Nf := 27) rfl inX9_type_X9 21 (by decide) (List.mem_of_getElem? (i := 2) rfl) (v := .int (σ6 0 21)) rfl dX9_type_20 ?_
      refine lv_bipush (v := 120) hx hb dX9_type_23 (by decide) ?_
      refine lv_icmp_ne (tgt := 33) hx hb dX9_type_25 (by decide) (fun c25 => ?_) (fun c25 => ?_)
      · have h := h.1 c25
        refine lv_aload_n hx hb dX9_type_33 rfl (lv_at hl 0 rfl) ?_
        refine wx_get C hP (q := 0) (ci := 9) (Nat.le_of_ble_eq_true rfl) (eM_0 cI ad _) (Cn := RX9) (T := TX9) (Nf := 27) rfl inX9_type_X9 20 (by decide) (List.mem_of_getElem? (i := 3) rfl) (v := .ref (ad 11)) rfl dX9_type_34 ?_
        refine lv_aload_n hx hb dX9_type_37 rfl (lv_at hl 0 rfl) ?_
        refine wx_get C hP (q := 0) (ci := 9) (Nat.le_of_ble_eq_true rfl) (eM_0 cI ad _) (Cn := RX9) (T := TX9) (Nf := 27) rfl inX9_type_X9 21 (by decide) (List.mem_of_getElem? (i := 2) rfl) (v := .int (σ6 0 21)) rfl dX9_type_38 ?_
        refine lv_iload_n hx hb dX9_type_41 rfl (lv_at hl 1 rfl) ?_
        refine wx_ist C hP hD hS (q := 11) (Nat.le_of_ble_eq_true rfl) (fun _ => rfl) 0 rfl h.1 dX9_type_42 (fun H locs hP hD hS => ?_)
        generalize e_σ42 : wx_up σ6 11 (Int32.toNatClampNeg (σ6 0 21)) x1 = σ42 at hP hD
        have h := h.2 σ42 e_σ42.symm
        refine lv_aload_n hx hb dX9_type_43 rfl (lv_at hl 0 rfl) ?_
        refine lv_dup hx hb dX9_type_44 rfl ?_
        refine wx_get C hP (q := 0) (ci := 9) (Nat.le_of_ble_eq_true rfl) (eM_0 cI ad _) (Cn := RX9) (T := TX9) (Nf := 27) rfl inX9_type_X9 21 (by decide) (List.mem_of_getElem? (i := 2) rfl) (v := .int (σ42 0 21)) rfl dX9_type_45 ?_
        refine lv_iconst (v := 1) hx hb dX9_type_48 (by decide) ?_
        refine lv_iadd hx hb dX9_type_49 ?_
        refine wx_put C hP hD hS (q := 0) (ci := 9) (Nat.le_of_ble_eq_true rfl) (eM_0 cI ad _) (Cn := RX9) (T := TX9) (Nf := 27) rfl inX9_type_X9 tyX9 tyX9_ok nmX9 21 (by decide) (List.mem_of_getElem? (i := 2) rfl) rfl rfl (Nat.le_of_ble_eq_true rfl) rfl dX9_type_50 (fun H locs hP hD hS => ?_)
        generalize e_σ50 : wx_up σ42 0 21 ((σ42 0 21) + 1) = σ50 at hP hD
        have h := h σ50 e_σ50.symm
        refine lv_aload_n hx hb dX9_type_53 rfl (lv_at hl 0 rfl) ?_
        refine wx_get C hP (q := 0) (ci := 9) (Nat.le_of_ble_eq_true rfl) (eM_0 cI ad _) (Cn := RX9) (T := TX9) (Nf := 27) rfl inX9_type_X9 21 (by decide) (List.mem_of_getElem? (i := 2) rfl) (v := .int (σ50 0 21)) rfl dX9_type_54 ?_
        exact Rt _ _ _ _ _ _ h hP hD hS dX9_type_57
      · have h := h.2 c25
        refine lv_aload_n hx hb dX9_type_28 rfl (lv_at hl 0 rfl) ?_
        refine wx_ci C hD hS (va_runV (As := []) (rest := []) C.1 (mtX9_full (l := l) (D := D) (sz := H.size) h) (cwV 0 hts gX9_type_X9_full rfl rfl rfl nyX9_full ⟨Nat.le_of_ble_eq_true rfl, Nat.le_of_ble_eq_true rfl⟩) (wx_pv C hP hD hS (q := 0) (ci := 9) (Nat.le_of_ble_eq_true rfl) (eM_0 cI ad _) rfl) rfl rfl hl.1 rfl (lv_room (Nat.le_of_ble_eq_true rfl)) dX9_type_29 ⟨Nat.zero_le _, Nat.zero_le _⟩) (fun r29 σ29 H locs h hP hD hS => ?_)
        exact Rt _ _ _ _ _ _ h hP hD hS dX9_type_32
    · have h := h.2 c9
      refine lv_aload_n hx hb dX9_type_12 rfl (lv_at hl 0 rfl) ?_
      refine lv_bipush (v := (-2)) hx hb dX9_type_13 (by decide) ?_
      refine wx_ci C hD hS (va_runV (As := [.int (-2)]) (rest := []) C.1 (mtX9_bad (l := l) (D := D) (sz := H.size) h) (cwV 1 hts gX9_type_X9_bad rfl rfl rfl nyX9_bad ⟨Nat.le_of_ble_eq_true rfl, Nat.le_of_ble_eq_true rfl⟩) (wx_pv C hP hD hS (q := 0) (ci := 9) (Nat.le_of_ble_eq_true rfl) (eM_0 cI ad _) rfl) rfl rfl hl.1 rfl (lv_room (Nat.le_of_ble_eq_true rfl)) dX9_type_15 ⟨Nat.zero_le _, Nat.zero_le _⟩) (fun r15 σ15 H locs h hP hD hS => ?_)
      exact Rt _ _ _ _ _ _ h hP hD hS dX9_type_18
  rw [eH, eL] at goal
  exact goal
abbrev rmX9_clear : Room := { frames := 1, cells := 0, slots := 0, locals := 40 }
set_option maxRecDepth 20000 in
theorem inX9_clear_X9 : ∀ w ∈ u_ws RX9 TX9 27, w ∈ wsX9_clear := by decide +kernel
set_option maxRecDepth 100000 in
set_option maxHeartbeats 4000000 in
theorem mtX9_clear {l : Launch} {D : va_G} {cI : ClassId} {ad : Nat → Nat} {sz : Nat} {σ : wx_Z} {K : Int32 → wx_Z → Prop} (h : wpX9_clear σ K) : Met l yX9_clear wsX9_clear rmX9_clear (wx_Pre D [(cI, .int)] wx_T0 14 (wM_E cI ad) ad σ sz [.ref (ad 0)]) (va_Qi K (wx_B D [(cI, .int)] 14 (wM_E cI ad) ad (va_A (wx_w 14 (wM_E cI ad) ad σ) sz)) (va_A (wx_w 14 (wM_E cI ad) ad σ) sz)) 0 0 (va_A (wx_w 14 (wM_E cI ad) ad σ) sz) := by
  unfold wpX9_clear at h
  refine wx_meti (cc := cX9_clear) (maxL := 2) (own := RX9) rfl (by decide) rfl (Nat.le_of_ble_eq_true rfl) wx_T0_ok ?_
  intro p e s m args below meth c A Q ls C Rt hP hD hS hl
  obtain ⟨⟨hx, hb, hml, hown, hts⟩, hA, hK, hRO, hro⟩ := id C
  have hl : lv_has ls 2 [(0, .ref (ad 0))] := hl
  obtain ⟨H, eH⟩ : ∃ z, z = s.heap := ⟨_, rfl⟩
  obtain ⟨locs, eL⟩ : ∃ z : List Loc, z = [] := ⟨_, rfl⟩
  rw [← eH] at hP
  have hS : va_S A s.heap H locs := by rw [eH, eL]; exact hS
  have goal : W p l e rmX9_clear s m args below meth c H locs 0 0 Q (F0 m 0 ls []) := by
    refine lv_aload_n hx hb dX9_clear_0 rfl (lv_at hl 0 rfl) ?_
    refine wx_get C hP (q := 0) (ci := 9) (Nat.le_of_ble_eq_true rfl) (eM_0 cI ad _) (Cn := RX9) (T := TX9) (Nf := 27) rfl inX9_clear_X9 21 (by decide) (List.mem_of_getElem? (i := 1) rfl) (v := .int (σ 0 21)) rfl dX9_clear_1 ?_
    refine lv_istore_n (lv' := [(1, .int (σ 0 21)), (0, .ref (ad 0))]) hx hb dX9_clear_4 rfl hl (by decide) rfl (fun ls hl => ?_)
    refine lv_aload_n hx hb dX9_clear_5 rfl (lv_at hl 1 rfl) ?_
    refine lv_iconst (v := 0) hx hb dX9_clear_6 (by decide) ?_
    refine wx_put C hP hD hS (q := 0) (ci := 9) (Nat.le_of_ble_eq_true rfl) (eM_0 cI ad _) (Cn := RX9) (T := TX9) (Nf := 27) rfl inX9_clear_X9 tyX9 tyX9_ok nmX9 21 (by decide) (List.mem_of_getElem? (i := 1) rfl) rfl rfl (Nat.le_of_ble_eq_true rfl) rfl dX9_clear_7 (fun H locs hP hD hS => ?_)
    generalize e_σ7 : wx_up σ 0 21 0 = σ7 at hP hD
    have h := h σ7 e_σ7.symm
    refine lv_iload_n hx hb dX9_clear_10 rfl (lv_at hl 0 rfl) ?_
    exact Rt _ _ _ _ _ _ h hP hD hS dX9_clear_11
  rw [eH, eL] at goal
  exact goal
abbrev rmX9_here : Room := { frames := 1, cells := 0, slots := 0, locals := 40 }
set_option maxRecDepth 20000 in
theorem inX9_here_X9 : ∀ w ∈ u_ws RX9 TX9 27, w ∈ wsX9_here := by decide +kernel
set_option maxRecDepth 100000 in
set_option maxHeartbeats 4000000 in
theorem bX9_here_38 {p : Program} {l : Launch} {e : Env} {s : State} {m : MethodId} {args : Array Value} {below : List Frame} {meth : Method} {c : Code} {A : Nat → Prop} {Q : State → Prop} {D : va_G} {cI : ClassId} {ad : Nat → Nat} {K : Int32 → wx_Z → Prop} (C : wx_C p s m args c cX9_here 1 RX9 wsX9_here D [(cI, .int)] wx_T0 A) (Rt : wx_Ri p l e rmX9_here s m args below meth c cX9_here D 14 (wM_E cI ad) ad A K Q) : ∀ (σ : wx_Z), wpX9_here_38 K σ → ∀ (H : Heap) (locs : List Loc) (ls : Array Slot), va_P D vwCl (wx_w 14 (wM_E cI ad) ad σ) H → va_D A (wx_w 14 (wM_E cI ad) ad σ) → va_S A s.heap H locs → lv_has ls 1 [(0, .ref (ad 0))] → W p l e rmX9_here s m args below meth c H locs 0 0 Q (F0 m 38 ls []) := by
  obtain ⟨⟨hx, hb, hml, hown, hts⟩, hA, hK, hRO, hro⟩ := id C
  intro σ h H locs ls hP hD hS hl
  unfold wpX9_here_38 at h
  refine lv_aload_n hx hb dX9_here_38 rfl (lv_at hl 0 rfl) ?_
  refine wx_get C hP (q := 0) (ci := 9) (Nat.le_of_ble_eq_true rfl) (eM_0 cI ad _) (Cn := RX9) (T := TX9) (Nf := 27) rfl inX9_here_X9 22 (by decide) (List.mem_of_getElem? (i := 1) rfl) (v := .int (σ 0 22)) rfl dX9_here_39 ?_
  refine lv_aload_n hx hb dX9_here_42 rfl (lv_at hl 0 rfl) ?_
  refine wx_get C hP (q := 0) (ci := 9) (Nat.le_of_ble_eq_true rfl) (eM_0 cI ad _) (Cn := RX9) (T := TX9) (Nf := 27) rfl inX9_here_X9 21 (by decide) (List.mem_of_getElem? (i := 2) rfl) (v := .int (σ 0 21)) rfl dX9_here_43 ?_
  refine lv_icmp_ge (tgt := 61) hx hb dX9_here_46 (by decide) (fun c46 => ?_) (fun c46 => ?_)
  · have h := h.1 c46
    refine lv_iconst (v := (-1)) hx hb dX9_here_61 (by decide) ?_
    exact Rt _ _ _ _ _ _ h hP hD hS dX9_here_62
  · have h := h.2 c46
    refine lv_aload_n hx hb dX9_here_49 rfl (lv_at hl 0 rfl) ?_
    refine wx_get C hP (q := 0) (ci := 9) (Nat.le_of_ble_eq_true rfl) (eM_0 cI ad _) (Cn := RX9) (T := TX9) (Nf := 27) rfl inX9_here_X9 20 (by decide) (List.mem_of_getElem? (i := 3) rfl) (v := .ref (ad 11)) rfl dX9_here_50 ?_
    refine lv_aload_n hx hb dX9_here_53 rfl (lv_at hl 0 rfl) ?_
    refine wx_get C hP (q := 0) (ci := 9) (Nat.le_of_ble_eq_true rfl) (eM_0 cI ad _) (Cn := RX9) (T := TX9) (Nf := 27) rfl inX9_here_X9 22 (by decide) (List.mem_of_getElem? (i := 1) rfl) (v := .int (σ 0 22)) rfl dX9_here_54 ?_
    refine wx_ild C hP (q := 11) (Nat.le_of_ble_eq_true rfl) (fun _ => rfl) 0 rfl h.1 dX9_here_57 ?_
    have h := h.2
    refine lv_goto (tgt := 62) hx hb dX9_here_58 (by decide) ?_
    exact Rt _ _ _ _ _ _ h hP hD hS dX9_here_62
set_option maxRecDepth 100000 in
set_option maxHeartbeats 4000000 in
theorem bX9_here_0 {p : Program} {l : Launch} {e : Env} {s : State} {m : MethodId} {args : Array Value} {below : List Frame} {meth : Method} {c : Code} {A : Nat → Prop} {Q : State → Prop} {D : va_G} {cI : ClassId} {ad : Nat → Nat} {K : Int32 → wx_Z → Prop} (C : wx_C p s m args c cX9_here 1 RX9 wsX9_here D [(cI, .int)] wx_T0 A) (Rt : wx_Ri p l e rmX9_here s m args below meth c cX9_here D 14 (wM_E cI ad) ad A K Q) : ∀ (n : Nat) (σ : wx_Z), wpX9_here_0 K n σ → ∀ (H : Heap) (locs : List Loc) (ls : Array Slot), va_P D vwCl (wx_w 14 (wM_E cI ad) ad σ) H → va_D A (wx_w 14 (wM_E cI ad) ad σ) → va_S A s.heap H locs → lv_has ls 1 [(0, .ref (ad 0))] → W p l e rmX9_here s m args below meth c H locs 0 0 Q (F0 m 0 ls []) := by
  obtain ⟨⟨hx, hb, hml, hown, hts⟩, hA, hK, hRO, hro⟩ := id C
  intro n
  induction n with
  | zero => intro σ h; exact h.elim
  | succ n ih =>
    intro σ h H locs ls hP hD hS hl
    unfold wpX9_here_0 at h
    refine lv_aload_n hx hb dX9_here_0 rfl (lv_at hl 0 rfl) ?_
    refine wx_get C hP (q := 0) (ci := 9) (Nat.le_of_ble_eq_true rfl) (eM_0 cI ad _) (Cn := RX9) (T := TX9) (Nf := 27) rfl inX9_here_X9 22 (by decide) (List.mem_of_getElem? (i := 1) rfl) (v := .int (σ 0 22)) rfl dX9_here_1 ?_
    refine lv_aload_n hx hb dX9_here_4 rfl (lv_at hl 0 rfl) ?_
    refine wx_get C hP (q := 0) (ci := 9) (Nat.le_of_ble_eq_true rfl) (eM_0 cI ad _) (Cn := RX9) (T := TX9) (Nf := 27) rfl inX9_here_X9 21 (by decide) (List.mem_of_getElem? (i := 2) rfl) (v := .int (σ 0 21)) rfl dX9_here_5 ?_
    refine lv_icmp_ge (tgt := 38) hx hb dX9_here_8 (by decide) (fun c8 => ?_) (fun c8 => ?_)
    · have h := h.1 c8
      exact bX9_here_38 C Rt σ  h _ _ _ hP hD hS (lv_sub hl [0] rfl)
    · have h := h.2 c8
      refine lv_aload_n hx hb dX9_here_11 rfl (lv_at hl 0 rfl) ?_
      refine wx_get C hP (q := 0) (ci := 9) (Nat.le_of_ble_eq_true rfl) (eM_0 cI ad _) (Cn := RX9) (T := TX9) (Nf := 27) rfl inX9_here_X9 20 (by decide) (List.mem_of_getElem? (i := 3) rfl) (v := .ref (ad 11)) rfl dX9_here_12 ?_
      refine lv_aload_n hx hb dX9_here_15 rfl (lv_at hl 0 rfl) ?_
      refine wx_get C hP (q := 0) (ci := 9) (Nat.le_of_ble_eq_true rfl) (eM_0 cI ad _) (Cn := RX9) (T := TX9) (Nf := 27) rfl inX9_here_X9 22 (by decide) (List.mem_of_getElem? (i := 1) rfl) (v := .int (σ 0 22)) rfl dX9_here_16 ?_
      refine wx_ild C hP (q := 11) (Nat.le_of_ble_eq_true rfl) (fun _ => rfl) 0 rfl h.1 dX9_here_19 ?_
      have h := h.2
      refine lv_bipush (v := 32) hx hb dX9_here_20 (by decide) ?_
      refine lv_icmp_ne (tgt := 38) hx hb dX9_here_22 (by decide) (fun c22 => ?_) (fun c22 => ?_)
      · have h := h.1 c22
        exact bX9_here_38 C Rt σ  h _ _ _ hP hD hS (lv_sub hl [0] rfl)
      · have h := h.2 c22
        refine lv_aload_n hx hb dX9_here_25 rfl (lv_at hl 0 rfl) ?_
        refine lv_dup hx hb dX9_here_26 rfl ?_
        refine wx_get C hP (q := 0) (ci := 9) (Nat.le_of_ble_eq_true rfl) (eM_0 cI ad _) (Cn := RX9) (T := TX9) (Nf := 27) rfl inX9_here_X9 22 (by decide) (List.mem_of_getElem? (i := 1) rfl) (v := .int (σ 0 22)) rfl dX9_here_27 ?_
        refine lv_iconst (v := 1) hx hb dX9_here_30 (by decide) ?_
        refine lv_iadd hx hb dX9_here_31 ?_
        refine wx_put C hP hD hS (q := 0) (ci := 9) (Nat.le_of_ble_eq_true rfl) (eM_0 cI ad _) (Cn := RX9) (T := TX9) (Nf := 27) rfl inX9_here_X9 tyX9 tyX9_ok nmX9 22 (by decide) (List.mem_of_getElem? (i := 1) rfl) rfl rfl (Nat.le_of_ble_eq_true rfl) rfl dX9_here_32 (fun H locs hP hD hS => ?_)
        generalize e_σ32 : wx_up σ 0 22 ((σ 0 22) + 1) = σ32 at hP hD
        have h := h σ32 e_σ32.symm
        refine lv_goto (tgt := 0) hx hb dX9_here_35 (by decide) ?_
        exact ih σ32  h _ _ _ hP hD hS (lv_sub hl [0] rfl)
set_option maxRecDepth 100000 in
set_option maxHeartbeats 4000000 in
theorem mtX9_here {l : Launch} {D : va_G} {cI : ClassId} {ad : Nat → Nat} {sz : Nat} {σ : wx_Z} {K : Int32 → wx_Z → Prop} (h : wpX9_here σ K) : Met l yX9_here wsX9_here rmX9_here (wx_Pre D [(cI, .int)] wx_T0 14 (wM_E cI ad) ad σ sz [.ref (ad 0)]) (va_Qi K (wx_B D [(cI, .int)] 14 (wM_E cI ad) ad (va_A (wx_w 14 (wM_E cI ad) ad σ) sz)) (va_A (wx_w 14 (wM_E cI ad) ad σ) sz)) 0 0 (va_A (wx_w 14 (wM_E cI ad) ad σ) sz) := by
  unfold wpX9_here at h
  refine wx_meti (cc := cX9_here) (maxL := 1) (own := RX9) rfl (by decide) rfl (Nat.le_of_ble_eq_true rfl) wx_T0_ok ?_
  intro p e s m args below meth c A Q ls C Rt hP hD hS hl
  obtain ⟨⟨hx, hb, hml, hown, hts⟩, hA, hK, hRO, hro⟩ := id C
  have hl : lv_has ls 1 [(0, .ref (ad 0))] := hl
  obtain ⟨H, eH⟩ : ∃ z, z = s.heap := ⟨_, rfl⟩
  obtain ⟨locs, eL⟩ : ∃ z : List Loc, z = [] := ⟨_, rfl⟩
  rw [← eH] at hP
  have hS : va_S A s.heap H locs := by rw [eH, eL]; exact hS
  have goal : W p l e rmX9_here s m args below meth c H locs 0 0 Q (F0 m 0 ls []) := by
    obtain ⟨n0, h⟩ := h
    exact bX9_here_0 C Rt n0 σ  h _ _ _ hP hD hS (lv_sub hl [0] rfl)
  rw [eH, eL] at goal
  exact goal
abbrev rmX9_isFigure : Room := { frames := 2, cells := 0, slots := 0, locals := 65 }
set_option maxRecDepth 20000 in
theorem inX9_isFigure_X9 : ∀ w ∈ u_ws RX9 TX9 27, w ∈ wsX9_isFigure := by decide +kernel
set_option maxRecDepth 100000 in
set_option maxHeartbeats 4000000 in
theorem mtX9_isFigure {l : Launch} {D : va_G} {cI : ClassId} {ad : Nat → Nat} {sz : Nat} {σ : wx_Z} {x1 : Int32} {K : Int32 → wx_Z → Prop} (h : wpX9_isFigure σ x1 K) : Met l yX9_isFigure wsX9_isFigure rmX9_isFigure (wx_Pre D [(cI, .int)] wx_T0 14 (wM_E cI ad) ad σ sz [.ref (ad 0), .int x1]) (va_Qi K (wx_B D [(cI, .int)] 14 (wM_E cI ad) ad (va_A (wx_w 14 (wM_E cI ad) ad σ) sz)) (va_A (wx_w 14 (wM_E cI ad) ad σ) sz)) 0 0 (va_A (wx_w 14 (wM_E cI ad) ad σ) sz) := by
  unfold wpX9_isFigure at h
  refine wx_metz (cc := cX9_isFigure) (maxL := 2) (own := RX9) rfl (by decide) rfl (Nat.le_of_ble_eq_true rfl) wx_T0_ok ?_
  intro p e s m args below meth c A Q ls C Rt hP hD hS hl
  obtain ⟨⟨hx, hb, hml, hown, hts⟩, hA, hK, hRO, hro⟩ := id C
  have hl : lv_has ls 2 [(0, .ref (ad 0)), (1, .int x1)] := hl
  obtain ⟨H, eH⟩ : ∃ z, z = s.heap := ⟨_, rfl⟩
  obtain ⟨locs, eL⟩ : ∃ z : List Loc, z = [] := ⟨_, rfl⟩
  rw [← eH] at hP
  have hS : va_S A s.heap H locs := by rw [eH, eL]; exact hS
  have goal : W p l e rmX9_isFigure s m args below meth c H locs 0 0 Q (F0 m 0 ls []) := by
    refine lv_iload_n hx hb dX9_isFigure_0 rfl (lv_at hl 1 rfl) ?_
    refine lv_aload_n hx hb dX9_isFigure_1 rfl (lv_at hl 0 rfl) ?_
    refine wx_get C hP (q := 0) (ci := 9) (Nat.le_of_ble_eq_true rfl) (eM_0 cI ad _) (Cn := RX9) (T := TX9) (Nf := 27) rfl inX9_isFigure_X9 21 (by decide) (List.mem_of_getElem? (i := 1) rfl) (v := .int (σ 0 21)) rfl dX9_isFigure_2 ?_
    refine lv_icmp_ge (tgt := 31) hx hb dX9_isFigure_5 (by decide) (fun c5 => ?_) (fun c5 => ?_)
    · have h := h.1 c5
      refine lv_iconst (v := 0) hx hb dX9_isFigure_31 (by decide) ?_
      exact Rt _ _ _ _ _ _ rfl h hP hD hS dX9_isFigure_32
    · have h := h.2 c5
      refine lv_aload_n hx hb dX9_isFigure_8 rfl (lv_at hl 0 rfl) ?_
      refine wx_get C hP (q := 0) (ci := 9) (Nat.le_of_ble_eq_true rfl) (eM_0 cI ad _) (Cn := RX9) (T := TX9) (Nf := 27) rfl inX9_isFigure_X9 20 (by decide) (List.mem_of_getElem? (i := 2) rfl) (v := .ref (ad 11)) rfl dX9_isFigure_9 ?_
      refine lv_iload_n hx hb dX9_isFigure_12 rfl (lv_at hl 1 rfl) ?_
      refine wx_ild C hP (q := 11) (Nat.le_of_ble_eq_true rfl) (fun _ => rfl) 0 rfl h.1 dX9_isFigure_13 ?_
      have h := h.2
      refine lv_i2l (v := Int32.toInt64 (σ 11 (Int32.toNatClampNeg x1))) hx hb dX9_isFigure_14 rfl ?_
      refine lv_ldc2 hx hb hown (hts _ (List.mem_of_getElem? (i := 3) rfl)) dX9_isFigure_15 ?_
      refine lv_ldc2 hx hb hown (hts _ (List.mem_of_getElem? (i := 4) rfl)) dX9_isFigure_18 ?_
      refine wx_ci C hD hS (va_runS (As := [.long (Int32.toInt64 (σ 11 (Int32.toNatClampNeg x1))), .long 48, .long 57]) (rest := []) C.1 (mtX9_in (l := l) (D := D) (sz := H.size) h) (va_cwS 3 hts gX9_isFigure_X9_in rfl rfl rfl nyX9_in.2 ⟨Nat.le_of_ble_eq_true rfl, Nat.le_of_ble_eq_true rfl⟩) (wx_ps C hP hD hS) rfl rfl hl.1 rfl (lv_room (Nat.le_of_ble_eq_true rfl)) dX9_isFigure_21 ⟨Nat.zero_le _, Nat.zero_le _⟩) (fun r21 σ21 H locs h hP hD hS => ?_)
      refine lv_if_eq (tgt := 31) hx hb dX9_isFigure_24 (by decide) (fun c24 => ?_) (fun c24 => ?_)
      · have h := h.1 c24
        refine lv_iconst (v := 0) hx hb dX9_isFigure_31 (by decide) ?_
        exact Rt _ _ _ _ _ _ rfl h hP hD hS dX9_isFigure_32
      · have h := h.2 c24
        refine lv_iconst (v := 1) hx hb dX9_isFigure_27 (by decide) ?_
        refine lv_goto (tgt := 32) hx hb dX9_isFigure_28 (by decide) ?_
        exact Rt _ _ _ _ _ _ rfl h hP hD hS dX9_isFigure_32
  rw [eH, eL] at goal
  exact goal
abbrev rmX9_takes : Room := { frames := 3, cells := 0, slots := 0, locals := 86 }
set_option maxRecDepth 20000 in
theorem inX9_takes_X9 : ∀ w ∈ u_ws RX9 TX9 27, w ∈ wsX9_takes := by decide +kernel
theorem nyX9_here : yX9_here.cls = RX9 ∧ yX9_here.cls ≠ "java/lang/invoke/MethodHandle" ∧ yX9_here.cls ≠ "java/lang/invoke/VarHandle" ∧ (parseMethodDescriptor yX9_here.desc).map (fun d => d.parameters.length) = some 0 := by decide +kernel
theorem nyX9_isFigure : yX9_isFigure.cls = RX9 ∧ yX9_isFigure.cls ≠ "java/lang/invoke/MethodHandle" ∧ yX9_isFigure.cls ≠ "java/lang/invoke/VarHandle" ∧ (parseMethodDescriptor yX9_isFigure.desc).map (fun d => d.parameters.length) = some 1 := by decide +kernel
set_option maxRecDepth 100000 in
set_option maxHeartbeats 4000000 in
theorem bX9_takes_136 {p : Program} {l : Launch} {e : Env} {s : State} {m : MethodId} {args : Array Value} {below : List Frame} {meth : Method} {c : Code} {A : Nat → Prop} {Q : State → Prop} {D : va_G} {cI : ClassId} {ad : Nat → Nat} {K : Int32 → wx_Z → Prop} (C : wx_C p s m args c cX9_takes 8 RX9 wsX9_takes D [(cI, .int)] wx_T0 A) (Rt : wx_Rz .boolean p l e rmX9_takes s m args below meth c cX9_takes D 14 (wM_E cI ad) ad A K Q) : ∀ (σ : wx_Z) (x4 : Int32) (s0 : Int32), wpX9_takes_136 K σ x4 s0 → ∀ (H : Heap) (locs : List Loc) (ls : Array Slot), va_P D vwCl (wx_w 14 (wM_E cI ad) ad σ) H → va_D A (wx_w 14 (wM_E cI ad) ad σ) → va_S A s.heap H locs → lv_has ls 8 [(0, .ref (ad 0)), (4, .int x4)] → W p l e rmX9_takes s m args below meth c H locs 0 0 Q (F0 m 136 ls [.int s0]) := by
  obtain ⟨⟨hx, hb, hml, hown, hts⟩, hA, hK, hRO, hro⟩ := id C
  intro σ x4 s0 h H locs ls hP hD hS hl
  unfold wpX9_takes_136 at h
  refine lv_istore (lv' := [(7, .int s0), (0, .ref (ad 0)), (4, .int x4)]) hx hb dX9_takes_136 hl (by decide) rfl (fun ls hl => ?_)
  refine lv_aload_n hx hb dX9_takes_138 rfl (lv_at hl 1 rfl) ?_
  refine lv_iload hx hb dX9_takes_139 (lv_at hl 0 rfl) ?_
  refine lv_if_eq (tgt := 149) hx hb dX9_takes_141 (by decide) (fun c141 => ?_) (fun c141 => ?_)
  · have h := h.1 c141
    refine lv_aload_n hx hb dX9_takes_149 rfl (lv_at hl 1 rfl) ?_
    refine wx_get C hP (q := 0) (ci := 9) (Nat.le_of_ble_eq_true rfl) (eM_0 cI ad _) (Cn := RX9) (T := TX9) (Nf := 27) rfl inX9_takes_X9 22 (by decide) (List.mem_of_getElem? (i := 1) rfl) (v := .int (σ 0 22)) rfl dX9_takes_150 ?_
    refine wx_put C hP hD hS (q := 0) (ci := 9) (Nat.le_of_ble_eq_true rfl) (eM_0 cI ad _) (Cn := RX9) (T := TX9) (Nf := 27) rfl inX9_takes_X9 tyX9 tyX9_ok nmX9 22 (by decide) (List.mem_of_getElem? (i := 1) rfl) rfl rfl (Nat.le_of_ble_eq_true rfl) rfl dX9_takes_153 (fun H locs hP hD hS => ?_)
    generalize e_σ153 : wx_up σ 0 22 (σ 0 22) = σ153 at hP hD
    have h := h σ153 e_σ153.symm
    refine lv_iload hx hb dX9_takes_156 (lv_at hl 0 rfl) ?_
    exact Rt _ _ _ _ _ _ h.1 h.2 hP hD hS dX9_takes_158
  · have h := h.2 c141
    refine lv_iload hx hb dX9_takes_144 (lv_at hl 2 rfl) ?_
    refine lv_goto (tgt := 153) hx hb dX9_takes_146 (by decide) ?_
    refine wx_put C hP hD hS (q := 0) (ci := 9) (Nat.le_of_ble_eq_true rfl) (eM_0 cI ad _) (Cn := RX9) (T := TX9) (Nf := 27) rfl inX9_takes_X9 tyX9 tyX9_ok nmX9 22 (by decide) (List.mem_of_getElem? (i := 1) rfl) rfl rfl (Nat.le_of_ble_eq_true rfl) rfl dX9_takes_153 (fun H locs hP hD hS => ?_)
    generalize e_σ153_1 : wx_up σ 0 22 x4 = σ153_1 at hP hD
    have h := h σ153_1 e_σ153_1.symm
    refine lv_iload hx hb dX9_takes_156 (lv_at hl 0 rfl) ?_
    exact Rt _ _ _ _ _ _ h.1 h.2 hP hD hS dX9_takes_158
set_option maxRecDepth 100000 in
set_option maxHeartbeats 4000000 in
theorem bX9_takes_97 {p : Program} {l : Launch} {e : Env} {s : State} {m : MethodId} {args : Array Value} {below : List Frame} {meth : Method} {c : Code} {A : Nat → Prop} {Q : State → Prop} {D : va_G} {cI : ClassId} {ad : Nat → Nat} {K : Int32 → wx_Z → Prop} (C : wx_C p s m args c cX9_takes 8 RX9 wsX9_takes D [(cI, .int)] wx_T0 A) (Rt : wx_Rz .boolean p l e rmX9_takes s m args below meth c cX9_takes D 14 (wM_E cI ad) ad A K Q) : ∀ (σ : wx_Z) (x1 : Int32) (x2 : Int32) (x4 : Int32) (x5 : Int32) (s1 : Int32), wpX9_takes_97 K σ x1 x2 x4 x5 s1 → ∀ (H : Heap) (locs : List Loc) (ls : Array Slot), va_P D vwCl (wx_w 14 (wM_E cI ad) ad σ) H → va_D A (wx_w 14 (wM_E cI ad) ad σ) → va_S A s.heap H locs → lv_has ls 8 [(0, .ref (ad 0)), (1, .int x1), (2, .int x2), (4, .int x4), (5, .int x5)] → W p l e rmX9_takes s m args below meth c H locs 0 0 Q (F0 m 97 ls [.int s1, .ref (ad 0)]) := by
  obtain ⟨⟨hx, hb, hml, hown, hts⟩, hA, hK, hRO, hro⟩ := id C
  intro σ x1 x2 x4 x5 s1 h H locs ls hP hD hS hl
  unfold wpX9_takes_97 at h
  refine wx_put C hP hD hS (q := 0) (ci := 9) (Nat.le_of_ble_eq_true rfl) (eM_0 cI ad _) (Cn := RX9) (T := TX9) (Nf := 27) rfl inX9_takes_X9 tyX9 tyX9_ok nmX9 23 (by decide) (List.mem_of_getElem? (i := 3) rfl) rfl rfl (Nat.le_of_ble_eq_true rfl) rfl dX9_takes_97 (fun H locs hP hD hS => ?_)
  generalize e_σ97 : wx_up σ 0 23 s1 = σ97 at hP hD
  have h := h σ97 e_σ97.symm
  refine lv_iload hx hb dX9_takes_100 (lv_at hl 3 rfl) ?_
  refine lv_iload hx hb dX9_takes_102 (lv_at hl 4 rfl) ?_
  refine lv_isub hx hb dX9_takes_104 ?_
  refine lv_i2l (v := Int32.toInt64 (x4 - x5)) hx hb dX9_takes_105 rfl ?_
  refine lv_lconst (v := 1) hx hb dX9_takes_106 (by decide) ?_
  refine lv_ldc2 hx hb hown (hts _ (List.mem_of_getElem? (i := 4) rfl)) dX9_takes_107 ?_
  refine wx_ci C hD hS (va_runS (As := [.long (Int32.toInt64 (x4 - x5)), .long 1, .long 2]) (rest := []) C.1 (mtX9_in (l := l) (D := D) (sz := H.size) h) (va_cwS 3 hts gX9_takes_X9_in rfl rfl rfl nyX9_in.2 ⟨Nat.le_of_ble_eq_true rfl, Nat.le_of_ble_eq_true rfl⟩) (wx_ps C hP hD hS) rfl rfl hl.1 rfl (lv_room (Nat.le_of_ble_eq_true rfl)) dX9_takes_110 ⟨Nat.zero_le _, Nat.zero_le _⟩) (fun r110 σ110 H locs h hP hD hS => ?_)
  refine lv_if_eq (tgt := 135) hx hb dX9_takes_113 (by decide) (fun c113 => ?_) (fun c113 => ?_)
  · have h := h.1 c113
    refine lv_iconst (v := 0) hx hb dX9_takes_135 (by decide) ?_
    exact bX9_takes_136 C Rt σ110 x4 0  h _ _ _ hP hD hS (lv_sub hl [0, 3] rfl)
  · have h := h.2 c113
    refine lv_aload_n hx hb dX9_takes_116 rfl (lv_at hl 0 rfl) ?_
    refine wx_get C hP (q := 0) (ci := 9) (Nat.le_of_ble_eq_true rfl) (eM_0 cI ad _) (Cn := RX9) (T := TX9) (Nf := 27) rfl inX9_takes_X9 23 (by decide) (List.mem_of_getElem? (i := 3) rfl) (v := .int (σ110 0 23)) rfl dX9_takes_117 ?_
    refine lv_i2l (v := Int32.toInt64 (σ110 0 23)) hx hb dX9_takes_120 rfl ?_
    refine lv_iload_n hx hb dX9_takes_121 rfl (lv_at hl 1 rfl) ?_
    refine lv_i2l (v := Int32.toInt64 x1) hx hb dX9_takes_122 rfl ?_
    refine lv_iload_n hx hb dX9_takes_123 rfl (lv_at hl 2 rfl) ?_
    refine lv_i2l (v := Int32.toInt64 x2) hx hb dX9_takes_124 rfl ?_
    refine wx_ci C hD hS (va_runS (As := [.long (Int32.toInt64 (σ110 0 23)), .long (Int32.toInt64 x1), .long (Int32.toInt64 x2)]) (rest := []) C.1 (mtX9_in (l := l) (D := D) (sz := H.size) h) (va_cwS 3 hts gX9_takes_X9_in rfl rfl rfl nyX9_in.2 ⟨Nat.le_of_ble_eq_true rfl, Nat.le_of_ble_eq_true rfl⟩) (wx_ps C hP hD hS) rfl rfl hl.1 rfl (lv_room (Nat.le_of_ble_eq_true rfl)) dX9_takes_125 ⟨Nat.zero_le _, Nat.zero_le _⟩) (fun r125 σ125 H locs h hP hD hS => ?_)
    refine lv_if_eq (tgt := 135) hx hb dX9_takes_128 (by decide) (fun c128 => ?_) (fun c128 => ?_)
    · have h := h.1 c128
      refine lv_iconst (v := 0) hx hb dX9_takes_135 (by decide) ?_
      exact bX9_takes_136 C Rt σ125 x4 0  h _ _ _ hP hD hS (lv_sub hl [0, 3] rfl)
    · have h := h.2 c128
      refine lv_iconst (v := 1) hx hb dX9_takes_131 (by decide) ?_
      refine lv_goto (tgt := 136) hx hb dX9_takes_132 (by decide) ?_
      exact bX9_takes_136 C Rt σ125 x4 1  h _ _ _ hP hD hS (lv_sub hl [0, 3] rfl)
set_option maxRecDepth 100000 in
set_option maxHeartbeats 4000000 in
theorem bX9_takes_84 {p : Program} {l : Launch} {e : Env} {s : State} {m : MethodId} {args : Array Value} {below : List Frame} {meth : Method} {c : Code} {A : Nat → Prop} {Q : State → Prop} {D : va_G} {cI : ClassId} {ad : Nat → Nat} {K : Int32 → wx_Z → Prop} (C : wx_C p s m args c cX9_takes 8 RX9 wsX9_takes D [(cI, .int)] wx_T0 A) (Rt : wx_Rz .boolean p l e rmX9_takes s m args below meth c cX9_takes D 14 (wM_E cI ad) ad A K Q) : ∀ (σ : wx_Z) (x1 : Int32) (x2 : Int32) (x3 : Int32) (x4 : Int32) (x5 : Int32) (x6 : Int32), wpX9_takes_84 K σ x1 x2 x3 x4 x5 x6 → ∀ (H : Heap) (locs : List Loc) (ls : Array Slot), va_P D vwCl (wx_w 14 (wM_E cI ad) ad σ) H → va_D A (wx_w 14 (wM_E cI ad) ad σ) → va_S A s.heap H locs → lv_has ls 8 [(0, .ref (ad 0)), (1, .int x1), (2, .int x2), (3, .int x3), (4, .int x4), (5, .int x5), (6, .int x6)] → W p l e rmX9_takes s m args below meth c H locs 0 0 Q (F0 m 84 ls []) := by
  obtain ⟨⟨hx, hb, hml, hown, hts⟩, hA, hK, hRO, hro⟩ := id C
  intro σ x1 x2 x3 x4 x5 x6 h H locs ls hP hD hS hl
  unfold wpX9_takes_84 at h
  refine lv_aload_n hx hb dX9_takes_84 rfl (lv_at hl 0 rfl) ?_
  refine lv_iload_n hx hb dX9_takes_85 rfl (lv_at hl 3 rfl) ?_
  refine lv_if_eq (tgt := 95) hx hb dX9_takes_86 (by decide) (fun c86 => ?_) (fun c86 => ?_)
  · have h := h.1 c86
    refine lv_iload hx hb dX9_takes_95 (lv_at hl 6 rfl) ?_
    exact bX9_takes_97 C Rt σ x1 x2 x4 x5 x6  h _ _ _ hP hD hS (lv_sub hl [0, 1, 2, 4, 5] rfl)
  · have h := h.2 c86
    refine lv_iload hx hb dX9_takes_89 (lv_at hl 6 rfl) ?_
    refine lv_ineg hx hb dX9_takes_91 ?_
    refine lv_goto (tgt := 97) hx hb dX9_takes_92 (by decide) ?_
    exact bX9_takes_97 C Rt σ x1 x2 x4 x5 (-x6)  h _ _ _ hP hD hS (lv_sub hl [0, 1, 2, 4, 5] rfl)
set_option maxRecDepth 100000 in
set_option maxHeartbeats 4000000 in
theorem bX9_takes_42 {p : Program} {l : Launch} {e : Env} {s : State} {m : MethodId} {args : Array Value} {below : List Frame} {meth : Method} {c : Code} {A : Nat → Prop} {Q : State → Prop} {D : va_G} {cI : ClassId} {ad : Nat → Nat} {K : Int32 → wx_Z → Prop} (C : wx_C p s m args c cX9_takes 8 RX9 wsX9_takes D [(cI, .int)] wx_T0 A) (Rt : wx_Rz .boolean p l e rmX9_takes s m args below meth c cX9_takes D 14 (wM_E cI ad) ad A K Q) : ∀ (n : Nat) (σ : wx_Z) (x1 : Int32) (x2 : Int32) (x3 : Int32) (x4 : Int32) (x5 : Int32) (x6 : Int32), wpX9_takes_42 K n σ x1 x2 x3 x4 x5 x6 → ∀ (H : Heap) (locs : List Loc) (ls : Array Slot), va_P D vwCl (wx_w 14 (wM_E cI ad) ad σ) H → va_D A (wx_w 14 (wM_E cI ad) ad σ) → va_S A s.heap H locs → lv_has ls 8 [(0, .ref (ad 0)), (1, .int x1), (2, .int x2), (3, .int x3), (4, .int x4), (5, .int x5), (6, .int x6)] → W p l e rmX9_takes s m args below meth c H locs 0 0 Q (F0 m 42 ls []) := by
  obtain ⟨⟨hx, hb, hml, hown, hts⟩, hA, hK, hRO, hro⟩ := id C
  intro n
  induction n with
  | zero => intro σ x1 x2 x3 x4 x5 x6 h; exact h.elim
  | succ n ih =>
    intro σ x1 x2 x3 x4 x5 x6 h H locs ls hP hD hS hl
    unfold wpX9_takes_42 at h
    refine lv_aload_n hx hb dX9_takes_42 rfl (lv_at hl 0 rfl) ?_
    refine lv_iload hx hb dX9_takes_43 (lv_at hl 4 rfl) ?_
    refine wx_ci C hD hS (va_runV (As := [.int x4]) (rest := []) C.1 (mtX9_isFigure (l := l) (D := D) (sz := H.size) h) (cwV 1 hts gX9_takes_X9_isFigure rfl rfl rfl nyX9_isFigure ⟨Nat.le_of_ble_eq_true rfl, Nat.le_of_ble_eq_true rfl⟩) (wx_pv C hP hD hS (q := 0) (ci := 9) (Nat.le_of_ble_eq_true rfl) (eM_0 cI ad _) rfl) rfl rfl hl.1 rfl (lv_room (Nat.le_of_ble_eq_true rfl)) dX9_takes_45 ⟨Nat.zero_le _, Nat.zero_le _⟩) (fun r45 σ45 H locs h hP hD hS => ?_)
    refine lv_if_eq (tgt := 84) hx hb dX9_takes_48 (by decide) (fun c48 => ?_) (fun c48 => ?_)
    · have h := h.1 c48
      exact bX9_takes_84 C Rt σ45 x1 x2 x3 x4 x5 x6  h _ _ _ hP hD hS (lv_sub hl [0, 1, 2, 3, 4, 5, 6] rfl)
    · have h := h.2 c48
      refine lv_iload hx hb dX9_takes_51 (lv_at hl 4 rfl) ?_
      refine lv_iload hx hb dX9_takes_53 (lv_at hl 5 rfl) ?_
      refine lv_isub hx hb dX9_takes_55 ?_
      refine lv_iconst (v := 3) hx hb dX9_takes_56 (by decide) ?_
      refine lv_icmp_ge (tgt := 84) hx hb dX9_takes_57 (by decide) (fun c57 => ?_) (fun c57 => ?_)
      · have h := h.1 c57
        exact bX9_takes_84 C Rt σ45 x1 x2 x3 x4 x5 x6  h _ _ _ hP hD hS (lv_sub hl [0, 1, 2, 3, 4, 5, 6] rfl)
      · have h := h.2 c57
        refine lv_bipush (v := 10) hx hb dX9_takes_60 (by decide) ?_
        refine lv_iload hx hb dX9_takes_62 (lv_at hl 6 rfl) ?_
        refine lv_imul hx hb dX9_takes_64 ?_
        refine lv_aload_n hx hb dX9_takes_65 rfl (lv_at hl 0 rfl) ?_
        refine wx_get C hP (q := 0) (ci := 9) (Nat.le_of_ble_eq_true rfl) (eM_0 cI ad _) (Cn := RX9) (T := TX9) (Nf := 27) rfl inX9_takes_X9 20 (by decide) (List.mem_of_getElem? (i := 2) rfl) (v := .ref (ad 11)) rfl dX9_takes_66 ?_
        refine lv_iload hx hb dX9_takes_69 (lv_at hl 4 rfl) ?_
        refine wx_ild C hP (q := 11) (Nat.le_of_ble_eq_true rfl) (fun _ => rfl) 0 rfl h.1 dX9_takes_71 ?_
        have h := h.2
        refine lv_iadd hx hb dX9_takes_72 ?_
        refine lv_bipush (v := 48) hx hb dX9_takes_73 (by decide) ?_
        refine lv_isub hx hb dX9_takes_75 ?_
        refine lv_topi (fun t76 e_t76 => ?_)
        have h := h t76 e_t76
        refine lv_istore (lv' := [(6, .int t76), (0, .ref (ad 0)), (1, .int x1), (2, .int x2), (3, .int x3), (4, .int x4), (5, .int x5)]) hx hb dX9_takes_76 hl (by decide) rfl (fun ls hl => ?_)
        obtain ⟨t78, e_t78⟩ : ∃ y : Int32, y = x4 + 1 := ⟨_, rfl⟩
        have h := h t78 e_t78
        refine lv_iinc (v := t78) (lv' := [(4, .int t78), (6, .int t76), (0, .ref (ad 0)), (1, .int x1), (2, .int x2), (3, .int x3), (5, .int x5)]) hx hb dX9_takes_78 hl (k := 5) rfl (by rw [e_t78]; rfl) (by decide) rfl (fun ls hl => ?_)
        refine lv_goto (tgt := 42) hx hb dX9_takes_81 (by decide) ?_
        exact ih σ45 x1 x2 x3 t78 x5 t76  h _ _ _ hP hD hS (lv_sub hl [2, 3, 4, 5, 0, 6, 1] rfl)
set_option maxRecDepth 100000 in
set_option maxHeartbeats 4000000 in
theorem bX9_takes_32 {p : Program} {l : Launch} {e : Env} {s : State} {m : MethodId} {args : Array Value} {below : List Frame} {meth : Method} {c : Code} {A : Nat → Prop} {Q : State → Prop} {D : va_G} {cI : ClassId} {ad : Nat → Nat} {K : Int32 → wx_Z → Prop} (C : wx_C p s m args c cX9_takes 8 RX9 wsX9_takes D [(cI, .int)] wx_T0 A) (Rt : wx_Rz .boolean p l e rmX9_takes s m args below meth c cX9_takes D 14 (wM_E cI ad) ad A K Q) : ∀ (σ : wx_Z) (x1 : Int32) (x2 : Int32) (x3 : Int32) (s0 : Int32) (s1 : Int32), wpX9_takes_32 K σ x1 x2 x3 s0 s1 → ∀ (H : Heap) (locs : List Loc) (ls : Array Slot), va_P D vwCl (wx_w 14 (wM_E cI ad) ad σ) H → va_D A (wx_w 14 (wM_E cI ad) ad σ) → va_S A s.heap H locs → lv_has ls 8 [(0, .ref (ad 0)), (1, .int x1), (2, .int x2), (3, .int x3)] → W p l e rmX9_takes s m args below meth c H locs 0 0 Q (F0 m 32 ls [.int s1, .int s0]) := by
  obtain ⟨⟨hx, hb, hml, hown, hts⟩, hA, hK, hRO, hro⟩ := id C
  intro σ x1 x2 x3 s0 s1 h H locs ls hP hD hS hl
  unfold wpX9_takes_32 at h
  refine lv_iadd hx hb dX9_takes_32 ?_
  refine lv_topi (fun t33 e_t33 => ?_)
  have h := h t33 e_t33
  refine lv_istore (lv' := [(4, .int t33), (0, .ref (ad 0)), (1, .int x1), (2, .int x2), (3, .int x3)]) hx hb dX9_takes_33 hl (by decide) rfl (fun ls hl => ?_)
  refine lv_iload hx hb dX9_takes_35 (lv_at hl 0 rfl) ?_
  refine lv_istore (lv' := [(5, .int t33), (4, .int t33), (0, .ref (ad 0)), (1, .int x1), (2, .int x2), (3, .int x3)]) hx hb dX9_takes_37 hl (by decide) rfl (fun ls hl => ?_)
  refine lv_iconst (v := 0) hx hb dX9_takes_39 (by decide) ?_
  refine lv_istore (lv' := [(6, .int 0), (5, .int t33), (4, .int t33), (0, .ref (ad 0)), (1, .int x1), (2, .int x2), (3, .int x3)]) hx hb dX9_takes_40 hl (by decide) rfl (fun ls hl => ?_)
  obtain ⟨n42, h⟩ := h
  exact bX9_takes_42 C Rt n42 σ x1 x2 x3 t33 t33 0  h _ _ _ hP hD hS (lv_sub hl [3, 4, 5, 6, 2, 1, 0] rfl)
set_option maxRecDepth 100000 in
set_option maxHeartbeats 4000000 in
theorem bX9_takes_18 {p : Program} {l : Launch} {e : Env} {s : State} {m : MethodId} {args : Array Value} {below : List Frame} {meth : Method} {c : Code} {A : Nat → Prop} {Q : State → Prop} {D : va_G} {cI : ClassId} {ad : Nat → Nat} {K : Int32 → wx_Z → Prop} (C : wx_C p s m args c cX9_takes 8 RX9 wsX9_takes D [(cI, .int)] wx_T0 A) (Rt : wx_Rz .boolean p l e rmX9_takes s m args below meth c cX9_takes D 14 (wM_E cI ad) ad A K Q) : ∀ (σ : wx_Z) (x1 : Int32) (x2 : Int32) (s0 : Int32), wpX9_takes_18 K σ x1 x2 s0 → ∀ (H : Heap) (locs : List Loc) (ls : Array Slot), va_P D vwCl (wx_w 14 (wM_E cI ad) ad σ) H → va_D A (wx_w 14 (wM_E cI ad) ad σ) → va_S A s.heap H locs → lv_has ls 8 [(0, .ref (ad 0)), (1, .int x1), (2, .int x2)] → W p l e rmX9_takes s m args below meth c H locs 0 0 Q (F0 m 18 ls [.int s0]) := by
  obtain ⟨⟨hx, hb, hml, hown, hts⟩, hA, hK, hRO, hro⟩ := id C
  intro σ x1 x2 s0 h H locs ls hP hD hS hl
  unfold wpX9_takes_18 at h
  refine lv_istore_n (lv' := [(3, .int s0), (0, .ref (ad 0)), (1, .int x1), (2, .int x2)]) hx hb dX9_takes_18 rfl hl (by decide) rfl (fun ls hl => ?_)
  refine lv_aload_n hx hb dX9_takes_19 rfl (lv_at hl 1 rfl) ?_
  refine wx_get C hP (q := 0) (ci := 9) (Nat.le_of_ble_eq_true rfl) (eM_0 cI ad _) (Cn := RX9) (T := TX9) (Nf := 27) rfl inX9_takes_X9 22 (by decide) (List.mem_of_getElem? (i := 1) rfl) (v := .int (σ 0 22)) rfl dX9_takes_20 ?_
  refine lv_iload_n hx hb dX9_takes_23 rfl (lv_at hl 0 rfl) ?_
  refine lv_if_eq (tgt := 31) hx hb dX9_takes_24 (by decide) (fun c24 => ?_) (fun c24 => ?_)
  · have h := h.1 c24
    refine lv_iconst (v := 0) hx hb dX9_takes_31 (by decide) ?_
    exact bX9_takes_32 C Rt σ x1 x2 s0 (σ 0 22) 0  h _ _ _ hP hD hS (lv_sub hl [1, 2, 3, 0] rfl)
  · have h := h.2 c24
    refine lv_iconst (v := 1) hx hb dX9_takes_27 (by decide) ?_
    refine lv_goto (tgt := 32) hx hb dX9_takes_28 (by decide) ?_
    exact bX9_takes_32 C Rt σ x1 x2 s0 (σ 0 22) 1  h _ _ _ hP hD hS (lv_sub hl [1, 2, 3, 0] rfl)
set_option maxRecDepth 100000 in
set_option maxHeartbeats 4000000 in
theorem mtX9_takes {l : Launch} {D : va_G} {cI : ClassId} {ad : Nat → Nat} {sz : Nat} {σ : wx_Z} {x1 : Int32} {x2 : Int32} {K : Int32 → wx_Z → Prop} (h : wpX9_takes σ x1 x2 K) : Met l yX9_takes wsX9_takes rmX9_takes (wx_Pre D [(cI, .int)] wx_T0 14 (wM_E cI ad) ad σ sz [.ref (ad 0), .int x1, .int x2]) (va_Qi K (wx_B D [(cI, .int)] 14 (wM_E cI ad) ad (va_A (wx_w 14 (wM_E cI ad) ad σ) sz)) (va_A (wx_w 14 (wM_E cI ad) ad σ) sz)) 0 0 (va_A (wx_w 14 (wM_E cI ad) ad σ) sz) := by
  unfold wpX9_takes at h
  refine wx_metz (cc := cX9_takes) (maxL := 8) (own := RX9) rfl (by decide) rfl (Nat.le_of_ble_eq_true rfl) wx_T0_ok ?_
  intro p e s m args below meth c A Q ls C Rt hP hD hS hl
  obtain ⟨⟨hx, hb, hml, hown, hts⟩, hA, hK, hRO, hro⟩ := id C
  have hl : lv_has ls 8 [(0, .ref (ad 0)), (1, .int x1), (2, .int x2)] := hl
  obtain ⟨H, eH⟩ : ∃ z, z = s.heap := ⟨_, rfl⟩
  obtain ⟨locs, eL⟩ : ∃ z : List Loc, z = [] := ⟨_, rfl⟩
  rw [← eH] at hP
  have hS : va_S A s.heap H locs := by rw [eH, eL]; exact hS
  have goal : W p l e rmX9_takes s m args below meth c H locs 0 0 Q (F0 m 0 ls []) := by
    refine lv_aload_n hx hb dX9_takes_0 rfl (lv_at hl 0 rfl) ?_
    refine wx_ci C hD hS (va_runV (As := []) (rest := []) C.1 (mtX9_here (l := l) (D := D) (sz := H.size) h) (cwV 0 hts gX9_takes_X9_here rfl rfl rfl nyX9_here ⟨Nat.le_of_ble_eq_true rfl, Nat.le_of_ble_eq_true rfl⟩) (wx_pv C hP hD hS (q := 0) (ci := 9) (Nat.le_of_ble_eq_true rfl) (eM_0 cI ad _) rfl) rfl rfl hl.1 rfl (lv_room (Nat.le_of_ble_eq_true rfl)) dX9_takes_1 ⟨Nat.zero_le _, Nat.zero_le _⟩) (fun r1 σ1 H locs h hP hD hS => ?_)
    refine lv_bipush (v := 45) hx hb dX9_takes_4 (by decide) ?_
    refine lv_icmp_ne (tgt := 17) hx hb dX9_takes_6 (by decide) (fun c6 => ?_) (fun c6 => ?_)
    · have h := h.1 c6
      refine lv_iconst (v := 0) hx hb dX9_takes_17 (by decide) ?_
      exact bX9_takes_18 C Rt σ1 x1 x2 0  h _ _ _ hP hD hS (lv_sub hl [0, 1, 2] rfl)
    · have h := h.2 c6
      refine lv_iload_n hx hb dX9_takes_9 rfl (lv_at hl 1 rfl) ?_
      refine lv_if_ge (tgt := 17) hx hb dX9_takes_10 (by decide) (fun c10 => ?_) (fun c10 => ?_)
      · have h := h.1 c10
        refine lv_iconst (v := 0) hx hb dX9_takes_17 (by decide) ?_
        exact bX9_takes_18 C Rt σ1 x1 x2 0  h _ _ _ hP hD hS (lv_sub hl [0, 1, 2] rfl)
      · have h := h.2 c10
        refine lv_iconst (v := 1) hx hb dX9_takes_13 (by decide) ?_
        refine lv_goto (tgt := 18) hx hb dX9_takes_14 (by decide) ?_
        exact bX9_takes_18 C Rt σ1 x1 x2 1  h _ _ _ hP hD hS (lv_sub hl [0, 1, 2] rfl)
  rw [eH, eL] at goal
  exact goal
abbrev rmX9_hexAt : Room := { frames := 2, cells := 0, slots := 0, locals := 65 }
set_option maxRecDepth 20000 in
theorem inX9_hexAt_X9 : ∀ w ∈ u_ws RX9 TX9 27, w ∈ wsX9_hexAt := by decide +kernel
set_option maxRecDepth 100000 in
set_option maxHeartbeats 4000000 in
theorem bX9_hexAt_18 {p : Program} {l : Launch} {e : Env} {s : State} {m : MethodId} {args : Array Value} {below : List Frame} {meth : Method} {c : Code} {A : Nat → Prop} {Q : State → Prop} {D : va_G} {cI : ClassId} {ad : Nat → Nat} {K : Int32 → wx_Z → Prop} (C : wx_C p s m args c cX9_hexAt 3 RX9 wsX9_hexAt D [(cI, .int)] wx_T0 A) (Rt : wx_Ri p l e rmX9_hexAt s m args below meth c cX9_hexAt D 14 (wM_E cI ad) ad A K Q) : ∀ (σ : wx_Z) (s0 : Int32), wpX9_hexAt_18 K σ s0 → ∀ (H : Heap) (locs : List Loc) (ls : Array Slot), va_P D vwCl (wx_w 14 (wM_E cI ad) ad σ) H → va_D A (wx_w 14 (wM_E cI ad) ad σ) → va_S A s.heap H locs → lv_has ls 3 [] → W p l e rmX9_hexAt s m args below meth c H locs 0 0 Q (F0 m 18 ls [.int s0]) := by
  obtain ⟨⟨hx, hb, hml, hown, hts⟩, hA, hK, hRO, hro⟩ := id C
  intro σ s0 h H locs ls hP hD hS hl
  unfold wpX9_hexAt_18 at h
  refine lv_istore_n (lv' := [(2, .int s0)]) hx hb dX9_hexAt_18 rfl hl (by decide) rfl (fun ls hl => ?_)
  refine lv_iload_n hx hb dX9_hexAt_19 rfl (lv_at hl 0 rfl) ?_
  refine lv_i2l (v := Int32.toInt64 s0) hx hb dX9_hexAt_20 rfl ?_
  refine lv_ldc2 hx hb hown (hts _ (List.mem_of_getElem? (i := 3) rfl)) dX9_hexAt_21 ?_
  refine lv_ldc2 hx hb hown (hts _ (List.mem_of_getElem? (i := 4) rfl)) dX9_hexAt_24 ?_
  refine wx_ci C hD hS (va_runS (As := [.long (Int32.toInt64 s0), .long 48, .long 57]) (rest := []) C.1 (mtX9_in (l := l) (D := D) (sz := H.size) h) (va_cwS 3 hts gX9_hexAt_X9_in rfl rfl rfl nyX9_in.2 ⟨Nat.le_of_ble_eq_true rfl, Nat.le_of_ble_eq_true rfl⟩) (wx_ps C hP hD hS) rfl rfl hl.1 rfl (lv_room (Nat.le_of_ble_eq_true rfl)) dX9_hexAt_27 ⟨Nat.zero_le _, Nat.zero_le _⟩) (fun r27 σ27 H locs h hP hD hS => ?_)
  refine lv_if_eq (tgt := 40) hx hb dX9_hexAt_30 (by decide) (fun c30 => ?_) (fun c30 => ?_)
  · have h := h.1 c30
    refine lv_iload_n hx hb dX9_hexAt_40 rfl (lv_at hl 0 rfl) ?_
    refine lv_i2l (v := Int32.toInt64 s0) hx hb dX9_hexAt_41 rfl ?_
    refine lv_ldc2 hx hb hown (hts _ (List.mem_of_getElem? (i := 5) rfl)) dX9_hexAt_42 ?_
    refine lv_ldc2 hx hb hown (hts _ (List.mem_of_getElem? (i := 6) rfl)) dX9_hexAt_45 ?_
    refine wx_ci C hD hS (va_runS (As := [.long (Int32.toInt64 s0), .long 97, .long 102]) (rest := []) C.1 (mtX9_in (l := l) (D := D) (sz := H.size) h) (va_cwS 3 hts gX9_hexAt_X9_in rfl rfl rfl nyX9_in.2 ⟨Nat.le_of_ble_eq_true rfl, Nat.le_of_ble_eq_true rfl⟩) (wx_ps C hP hD hS) rfl rfl hl.1 rfl (lv_room (Nat.le_of_ble_eq_true rfl)) dX9_hexAt_48 ⟨Nat.zero_le _, Nat.zero_le _⟩) (fun r48 σ48 H locs h hP hD hS => ?_)
    refine lv_if_eq (tgt := 64) hx hb dX9_hexAt_51 (by decide) (fun c51 => ?_) (fun c51 => ?_)
    · have h := h.1 c51
      refine lv_iconst (v := (-1)) hx hb dX9_hexAt_64 (by decide) ?_
      exact Rt _ _ _ _ _ _ h hP hD hS dX9_hexAt_65
    · have h := h.2 c51
      refine lv_iload_n hx hb dX9_hexAt_54 rfl (lv_at hl 0 rfl) ?_
      refine lv_bipush (v := 97) hx hb dX9_hexAt_55 (by decide) ?_
      refine lv_isub hx hb dX9_hexAt_57 ?_
      refine lv_bipush (v := 10) hx hb dX9_hexAt_58 (by decide) ?_
      refine lv_iadd hx hb dX9_hexAt_60 ?_
      refine lv_goto (tgt := 65) hx hb dX9_hexAt_61 (by decide) ?_
      exact Rt _ _ _ _ _ _ h hP hD hS dX9_hexAt_65
  · have h := h.2 c30
    refine lv_iload_n hx hb dX9_hexAt_33 rfl (lv_at hl 0 rfl) ?_
    refine lv_bipush (v := 48) hx hb dX9_hexAt_34 (by decide) ?_
    refine lv_isub hx hb dX9_hexAt_36 ?_
    refine lv_goto (tgt := 65) hx hb dX9_hexAt_37 (by decide) ?_
    exact Rt _ _ _ _ _ _ h hP hD hS dX9_hexAt_65
set_option maxRecDepth 100000 in
set_option maxHeartbeats 4000000 in
theorem mtX9_hexAt {l : Launch} {D : va_G} {cI : ClassId} {ad : Nat → Nat} {sz : Nat} {σ : wx_Z} {x1 : Int32} {K : Int32 → wx_Z → Prop} (h : wpX9_hexAt σ x1 K) : Met l yX9_hexAt wsX9_hexAt rmX9_hexAt (wx_Pre D [(cI, .int)] wx_T0 14 (wM_E cI ad) ad σ sz [.ref (ad 0), .int x1]) (va_Qi K (wx_B D [(cI, .int)] 14 (wM_E cI ad) ad (va_A (wx_w 14 (wM_E cI ad) ad σ) sz)) (va_A (wx_w 14 (wM_E cI ad) ad σ) sz)) 0 0 (va_A (wx_w 14 (wM_E cI ad) ad σ) sz) := by
  unfold wpX9_hexAt at h
  refine wx_meti (cc := cX9_hexAt) (maxL := 3) (own := RX9) rfl (by decide) rfl (Nat.le_of_ble_eq_true rfl) wx_T0_ok ?_
  intro p e s m args below meth c A Q ls C Rt hP hD hS hl
  obtain ⟨⟨hx, hb, hml, hown, hts⟩, hA, hK, hRO, hro⟩ := id C
  have hl : lv_has ls 3 [(0, .ref (ad 0)), (1, .int x1)] := hl
  obtain ⟨H, eH⟩ : ∃ z, z = s.heap := ⟨_, rfl⟩
  obtain ⟨locs, eL⟩ : ∃ z : List Loc, z = [] := ⟨_, rfl⟩
  rw [← eH] at hP
  have hS : va_S A s.heap H locs := by rw [eH, eL]; exact hS
  have goal : W p l e rmX9_hexAt s m args below meth c H locs 0 0 Q (F0 m 0 ls []) := by
    refine lv_iload_n hx hb dX9_hexAt_0 rfl (lv_at hl 1 rfl) ?_
    refine lv_aload_n hx hb dX9_hexAt_1 rfl (lv_at hl 0 rfl) ?_
    refine wx_get C hP (q := 0) (ci := 9) (Nat.le_of_ble_eq_true rfl) (eM_0 cI ad _) (Cn := RX9) (T := TX9) (Nf := 27) rfl inX9_hexAt_X9 21 (by decide) (List.mem_of_getElem? (i := 1) rfl) (v := .int (σ 0 21)) rfl dX9_hexAt_2 ?_
    refine lv_icmp_ge (tgt := 17) hx hb dX9_hexAt_5 (by decide) (fun c5 => ?_) (fun c5 => ?_)
    · have h := h.1 c5
      refine lv_iconst (v := 0) hx hb dX9_hexAt_17 (by decide) ?_
      exact bX9_hexAt_18 C Rt σ 0  h _ _ _ hP hD hS (lv_sub hl [] rfl)
    · have h := h.2 c5
      refine lv_aload_n hx hb dX9_hexAt_8 rfl (lv_at hl 0 rfl) ?_
      refine wx_get C hP (q := 0) (ci := 9) (Nat.le_of_ble_eq_true rfl) (eM_0 cI ad _) (Cn := RX9) (T := TX9) (Nf := 27) rfl inX9_hexAt_X9 20 (by decide) (List.mem_of_getElem? (i := 2) rfl) (v := .ref (ad 11)) rfl dX9_hexAt_9 ?_
      refine lv_iload_n hx hb dX9_hexAt_12 rfl (lv_at hl 1 rfl) ?_
      refine wx_ild C hP (q := 11) (Nat.le_of_ble_eq_true rfl) (fun _ => rfl) 0 rfl h.1 dX9_hexAt_13 ?_
      have h := h.2
      refine lv_goto (tgt := 18) hx hb dX9_hexAt_14 (by decide) ?_
      exact bX9_hexAt_18 C Rt σ (σ 11 (Int32.toNatClampNeg x1))  h _ _ _ hP hD hS (lv_sub hl [] rfl)
  rw [eH, eL] at goal
  exact goal
abbrev rmX9_takesHex : Room := { frames := 3, cells := 0, slots := 0, locals := 87 }
set_option maxRecDepth 20000 in
theorem inX9_takesHex_X9 : ∀ w ∈ u_ws RX9 TX9 27, w ∈ wsX9_takesHex := by decide +kernel
theorem nyX9_hexAt : yX9_hexAt.cls = RX9 ∧ yX9_hexAt.cls ≠ "java/lang/invoke/MethodHandle" ∧ yX9_hexAt.cls ≠ "java/lang/invoke/VarHandle" ∧ (parseMethodDescriptor yX9_hexAt.desc).map (fun d => d.parameters.length) = some 1 := by decide +kernel
set_option maxRecDepth 100000 in
set_option maxHeartbeats 4000000 in
theorem bX9_takesHex_92 {p : Program} {l : Launch} {e : Env} {s : State} {m : MethodId} {args : Array Value} {below : List Frame} {meth : Method} {c : Code} {A : Nat → Prop} {Q : State → Prop} {D : va_G} {cI : ClassId} {ad : Nat → Nat} {K : Int32 → wx_Z → Prop} (C : wx_C p s m args c cX9_takesHex 5 RX9 wsX9_takesHex D [(cI, .int)] wx_T0 A) (Rt : wx_Rz .boolean p l e rmX9_takesHex s m args below meth c cX9_takesHex D 14 (wM_E cI ad) ad A K Q) : ∀ (σ : wx_Z) (x3 : Int32) (s0 : Int32), wpX9_takesHex_92 K σ x3 s0 → ∀ (H : Heap) (locs : List Loc) (ls : Array Slot), va_P D vwCl (wx_w 14 (wM_E cI ad) ad σ) H → va_D A (wx_w 14 (wM_E cI ad) ad σ) → va_S A s.heap H locs → lv_has ls 5 [(0, .ref (ad 0)), (3, .int x3)] → W p l e rmX9_takesHex s m args below meth c H locs 0 0 Q (F0 m 92 ls [.int s0]) := by
  obtain ⟨⟨hx, hb, hml, hown, hts⟩, hA, hK, hRO, hro⟩ := id C
  intro σ x3 s0 h H locs ls hP hD hS hl
  unfold wpX9_takesHex_92 at h
  refine lv_istore (lv' := [(4, .int s0), (0, .ref (ad 0)), (3, .int x3)]) hx hb dX9_takesHex_92 hl (by decide) rfl (fun ls hl => ?_)
  refine lv_aload_n hx hb dX9_takesHex_94 rfl (lv_at hl 1 rfl) ?_
  refine lv_iload hx hb dX9_takesHex_95 (lv_at hl 0 rfl) ?_
  refine lv_if_eq (tgt := 104) hx hb dX9_takesHex_97 (by decide) (fun c97 => ?_) (fun c97 => ?_)
  · have h := h.1 c97
    refine lv_aload_n hx hb dX9_takesHex_104 rfl (lv_at hl 1 rfl) ?_
    refine wx_get C hP (q := 0) (ci := 9) (Nat.le_of_ble_eq_true rfl) (eM_0 cI ad _) (Cn := RX9) (T := TX9) (Nf := 27) rfl inX9_takesHex_X9 22 (by decide) (List.mem_of_getElem? (i := 1) rfl) (v := .int (σ 0 22)) rfl dX9_takesHex_105 ?_
    refine wx_put C hP hD hS (q := 0) (ci := 9) (Nat.le_of_ble_eq_true rfl) (eM_0 cI ad _) (Cn := RX9) (T := TX9) (Nf := 27) rfl inX9_takesHex_X9 tyX9 tyX9_ok nmX9 22 (by decide) (List.mem_of_getElem? (i := 1) rfl) rfl rfl (Nat.le_of_ble_eq_true rfl) rfl dX9_takesHex_108 (fun H locs hP hD hS => ?_)
    generalize e_σ108 : wx_up σ 0 22 (σ 0 22) = σ108 at hP hD
    have h := h σ108 e_σ108.symm
    refine lv_iload hx hb dX9_takesHex_111 (lv_at hl 0 rfl) ?_
    exact Rt _ _ _ _ _ _ h.1 h.2 hP hD hS dX9_takesHex_113
  · have h := h.2 c97
    refine lv_iload_n hx hb dX9_takesHex_100 rfl (lv_at hl 2 rfl) ?_
    refine lv_goto (tgt := 108) hx hb dX9_takesHex_101 (by decide) ?_
    refine wx_put C hP hD hS (q := 0) (ci := 9) (Nat.le_of_ble_eq_true rfl) (eM_0 cI ad _) (Cn := RX9) (T := TX9) (Nf := 27) rfl inX9_takesHex_X9 tyX9 tyX9_ok nmX9 22 (by decide) (List.mem_of_getElem? (i := 1) rfl) rfl rfl (Nat.le_of_ble_eq_true rfl) rfl dX9_takesHex_108 (fun H locs hP hD hS => ?_)
    generalize e_σ108_1 : wx_up σ 0 22 x3 = σ108_1 at hP hD
    have h := h σ108_1 e_σ108_1.symm
    refine lv_iload hx hb dX9_takesHex_111 (lv_at hl 0 rfl) ?_
    exact Rt _ _ _ _ _ _ h.1 h.2 hP hD hS dX9_takesHex_113
set_option maxRecDepth 100000 in
set_option maxHeartbeats 4000000 in
theorem bX9_takesHex_58 {p : Program} {l : Launch} {e : Env} {s : State} {m : MethodId} {args : Array Value} {below : List Frame} {meth : Method} {c : Code} {A : Nat → Prop} {Q : State → Prop} {D : va_G} {cI : ClassId} {ad : Nat → Nat} {K : Int32 → wx_Z → Prop} (C : wx_C p s m args c cX9_takesHex 5 RX9 wsX9_takesHex D [(cI, .int)] wx_T0 A) (Rt : wx_Rz .boolean p l e rmX9_takesHex s m args below meth c cX9_takesHex D 14 (wM_E cI ad) ad A K Q) : ∀ (σ : wx_Z) (x1 : Int32) (x3 : Int32), wpX9_takesHex_58 K σ x1 x3 → ∀ (H : Heap) (locs : List Loc) (ls : Array Slot), va_P D vwCl (wx_w 14 (wM_E cI ad) ad σ) H → va_D A (wx_w 14 (wM_E cI ad) ad σ) → va_S A s.heap H locs → lv_has ls 5 [(0, .ref (ad 0)), (1, .int x1), (3, .int x3)] → W p l e rmX9_takesHex s m args below meth c H locs 0 0 Q (F0 m 58 ls []) := by
  obtain ⟨⟨hx, hb, hml, hown, hts⟩, hA, hK, hRO, hro⟩ := id C
  intro σ x1 x3 h H locs ls hP hD hS hl
  unfold wpX9_takesHex_58 at h
  refine lv_iload_n hx hb dX9_takesHex_58 rfl (lv_at hl 2 rfl) ?_
  refine lv_aload_n hx hb dX9_takesHex_59 rfl (lv_at hl 0 rfl) ?_
  refine wx_get C hP (q := 0) (ci := 9) (Nat.le_of_ble_eq_true rfl) (eM_0 cI ad _) (Cn := RX9) (T := TX9) (Nf := 27) rfl inX9_takesHex_X9 22 (by decide) (List.mem_of_getElem? (i := 1) rfl) (v := .int (σ 0 22)) rfl dX9_takesHex_60 ?_
  refine lv_isub hx hb dX9_takesHex_63 ?_
  refine lv_i2l (v := Int32.toInt64 (x3 - (σ 0 22))) hx hb dX9_takesHex_64 rfl ?_
  refine lv_lconst (v := 1) hx hb dX9_takesHex_65 (by decide) ?_
  refine lv_ldc2 hx hb hown (hts _ (List.mem_of_getElem? (i := 3) rfl)) dX9_takesHex_66 ?_
  refine wx_ci C hD hS (va_runS (As := [.long (Int32.toInt64 (x3 - (σ 0 22))), .long 1, .long 8]) (rest := []) C.1 (mtX9_in (l := l) (D := D) (sz := H.size) h) (va_cwS 3 hts gX9_takesHex_X9_in rfl rfl rfl nyX9_in.2 ⟨Nat.le_of_ble_eq_true rfl, Nat.le_of_ble_eq_true rfl⟩) (wx_ps C hP hD hS) rfl rfl hl.1 rfl (lv_room (Nat.le_of_ble_eq_true rfl)) dX9_takesHex_69 ⟨Nat.zero_le _, Nat.zero_le _⟩) (fun r69 σ69 H locs h hP hD hS => ?_)
  refine lv_if_eq (tgt := 91) hx hb dX9_takesHex_72 (by decide) (fun c72 => ?_) (fun c72 => ?_)
  · have h := h.1 c72
    refine lv_iconst (v := 0) hx hb dX9_takesHex_91 (by decide) ?_
    exact bX9_takesHex_92 C Rt σ69 x3 0  h _ _ _ hP hD hS (lv_sub hl [0, 2] rfl)
  · have h := h.2 c72
    refine lv_aload_n hx hb dX9_takesHex_75 rfl (lv_at hl 0 rfl) ?_
    refine lv_aload_n hx hb dX9_takesHex_76 rfl (lv_at hl 0 rfl) ?_
    refine wx_get C hP (q := 0) (ci := 9) (Nat.le_of_ble_eq_true rfl) (eM_0 cI ad _) (Cn := RX9) (T := TX9) (Nf := 27) rfl inX9_takesHex_X9 23 (by decide) (List.mem_of_getElem? (i := 2) rfl) (v := .int (σ69 0 23)) rfl dX9_takesHex_77 ?_
    refine lv_iload_n hx hb dX9_takesHex_80 rfl (lv_at hl 1 rfl) ?_
    refine wx_ci C hD hS (va_runV (As := [.int (σ69 0 23), .int x1]) (rest := []) C.1 (mtX9_isWithin (l := l) (D := D) (sz := H.size) h) (cwV 2 hts gX9_takesHex_X9_isWithin rfl rfl rfl nyX9_isWithin ⟨Nat.le_of_ble_eq_true rfl, Nat.le_of_ble_eq_true rfl⟩) (wx_pv C hP hD hS (q := 0) (ci := 9) (Nat.le_of_ble_eq_true rfl) (eM_0 cI ad _) rfl) rfl rfl hl.1 rfl (lv_room (Nat.le_of_ble_eq_true rfl)) dX9_takesHex_81 ⟨Nat.zero_le _, Nat.zero_le _⟩) (fun r81 σ81 H locs h hP hD hS => ?_)
    refine lv_if_eq (tgt := 91) hx hb dX9_takesHex_84 (by decide) (fun c84 => ?_) (fun c84 => ?_)
    · have h := h.1 c84
      refine lv_iconst (v := 0) hx hb dX9_takesHex_91 (by decide) ?_
      exact bX9_takesHex_92 C Rt σ81 x3 0  h _ _ _ hP hD hS (lv_sub hl [0, 2] rfl)
    · have h := h.2 c84
      refine lv_iconst (v := 1) hx hb dX9_takesHex_87 (by decide) ?_
      refine lv_goto (tgt := 92) hx hb dX9_takesHex_88 (by decide) ?_
      exact bX9_takesHex_92 C Rt σ81 x3 1  h _ _ _ hP hD hS (lv_sub hl [0, 2] rfl)
set_option maxRecDepth 100000 in
set_option maxHeartbeats 4000000 in
theorem bX9_takesHex_15 {p : Program} {l : Launch} {e : Env} {s : State} {m : MethodId} {args : Array Value} {below : List Frame} {meth : Method} {c : Code} {A : Nat → Prop} {Q : State → Prop} {D : va_G} {cI : ClassId} {ad : Nat → Nat} {K : Int32 → wx_Z → Prop} (C : wx_C p s m args c cX9_takesHex 5 RX9 wsX9_takesHex D [(cI, .int)] wx_T0 A) (Rt : wx_Rz .boolean p l e rmX9_takesHex s m args below meth c cX9_takesHex D 14 (wM_E cI ad) ad A K Q) : ∀ (n : Nat) (σ : wx_Z) (x1 : Int32) (x3 : Int32), wpX9_takesHex_15 K n σ x1 x3 → ∀ (H : Heap) (locs : List Loc) (ls : Array Slot), va_P D vwCl (wx_w 14 (wM_E cI ad) ad σ) H → va_D A (wx_w 14 (wM_E cI ad) ad σ) → va_S A s.heap H locs → lv_has ls 5 [(0, .ref (ad 0)), (1, .int x1), (3, .int x3)] → W p l e rmX9_takesHex s m args below meth c H locs 0 0 Q (F0 m 15 ls []) := by
  obtain ⟨⟨hx, hb, hml, hown, hts⟩, hA, hK, hRO, hro⟩ := id C
  intro n
  induction n with
  | zero => intro σ x1 x3 h; exact h.elim
  | succ n ih =>
    intro σ x1 x3 h H locs ls hP hD hS hl
    unfold wpX9_takesHex_15 at h
    refine lv_aload_n hx hb dX9_takesHex_15 rfl (lv_at hl 0 rfl) ?_
    refine lv_iload_n hx hb dX9_takesHex_16 rfl (lv_at hl 2 rfl) ?_
    refine wx_ci C hD hS (va_runV (As := [.int x3]) (rest := []) C.1 (mtX9_hexAt (l := l) (D := D) (sz := H.size) h) (cwV 1 hts gX9_takesHex_X9_hexAt rfl rfl rfl nyX9_hexAt ⟨Nat.le_of_ble_eq_true rfl, Nat.le_of_ble_eq_true rfl⟩) (wx_pv C hP hD hS (q := 0) (ci := 9) (Nat.le_of_ble_eq_true rfl) (eM_0 cI ad _) rfl) rfl rfl hl.1 rfl (lv_room (Nat.le_of_ble_eq_true rfl)) dX9_takesHex_17 ⟨Nat.zero_le _, Nat.zero_le _⟩) (fun r17 σ17 H locs h hP hD hS => ?_)
    refine lv_iconst (v := (-1)) hx hb dX9_takesHex_20 (by decide) ?_
    refine lv_icmp_eq (tgt := 58) hx hb dX9_takesHex_21 (by decide) (fun c21 => ?_) (fun c21 => ?_)
    · have h := h.1 c21
      exact bX9_takesHex_58 C Rt σ17 x1 x3  h _ _ _ hP hD hS (lv_sub hl [0, 1, 2] rfl)
    · have h := h.2 c21
      refine lv_iload_n hx hb dX9_takesHex_24 rfl (lv_at hl 2 rfl) ?_
      refine lv_aload_n hx hb dX9_takesHex_25 rfl (lv_at hl 0 rfl) ?_
      refine wx_get C hP (q := 0) (ci := 9) (Nat.le_of_ble_eq_true rfl) (eM_0 cI ad _) (Cn := RX9) (T := TX9) (Nf := 27) rfl inX9_takesHex_X9 22 (by decide) (List.mem_of_getElem? (i := 1) rfl) (v := .int (σ17 0 22)) rfl dX9_takesHex_26 ?_
      refine lv_isub hx hb dX9_takesHex_29 ?_
      refine lv_bipush (v := 9) hx hb dX9_takesHex_30 (by decide) ?_
      refine lv_icmp_ge (tgt := 58) hx hb dX9_takesHex_32 (by decide) (fun c32 => ?_) (fun c32 => ?_)
      · have h := h.1 c32
        exact bX9_takesHex_58 C Rt σ17 x1 x3  h _ _ _ hP hD hS (lv_sub hl [0, 1, 2] rfl)
      · have h := h.2 c32
        refine lv_aload_n hx hb dX9_takesHex_35 rfl (lv_at hl 0 rfl) ?_
        refine lv_bipush (v := 16) hx hb dX9_takesHex_36 (by decide) ?_
        refine lv_aload_n hx hb dX9_takesHex_38 rfl (lv_at hl 0 rfl) ?_
        refine wx_get C hP (q := 0) (ci := 9) (Nat.le_of_ble_eq_true rfl) (eM_0 cI ad _) (Cn := RX9) (T := TX9) (Nf := 27) rfl inX9_takesHex_X9 23 (by decide) (List.mem_of_getElem? (i := 2) rfl) (v := .int (σ17 0 23)) rfl dX9_takesHex_39 ?_
        refine lv_imul hx hb dX9_takesHex_42 ?_
        refine lv_aload_n hx hb dX9_takesHex_43 rfl (lv_at hl 0 rfl) ?_
        refine lv_iload_n hx hb dX9_takesHex_44 rfl (lv_at hl 2 rfl) ?_
        refine wx_ci C hD hS (va_runV (As := [.int x3]) (rest := [.int (16 * (σ17 0 23)), .ref (ad 0)]) C.1 (mtX9_hexAt (l := l) (D := D) (sz := H.size) h) (cwV 1 hts gX9_takesHex_X9_hexAt rfl rfl rfl nyX9_hexAt ⟨Nat.le_of_ble_eq_true rfl, Nat.le_of_ble_eq_true rfl⟩) (wx_pv C hP hD hS (q := 0) (ci := 9) (Nat.le_of_ble_eq_true rfl) (eM_0 cI ad _) rfl) rfl rfl hl.1 rfl (lv_room (Nat.le_of_ble_eq_true rfl)) dX9_takesHex_45 ⟨Nat.zero_le _, Nat.zero_le _⟩) (fun r45 σ45 H locs h hP hD hS => ?_)
        refine lv_iadd hx hb dX9_takesHex_48 ?_
        refine wx_put C hP hD hS (q := 0) (ci := 9) (Nat.le_of_ble_eq_true rfl) (eM_0 cI ad _) (Cn := RX9) (T := TX9) (Nf := 27) rfl inX9_takesHex_X9 tyX9 tyX9_ok nmX9 23 (by decide) (List.mem_of_getElem? (i := 2) rfl) rfl rfl (Nat.le_of_ble_eq_true rfl) rfl dX9_takesHex_49 (fun H locs hP hD hS => ?_)
        generalize e_σ49 : wx_up σ45 0 23 ((16 * (σ17 0 23)) + r45) = σ49 at hP hD
        have h := h σ49 e_σ49.symm
        obtain ⟨t52, e_t52⟩ : ∃ y : Int32, y = x3 + 1 := ⟨_, rfl⟩
        have h := h t52 e_t52
        refine lv_iinc (v := t52) (lv' := [(3, .int t52), (0, .ref (ad 0)), (1, .int x1)]) hx hb dX9_takesHex_52 hl (k := 2) rfl (by rw [e_t52]; rfl) (by decide) rfl (fun ls hl => ?_)
        refine lv_goto (tgt := 15) hx hb dX9_takesHex_55 (by decide) ?_
        exact ih σ49 x1 t52  h _ _ _ hP hD hS (lv_sub hl [1, 2, 0] rfl)
set_option maxRecDepth 100000 in
set_option maxHeartbeats 4000000 in
theorem mtX9_takesHex {l : Launch} {D : va_G} {cI : ClassId} {ad : Nat → Nat} {sz : Nat} {σ : wx_Z} {x1 : Int32} {K : Int32 → wx_Z → Prop} (h : wpX9_takesHex σ x1 K) : Met l yX9_takesHex wsX9_takesHex rmX9_takesHex (wx_Pre D [(cI, .int)] wx_T0 14 (wM_E cI ad) ad σ sz [.ref (ad 0), .int x1]) (va_Qi K (wx_B D [(cI, .int)] 14 (wM_E cI ad) ad (va_A (wx_w 14 (wM_E cI ad) ad σ) sz)) (va_A (wx_w 14 (wM_E cI ad) ad σ) sz)) 0 0 (va_A (wx_w 14 (wM_E cI ad) ad σ) sz) := by
  unfold wpX9_takesHex at h
  refine wx_metz (cc := cX9_takesHex) (maxL := 5) (own := RX9) rfl (by decide) rfl (Nat.le_of_ble_eq_true rfl) wx_T0_ok ?_
  intro p e s m args below meth c A Q ls C Rt hP hD hS hl
  obtain ⟨⟨hx, hb, hml, hown, hts⟩, hA, hK, hRO, hro⟩ := id C
  have hl : lv_has ls 5 [(0, .ref (ad 0)), (1, .int x1)] := hl
  obtain ⟨H, eH⟩ : ∃ z, z = s.heap := ⟨_, rfl⟩
  obtain ⟨locs, eL⟩ : ∃ z : List Loc, z = [] := ⟨_, rfl⟩
  rw [← eH] at hP
  have hS : va_S A s.heap H locs := by rw [eH, eL]; exact hS
  have goal : W p l e rmX9_takesHex s m args below meth c H locs 0 0 Q (F0 m 0 ls []) := by
    refine lv_aload_n hx hb dX9_takesHex_0 rfl (lv_at hl 0 rfl) ?_
    refine wx_ci C hD hS (va_runV (As := []) (rest := []) C.1 (mtX9_here (l := l) (D := D) (sz := H.size) h) (cwV 0 hts gX9_takesHex_X9_here rfl rfl rfl nyX9_here ⟨Nat.le_of_ble_eq_true rfl, Nat.le_of_ble_eq_true rfl⟩) (wx_pv C hP hD hS (q := 0) (ci := 9) (Nat.le_of_ble_eq_true rfl) (eM_0 cI ad _) rfl) rfl rfl hl.1 rfl (lv_room (Nat.le_of_ble_eq_true rfl)) dX9_takesHex_1 ⟨Nat.zero_le _, Nat.zero_le _⟩) (fun r1 σ1 H locs h hP hD hS => ?_)
    refine lv_istore_n (lv' := [(2, .int r1), (0, .ref (ad 0)), (1, .int x1)]) hx hb dX9_takesHex_4 rfl hl (by decide) rfl (fun ls hl => ?_)
    refine lv_aload_n hx hb dX9_takesHex_5 rfl (lv_at hl 1 rfl) ?_
    refine wx_get C hP (q := 0) (ci := 9) (Nat.le_of_ble_eq_true rfl) (eM_0 cI ad _) (Cn := RX9) (T := TX9) (Nf := 27) rfl inX9_takesHex_X9 22 (by decide) (List.mem_of_getElem? (i := 1) rfl) (v := .int (σ1 0 22)) rfl dX9_takesHex_6 ?_
    refine lv_istore_n (lv' := [(3, .int (σ1 0 22)), (2, .int r1), (0, .ref (ad 0)), (1, .int x1)]) hx hb dX9_takesHex_9 rfl hl (by decide) rfl (fun ls hl => ?_)
    refine lv_aload_n hx hb dX9_takesHex_10 rfl (lv_at hl 2 rfl) ?_
    refine lv_iconst (v := 0) hx hb dX9_takesHex_11 (by decide) ?_
    refine wx_put C hP hD hS (q := 0) (ci := 9) (Nat.le_of_ble_eq_true rfl) (eM_0 cI ad _) (Cn := RX9) (T := TX9) (Nf := 27) rfl inX9_takesHex_X9 tyX9 tyX9_ok nmX9 23 (by decide) (List.mem_of_getElem? (i := 2) rfl) rfl rfl (Nat.le_of_ble_eq_true rfl) rfl dX9_takesHex_12 (fun H locs hP hD hS => ?_)
    generalize e_σ12 : wx_up σ1 0 23 0 = σ12 at hP hD
    have h := h σ12 e_σ12.symm
    obtain ⟨n15, h⟩ := h
    exact bX9_takesHex_15 C Rt n15 σ12 x1 (σ1 0 22)  h _ _ _ hP hD hS (lv_sub hl [2, 3, 0] rfl)
  rw [eH, eL] at goal
  exact goal
abbrev rmX9_doesOne : Room := { frames := 7, cells := 0, slots := 0, locals := 175 }
set_option maxRecDepth 20000 in
theorem inX9_doesOne_X9 : ∀ w ∈ u_ws RX9 TX9 27, w ∈ wsX9_doesOne := by decide +kernel
set_option maxRecDepth 100000 in
set_option maxHeartbeats 4000000 in
theorem mtX9_doesOne {l : Launch} {D : va_G} {cI : ClassId} {ad : Nat → Nat} {sz : Nat} {σ : wx_Z} {x1 : Int32} {K : wx_Z → Prop} (h : wpX9_doesOne σ x1 K) : Met l yX9_doesOne wsX9_doesOne rmX9_doesOne (wx_Pre D [(cI, .int)] wx_T0 14 (wM_E cI ad) ad σ sz [.ref (ad 0), .int x1]) (va_Qv K (wx_B D [(cI, .int)] 14 (wM_E cI ad) ad (va_A (wx_w 14 (wM_E cI ad) ad σ) sz)) (va_A (wx_w 14 (wM_E cI ad) ad σ) sz)) 0 0 (va_A (wx_w 14 (wM_E cI ad) ad σ) sz) := by
  unfold wpX9_doesOne at h
  refine wx_metv (cc := cX9_doesOne) (maxL := 6) (own := RX9) rfl (by decide) rfl (Nat.le_of_ble_eq_true rfl) wx_T0_ok ?_
  intro p e s m args below meth c A Q ls C Rt hP hD hS hl
  obtain ⟨⟨hx, hb, hml, hown, hts⟩, hA, hK, hRO, hro⟩ := id C
  have hl : lv_has ls 6 [(0, .ref (ad 0)), (1, .int x1)] := hl
  obtain ⟨H, eH⟩ : ∃ z, z = s.heap := ⟨_, rfl⟩
  obtain ⟨locs, eL⟩ : ∃ z : List Loc, z = [] := ⟨_, rfl⟩
  rw [← eH] at hP
  have hS : va_S A s.heap H locs := by rw [eH, eL]; exact hS
  have goal : W p l e rmX9_doesOne s m args below meth c H locs 0 0 Q (F0 m 0 ls []) := by
    refine lv_iload_n hx hb dX9_doesOne_0 rfl (lv_at hl 1 rfl) ?_
    by_cases q1 : x1 = 99
    · have h := h.1 q1
      refine lv_lookup (tgt := 60) hx hb dX9_doesOne_1 (by decide) (by rw [q1]; try rfl) (by decide) ?_
      refine lv_aload_n hx hb dX9_doesOne_60 rfl (lv_at hl 0 rfl) ?_
      refine lv_aload_n hx hb dX9_doesOne_61 rfl (lv_at hl 0 rfl) ?_
      refine wx_get C hP (q := 0) (ci := 9) (Nat.le_of_ble_eq_true rfl) (eM_0 cI ad _) (Cn := RX9) (T := TX9) (Nf := 27) rfl inX9_doesOne_X9 24 (by decide) (List.mem_of_getElem? (i := 1) rfl) (v := .int (σ 0 24)) rfl dX9_doesOne_62 ?_
      refine lv_aload_n hx hb dX9_doesOne_65 rfl (lv_at hl 0 rfl) ?_
      refine wx_get C hP (q := 0) (ci := 9) (Nat.le_of_ble_eq_true rfl) (eM_0 cI ad _) (Cn := RX9) (T := TX9) (Nf := 27) rfl inX9_doesOne_X9 23 (by decide) (List.mem_of_getElem? (i := 2) rfl) (v := .int (σ 0 23)) rfl dX9_doesOne_66 ?_
      refine wx_cv C hD hS (va_runV (As := [.int (σ 0 24), .int (σ 0 23)]) (rest := []) C.1 (mtX9_becomesCode (l := l) (D := D) (sz := H.size) h) (cwV 2 hts gX9_doesOne_X9_becomesCode rfl rfl rfl nyX9_becomesCode ⟨Nat.le_of_ble_eq_true rfl, Nat.le_of_ble_eq_true rfl⟩) (wx_pv C hP hD hS (q := 0) (ci := 9) (Nat.le_of_ble_eq_true rfl) (eM_0 cI ad _) rfl) rfl rfl hl.1 rfl (lv_room (Nat.le_of_ble_eq_true rfl)) dX9_doesOne_69 ⟨Nat.zero_le _, Nat.zero_le _⟩) (fun σ69 H locs h hP hD hS => ?_)
      refine lv_goto (tgt := 148) hx hb dX9_doesOne_72 (by decide) ?_
      exact Rt _ _ _ _ _ h hP hD hS dX9_doesOne_148
    by_cases q2 : x1 = 102
    · have h := h.2.1 q2
      refine lv_lookup (tgt := 100) hx hb dX9_doesOne_1 (by decide) (by rw [q2]; try rfl) (by decide) ?_
      refine lv_aload_n hx hb dX9_doesOne_100 rfl (lv_at hl 0 rfl) ?_
      refine lv_aload_n hx hb dX9_doesOne_101 rfl (lv_at hl 0 rfl) ?_
      refine wx_get C hP (q := 0) (ci := 9) (Nat.le_of_ble_eq_true rfl) (eM_0 cI ad _) (Cn := RX9) (T := TX9) (Nf := 27) rfl inX9_doesOne_X9 24 (by decide) (List.mem_of_getElem? (i := 1) rfl) (v := .int (σ 0 24)) rfl dX9_doesOne_102 ?_
      refine wx_ci C hD hS (va_runV (As := [.int (σ 0 24)]) (rest := []) C.1 (mtX9_flips (l := l) (D := D) (sz := H.size) h) (cwV 1 hts gX9_doesOne_X9_flips rfl rfl rfl nyX9_flips ⟨Nat.le_of_ble_eq_true rfl, Nat.le_of_ble_eq_true rfl⟩) (wx_pv C hP hD hS (q := 0) (ci := 9) (Nat.le_of_ble_eq_true rfl) (eM_0 cI ad _) rfl) rfl rfl hl.1 rfl (lv_room (Nat.le_of_ble_eq_true rfl)) dX9_doesOne_105 ⟨Nat.zero_le _, Nat.zero_le _⟩) (fun r105 σ105 H locs h hP hD hS => ?_)
      refine lv_istore_n (lv' := [(3, .int r105), (0, .ref (ad 0)), (1, .int x1)]) hx hb dX9_doesOne_108 rfl hl (by decide) rfl (fun ls hl => ?_)
      refine lv_goto (tgt := 148) hx hb dX9_doesOne_109 (by decide) ?_
      exact Rt _ _ _ _ _ h hP hD hS dX9_doesOne_148
    by_cases q3 : x1 = 109
    · have h := h.2.2.1 q3
      refine lv_lookup (tgt := 75) hx hb dX9_doesOne_1 (by decide) (by rw [q3]; try rfl) (by decide) ?_
      refine lv_aload_n hx hb dX9_doesOne_75 rfl (lv_at hl 0 rfl) ?_
      refine lv_aload_n hx hb dX9_doesOne_76 rfl (lv_at hl 0 rfl) ?_
      refine wx_get C hP (q := 0) (ci := 9) (Nat.le_of_ble_eq_true rfl) (eM_0 cI ad _) (Cn := RX9) (T := TX9) (Nf := 27) rfl inX9_doesOne_X9 23 (by decide) (List.mem_of_getElem? (i := 2) rfl) (v := .int (σ 0 23)) rfl dX9_doesOne_77 ?_
      refine wx_ci C hD hS (va_runV (As := [.int (σ 0 23)]) (rest := []) C.1 (mtX9_encodes (l := l) (D := D) (sz := H.size) h) (cwV 1 hts gX9_doesOne_X9_encodes rfl rfl rfl nyX9_encodes ⟨Nat.le_of_ble_eq_true rfl, Nat.le_of_ble_eq_true rfl⟩) (wx_pv C hP hD hS (q := 0) (ci := 9) (Nat.le_of_ble_eq_true rfl) (eM_0 cI ad _) rfl) rfl rfl hl.1 rfl (lv_room (Nat.le_of_ble_eq_true rfl)) dX9_doesOne_80 ⟨Nat.zero_le _, Nat.zero_le _⟩) (fun r80 σ80 H locs h hP hD hS => ?_)
      refine lv_istore_n (lv' := [(2, .int r80), (0, .ref (ad 0)), (1, .int x1)]) hx hb dX9_doesOne_83 rfl hl (by decide) rfl (fun ls hl => ?_)
      refine lv_goto (tgt := 148) hx hb dX9_doesOne_84 (by decide) ?_
      exact Rt _ _ _ _ _ h hP hD hS dX9_doesOne_148
    by_cases q4 : x1 = 115
    · have h := h.2.2.2.1 q4
      refine lv_lookup (tgt := 121) hx hb dX9_doesOne_1 (by decide) (by rw [q4]; try rfl) (by decide) ?_
      refine lv_aload_n hx hb dX9_doesOne_121 rfl (lv_at hl 0 rfl) ?_
      refine lv_aload_n hx hb dX9_doesOne_122 rfl (lv_at hl 0 rfl) ?_
      refine wx_get C hP (q := 0) (ci := 9) (Nat.le_of_ble_eq_true rfl) (eM_0 cI ad _) (Cn := RX9) (T := TX9) (Nf := 27) rfl inX9_doesOne_X9 24 (by decide) (List.mem_of_getElem? (i := 1) rfl) (v := .int (σ 0 24)) rfl dX9_doesOne_123 ?_
      refine lv_aload_n hx hb dX9_doesOne_126 rfl (lv_at hl 0 rfl) ?_
      refine wx_get C hP (q := 0) (ci := 9) (Nat.le_of_ble_eq_true rfl) (eM_0 cI ad _) (Cn := RX9) (T := TX9) (Nf := 27) rfl inX9_doesOne_X9 23 (by decide) (List.mem_of_getElem? (i := 2) rfl) (v := .int (σ 0 23)) rfl dX9_doesOne_127 ?_
      refine wx_ci C hD hS (va_runV (As := [.int (σ 0 24), .int (σ 0 23)]) (rest := []) C.1 (mtX9_softens (l := l) (D := D) (sz := H.size) h) (cwV 2 hts gX9_doesOne_X9_softens rfl rfl rfl nyX9_softens ⟨Nat.le_of_ble_eq_true rfl, Nat.le_of_ble_eq_true rfl⟩) (wx_pv C hP hD hS (q := 0) (ci := 9) (Nat.le_of_ble_eq_true rfl) (eM_0 cI ad _) rfl) rfl rfl hl.1 rfl (lv_room (Nat.le_of_ble_eq_true rfl)) dX9_doesOne_130 ⟨Nat.zero_le _, Nat.zero_le _⟩) (fun r130 σ130 H locs h hP hD hS => ?_)
      refine lv_istore (lv' := [(5, .int r130), (0, .ref (ad 0)), (1, .int x1)]) hx hb dX9_doesOne_133 hl (by decide) rfl (fun ls hl => ?_)
      refine lv_goto (tgt := 148) hx hb dX9_doesOne_135 (by decide) ?_
      exact Rt _ _ _ _ _ h hP hD hS dX9_doesOne_148
    by_cases q5 : x1 = 118
    · have h := h.2.2.2.2.1 q5
      refine lv_lookup (tgt := 112) hx hb dX9_doesOne_1 (by decide) (by rw [q5]; try rfl) (by decide) ?_
      refine lv_aload_n hx hb dX9_doesOne_112 rfl (lv_at hl 0 rfl) ?_
      refine wx_ci C hD hS (va_runV (As := []) (rest := []) C.1 (mtX9_mendsNow (l := l) (D := D) (sz := H.size) h) (cwV 0 hts gX9_doesOne_X9_mendsNow rfl rfl rfl nyX9_mendsNow ⟨Nat.le_of_ble_eq_true rfl, Nat.le_of_ble_eq_true rfl⟩) (wx_pv C hP hD hS (q := 0) (ci := 9) (Nat.le_of_ble_eq_true rfl) (eM_0 cI ad _) rfl) rfl rfl hl.1 rfl (lv_room (Nat.le_of_ble_eq_true rfl)) dX9_doesOne_113 ⟨Nat.zero_le _, Nat.zero_le _⟩) (fun r113 σ113 H locs h hP hD hS => ?_)
      refine lv_istore (lv' := [(4, .int r113), (0, .ref (ad 0)), (1, .int x1)]) hx hb dX9_doesOne_116 hl (by decide) rfl (fun ls hl => ?_)
      refine lv_goto (tgt := 148) hx hb dX9_doesOne_118 (by decide) ?_
      exact Rt _ _ _ _ _ h hP hD hS dX9_doesOne_148
    by_cases q6 : x1 = 119
    · have h := h.2.2.2.2.2.1 q6
      refine lv_lookup (tgt := 87) hx hb dX9_doesOne_1 (by decide) (by rw [q6]; try rfl) (by decide) ?_
      refine lv_aload_n hx hb dX9_doesOne_87 rfl (lv_at hl 0 rfl) ?_
      refine wx_get C hP (q := 0) (ci := 9) (Nat.le_of_ble_eq_true rfl) (eM_0 cI ad _) (Cn := RX9) (T := TX9) (Nf := 27) rfl inX9_doesOne_X9 0 (by decide) (List.mem_of_getElem? (i := 3) rfl) (v := .ref (ad 1)) rfl dX9_doesOne_88 ?_
      refine lv_iconst (v := 2) hx hb dX9_doesOne_91 (by decide) ?_
      refine lv_aload_n hx hb dX9_doesOne_92 rfl (lv_at hl 0 rfl) ?_
      refine wx_get C hP (q := 0) (ci := 9) (Nat.le_of_ble_eq_true rfl) (eM_0 cI ad _) (Cn := RX9) (T := TX9) (Nf := 27) rfl inX9_doesOne_X9 23 (by decide) (List.mem_of_getElem? (i := 2) rfl) (v := .int (σ 0 23)) rfl dX9_doesOne_93 ?_
      refine wx_ist C hP hD hS (q := 1) (Nat.le_of_ble_eq_true rfl) (fun _ => rfl) 0 rfl h.1 dX9_doesOne_96 (fun H locs hP hD hS => ?_)
      generalize e_σ96 : wx_up σ 1 (Int32.toNatClampNeg 2) (σ 0 23) = σ96 at hP hD
      have h := h.2 σ96 e_σ96.symm
      refine lv_goto (tgt := 148) hx hb dX9_doesOne_97 (by decide) ?_
      exact Rt _ _ _ _ _ h hP hD hS dX9_doesOne_148
    have h := h.2.2.2.2.2.2 q1 q2 q3 q4 q5 q6
    refine lv_lookup (tgt := 138) hx hb dX9_doesOne_1 (by decide) (off := 137) (by rw [lv_osw q1 (show (99 : Int32).toInt = 99 from by decide)]; rw [lv_osw q2 (show (102 : Int32).toInt = 102 from by decide)]; rw [lv_osw q3 (show (109 : Int32).toInt = 109 from by decide)]; rw [lv_osw q4 (show (115 : Int32).toInt = 115 from by decide)]; rw [lv_osw q5 (show (118 : Int32).toInt = 118 from by decide)]; rw [lv_osw q6 (show (119 : Int32).toInt = 119 from by decide)]; try rfl) (by decide) ?_
    refine lv_aload_n hx hb dX9_doesOne_138 rfl (lv_at hl 0 rfl) ?_
    refine wx_get C hP (q := 0) (ci := 9) (Nat.le_of_ble_eq_true rfl) (eM_0 cI ad _) (Cn := RX9) (T := TX9) (Nf := 27) rfl inX9_doesOne_X9 0 (by decide) (List.mem_of_getElem? (i := 3) rfl) (v := .ref (ad 1)) rfl dX9_doesOne_139 ?_
    refine lv_iconst (v := 2) hx hb dX9_doesOne_142 (by decide) ?_
    refine lv_aload_n hx hb dX9_doesOne_143 rfl (lv_at hl 0 rfl) ?_
    refine wx_ci C hD hS (va_runV (As := []) (rest := [.int 2, .ref (ad 1)]) C.1 (mtX9_halvesOf (l := l) (D := D) (sz := H.size) h) (cwV 0 hts gX9_doesOne_X9_halvesOf rfl rfl rfl nyX9_halvesOf ⟨Nat.le_of_ble_eq_true rfl, Nat.le_of_ble_eq_true rfl⟩) (wx_pv C hP hD hS (q := 0) (ci := 9) (Nat.le_of_ble_eq_true rfl) (eM_0 cI ad _) rfl) rfl rfl hl.1 rfl (lv_room (Nat.le_of_ble_eq_true rfl)) dX9_doesOne_144 ⟨Nat.zero_le _, Nat.zero_le _⟩) (fun r144 σ144 H locs h hP hD hS => ?_)
    refine wx_ist C hP hD hS (q := 1) (Nat.le_of_ble_eq_true rfl) (fun _ => rfl) 0 rfl h.1 dX9_doesOne_147 (fun H locs hP hD hS => ?_)
    generalize e_σ147 : wx_up σ144 1 (Int32.toNatClampNeg 2) r144 = σ147 at hP hD
    have h := h.2 σ147 e_σ147.symm
    exact Rt _ _ _ _ _ h hP hD hS dX9_doesOne_148
  rw [eH, eL] at goal
  exact goal
abbrev rmX9_readsOne : Room := { frames := 8, cells := 0, slots := 0, locals := 200 }
set_option maxRecDepth 20000 in
theorem inX9_readsOne_X9 : ∀ w ∈ u_ws RX9 TX9 27, w ∈ wsX9_readsOne := by decide +kernel
theorem nyX9_doesOne : yX9_doesOne.cls = RX9 ∧ yX9_doesOne.cls ≠ "java/lang/invoke/MethodHandle" ∧ yX9_doesOne.cls ≠ "java/lang/invoke/VarHandle" ∧ (parseMethodDescriptor yX9_doesOne.desc).map (fun d => d.parameters.length) = some 1 := by decide +kernel
theorem nyX9_takes : yX9_takes.cls = RX9 ∧ yX9_takes.cls ≠ "java/lang/invoke/MethodHandle" ∧ yX9_takes.cls ≠ "java/lang/invoke/VarHandle" ∧ (parseMethodDescriptor yX9_takes.desc).map (fun d => d.parameters.length) = some 2 := by decide +kernel
theorem nyX9_takesHex : yX9_takesHex.cls = RX9 ∧ yX9_takesHex.cls ≠ "java/lang/invoke/MethodHandle" ∧ yX9_takesHex.cls ≠ "java/lang/invoke/VarHandle" ∧ (parseMethodDescriptor yX9_takesHex.desc).map (fun d => d.parameters.length) = some 1 := by decide +kernel
set_option maxRecDepth 100000 in
set_option maxHeartbeats 4000000 in
theorem bX9_readsOne_203 {p : Program} {l : Launch} {e : Env} {s : State} {m : MethodId} {args : Array Value} {below : List Frame} {meth : Method} {c : Code} {A : Nat → Prop} {Q : State → Prop} {D : va_G} {cI : ClassId} {ad : Nat → Nat} {K : Int32 → wx_Z → Prop} (C : wx_C p s m args c cX9_readsOne 3 RX9 wsX9_readsOne D [(cI, .int)] wx_T0 A) (Rt : wx_Rz .boolean p l e rmX9_readsOne s m args below meth c cX9_readsOne D 14 (wM_E cI ad) ad A K Q) : ∀ (σ : wx_Z) (x1 : Int32) (x2 : Int32), wpX9_readsOne_203 K σ x1 x2 → ∀ (H : Heap) (locs : List Loc) (ls : Array Slot), va_P D vwCl (wx_w 14 (wM_E cI ad) ad σ) H → va_D A (wx_w 14 (wM_E cI ad) ad σ) → va_S A s.heap H locs → lv_has ls 3 [(0, .ref (ad 0)), (1, .int x1), (2, .int x2)] → W p l e rmX9_readsOne s m args below meth c H locs 0 0 Q (F0 m 203 ls []) := by
  obtain ⟨⟨hx, hb, hml, hown, hts⟩, hA, hK, hRO, hro⟩ := id C
  intro σ x1 x2 h H locs ls hP hD hS hl
  unfold wpX9_readsOne_203 at h
  refine lv_iload_n hx hb dX9_readsOne_203 rfl (lv_at hl 2 rfl) ?_
  refine lv_if_eq (tgt := 216) hx hb dX9_readsOne_204 (by decide) (fun c204 => ?_) (fun c204 => ?_)
  · have h := h.1 c204
    refine lv_iconst (v := 0) hx hb dX9_readsOne_216 (by decide) ?_
    exact Rt _ _ _ _ _ _ rfl h hP hD hS dX9_readsOne_217
  · have h := h.2 c204
    refine lv_aload_n hx hb dX9_readsOne_207 rfl (lv_at hl 0 rfl) ?_
    refine wx_ci C hD hS (va_runV (As := []) (rest := []) C.1 (mtX9_here (l := l) (D := D) (sz := H.size) h) (cwV 0 hts gX9_readsOne_X9_here rfl rfl rfl nyX9_here ⟨Nat.le_of_ble_eq_true rfl, Nat.le_of_ble_eq_true rfl⟩) (wx_pv C hP hD hS (q := 0) (ci := 9) (Nat.le_of_ble_eq_true rfl) (eM_0 cI ad _) rfl) rfl rfl hl.1 rfl (lv_room (Nat.le_of_ble_eq_true rfl)) dX9_readsOne_208 ⟨Nat.zero_le _, Nat.zero_le _⟩) (fun r208 σ208 H locs h hP hD hS => ?_)
    refine lv_bipush (v := 59) hx hb dX9_readsOne_211 (by decide) ?_
    refine lv_icmp_eq (tgt := 218) hx hb dX9_readsOne_213 (by decide) (fun c213 => ?_) (fun c213 => ?_)
    · have h := h.1 c213
      refine lv_aload_n hx hb dX9_readsOne_218 rfl (lv_at hl 0 rfl) ?_
      refine lv_dup hx hb dX9_readsOne_219 rfl ?_
      refine wx_get C hP (q := 0) (ci := 9) (Nat.le_of_ble_eq_true rfl) (eM_0 cI ad _) (Cn := RX9) (T := TX9) (Nf := 27) rfl inX9_readsOne_X9 22 (by decide) (List.mem_of_getElem? (i := 1) rfl) (v := .int (σ208 0 22)) rfl dX9_readsOne_220 ?_
      refine lv_iconst (v := 1) hx hb dX9_readsOne_223 (by decide) ?_
      refine lv_iadd hx hb dX9_readsOne_224 ?_
      refine wx_put C hP hD hS (q := 0) (ci := 9) (Nat.le_of_ble_eq_true rfl) (eM_0 cI ad _) (Cn := RX9) (T := TX9) (Nf := 27) rfl inX9_readsOne_X9 tyX9 tyX9_ok nmX9 22 (by decide) (List.mem_of_getElem? (i := 1) rfl) rfl rfl (Nat.le_of_ble_eq_true rfl) rfl dX9_readsOne_225 (fun H locs hP hD hS => ?_)
      generalize e_σ225 : wx_up σ208 0 22 ((σ208 0 22) + 1) = σ225 at hP hD
      have h := h σ225 e_σ225.symm
      refine lv_aload_n hx hb dX9_readsOne_228 rfl (lv_at hl 0 rfl) ?_
      refine lv_iload_n hx hb dX9_readsOne_229 rfl (lv_at hl 1 rfl) ?_
      refine wx_cv C hD hS (va_runV (As := [.int x1]) (rest := []) C.1 (mtX9_doesOne (l := l) (D := D) (sz := H.size) h) (cwV 1 hts gX9_readsOne_X9_doesOne rfl rfl rfl nyX9_doesOne ⟨Nat.le_of_ble_eq_true rfl, Nat.le_of_ble_eq_true rfl⟩) (wx_pv C hP hD hS (q := 0) (ci := 9) (Nat.le_of_ble_eq_true rfl) (eM_0 cI ad _) rfl) rfl rfl hl.1 rfl (lv_room (Nat.le_of_ble_eq_true rfl)) dX9_readsOne_230 ⟨Nat.zero_le _, Nat.zero_le _⟩) (fun σ230 H locs h hP hD hS => ?_)
      refine lv_iconst (v := 1) hx hb dX9_readsOne_233 (by decide) ?_
      exact Rt _ _ _ _ _ _ rfl h hP hD hS dX9_readsOne_234
    · have h := h.2 c213
      refine lv_iconst (v := 0) hx hb dX9_readsOne_216 (by decide) ?_
      exact Rt _ _ _ _ _ _ rfl h hP hD hS dX9_readsOne_217
set_option maxRecDepth 100000 in
set_option maxHeartbeats 4000000 in
theorem bX9_readsOne_119 {p : Program} {l : Launch} {e : Env} {s : State} {m : MethodId} {args : Array Value} {below : List Frame} {meth : Method} {c : Code} {A : Nat → Prop} {Q : State → Prop} {D : va_G} {cI : ClassId} {ad : Nat → Nat} {K : Int32 → wx_Z → Prop} (C : wx_C p s m args c cX9_readsOne 3 RX9 wsX9_readsOne D [(cI, .int)] wx_T0 A) (Rt : wx_Rz .boolean p l e rmX9_readsOne s m args below meth c cX9_readsOne D 14 (wM_E cI ad) ad A K Q) : ∀ (σ : wx_Z) (x1 : Int32), wpX9_readsOne_119 K σ x1 → ∀ (H : Heap) (locs : List Loc) (ls : Array Slot), va_P D vwCl (wx_w 14 (wM_E cI ad) ad σ) H → va_D A (wx_w 14 (wM_E cI ad) ad σ) → va_S A s.heap H locs → lv_has ls 3 [(0, .ref (ad 0)), (1, .int x1)] → W p l e rmX9_readsOne s m args below meth c H locs 0 0 Q (F0 m 119 ls []) := by
  obtain ⟨⟨hx, hb, hml, hown, hts⟩, hA, hK, hRO, hro⟩ := id C
  intro σ x1 h H locs ls hP hD hS hl
  unfold wpX9_readsOne_119 at h
  refine lv_aload_n hx hb dX9_readsOne_119 rfl (lv_at hl 0 rfl) ?_
  refine lv_iload_n hx hb dX9_readsOne_120 rfl (lv_at hl 1 rfl) ?_
  refine lv_bipush (v := 109) hx hb dX9_readsOne_121 (by decide) ?_
  refine lv_icmp_ne (tgt := 133) hx hb dX9_readsOne_123 (by decide) (fun c123 => ?_) (fun c123 => ?_)
  · have h := h.1 c123
    refine lv_aload_n hx hb dX9_readsOne_133 rfl (lv_at hl 0 rfl) ?_
    refine wx_ci C hD hS (va_runV (As := []) (rest := [.ref (ad 0)]) C.1 (mtX9_places (l := l) (D := D) (sz := H.size) h) (cwV 0 hts gX9_readsOne_X9_places rfl rfl rfl nyX9_places ⟨Nat.le_of_ble_eq_true rfl, Nat.le_of_ble_eq_true rfl⟩) (wx_pv C hP hD hS (q := 0) (ci := 9) (Nat.le_of_ble_eq_true rfl) (eM_0 cI ad _) rfl) rfl rfl hl.1 rfl (lv_room (Nat.le_of_ble_eq_true rfl)) dX9_readsOne_134 ⟨Nat.zero_le _, Nat.zero_le _⟩) (fun r134 σ134 H locs h hP hD hS => ?_)
    refine wx_ci C hD hS (va_runV (As := [.int r134]) (rest := []) C.1 (mtX9_takesHex (l := l) (D := D) (sz := H.size) h) (cwV 1 hts gX9_readsOne_X9_takesHex rfl rfl rfl nyX9_takesHex ⟨Nat.le_of_ble_eq_true rfl, Nat.le_of_ble_eq_true rfl⟩) (wx_pv C hP hD hS (q := 0) (ci := 9) (Nat.le_of_ble_eq_true rfl) (eM_0 cI ad _) rfl) rfl rfl hl.1 rfl (lv_room (Nat.le_of_ble_eq_true rfl)) dX9_readsOne_137 ⟨Nat.zero_le _, Nat.zero_le _⟩) (fun r137 σ137 H locs h hP hD hS => ?_)
    refine lv_istore_n (lv' := [(2, .int r137), (0, .ref (ad 0)), (1, .int x1)]) hx hb dX9_readsOne_140 rfl hl (by decide) rfl (fun ls hl => ?_)
    refine lv_goto (tgt := 203) hx hb dX9_readsOne_141 (by decide) ?_
    exact bX9_readsOne_203 C Rt σ137 x1 r137  h _ _ _ hP hD hS (lv_sub hl [1, 2, 0] rfl)
  · have h := h.2 c123
    refine lv_aload_n hx hb dX9_readsOne_126 rfl (lv_at hl 0 rfl) ?_
    refine wx_ci C hD hS (va_runV (As := []) (rest := [.ref (ad 0)]) C.1 (mtX9_many (l := l) (D := D) (sz := H.size) h) (cwV 0 hts gX9_readsOne_X9_many rfl rfl rfl nyX9_many ⟨Nat.le_of_ble_eq_true rfl, Nat.le_of_ble_eq_true rfl⟩) (wx_pv C hP hD hS (q := 0) (ci := 9) (Nat.le_of_ble_eq_true rfl) (eM_0 cI ad _) rfl) rfl rfl hl.1 rfl (lv_room (Nat.le_of_ble_eq_true rfl)) dX9_readsOne_127 ⟨Nat.zero_le _, Nat.zero_le _⟩) (fun r127 σ127 H locs h hP hD hS => ?_)
    refine lv_goto (tgt := 137) hx hb dX9_readsOne_130 (by decide) ?_
    refine wx_ci C hD hS (va_runV (As := [.int r127]) (rest := []) C.1 (mtX9_takesHex (l := l) (D := D) (sz := H.size) h) (cwV 1 hts gX9_readsOne_X9_takesHex rfl rfl rfl nyX9_takesHex ⟨Nat.le_of_ble_eq_true rfl, Nat.le_of_ble_eq_true rfl⟩) (wx_pv C hP hD hS (q := 0) (ci := 9) (Nat.le_of_ble_eq_true rfl) (eM_0 cI ad _) rfl) rfl rfl hl.1 rfl (lv_room (Nat.le_of_ble_eq_true rfl)) dX9_readsOne_137 ⟨Nat.zero_le _, Nat.zero_le _⟩) (fun r137_1 σ137_1 H locs h hP hD hS => ?_)
    refine lv_istore_n (lv' := [(2, .int r137_1), (0, .ref (ad 0)), (1, .int x1)]) hx hb dX9_readsOne_140 rfl hl (by decide) rfl (fun ls hl => ?_)
    refine lv_goto (tgt := 203) hx hb dX9_readsOne_141 (by decide) ?_
    exact bX9_readsOne_203 C Rt σ137_1 x1 r137_1  h _ _ _ hP hD hS (lv_sub hl [1, 2, 0] rfl)
set_option maxRecDepth 100000 in
set_option maxHeartbeats 4000000 in
theorem bX9_readsOne_156 {p : Program} {l : Launch} {e : Env} {s : State} {m : MethodId} {args : Array Value} {below : List Frame} {meth : Method} {c : Code} {A : Nat → Prop} {Q : State → Prop} {D : va_G} {cI : ClassId} {ad : Nat → Nat} {K : Int32 → wx_Z → Prop} (C : wx_C p s m args c cX9_readsOne 3 RX9 wsX9_readsOne D [(cI, .int)] wx_T0 A) (Rt : wx_Rz .boolean p l e rmX9_readsOne s m args below meth c cX9_readsOne D 14 (wM_E cI ad) ad A K Q) : ∀ (σ : wx_Z) (x1 : Int32), wpX9_readsOne_156 K σ x1 → ∀ (H : Heap) (locs : List Loc) (ls : Array Slot), va_P D vwCl (wx_w 14 (wM_E cI ad) ad σ) H → va_D A (wx_w 14 (wM_E cI ad) ad σ) → va_S A s.heap H locs → lv_has ls 3 [(0, .ref (ad 0)), (1, .int x1)] → W p l e rmX9_readsOne s m args below meth c H locs 0 0 Q (F0 m 156 ls []) := by
  obtain ⟨⟨hx, hb, hml, hown, hts⟩, hA, hK, hRO, hro⟩ := id C
  intro σ x1 h H locs ls hP hD hS hl
  unfold wpX9_readsOne_156 at h
  refine lv_aload_n hx hb dX9_readsOne_156 rfl (lv_at hl 0 rfl) ?_
  refine lv_iconst (v := 0) hx hb dX9_readsOne_157 (by decide) ?_
  refine lv_aload_n hx hb dX9_readsOne_158 rfl (lv_at hl 0 rfl) ?_
  refine wx_ci C hD hS (va_runV (As := []) (rest := [.int 0, .ref (ad 0)]) C.1 (mtX9_places (l := l) (D := D) (sz := H.size) h) (cwV 0 hts gX9_readsOne_X9_places rfl rfl rfl nyX9_places ⟨Nat.le_of_ble_eq_true rfl, Nat.le_of_ble_eq_true rfl⟩) (wx_pv C hP hD hS (q := 0) (ci := 9) (Nat.le_of_ble_eq_true rfl) (eM_0 cI ad _) rfl) rfl rfl hl.1 rfl (lv_room (Nat.le_of_ble_eq_true rfl)) dX9_readsOne_159 ⟨Nat.zero_le _, Nat.zero_le _⟩) (fun r159 σ159 H locs h hP hD hS => ?_)
  refine lv_iconst (v := 1) hx hb dX9_readsOne_162 (by decide) ?_
  refine lv_isub hx hb dX9_readsOne_163 ?_
  refine wx_ci C hD hS (va_runV (As := [.int 0, .int (r159 - 1)]) (rest := []) C.1 (mtX9_takes (l := l) (D := D) (sz := H.size) h) (cwV 2 hts gX9_readsOne_X9_takes rfl rfl rfl nyX9_takes ⟨Nat.le_of_ble_eq_true rfl, Nat.le_of_ble_eq_true rfl⟩) (wx_pv C hP hD hS (q := 0) (ci := 9) (Nat.le_of_ble_eq_true rfl) (eM_0 cI ad _) rfl) rfl rfl hl.1 rfl (lv_room (Nat.le_of_ble_eq_true rfl)) dX9_readsOne_164 ⟨Nat.zero_le _, Nat.zero_le _⟩) (fun r164 σ164 H locs h hP hD hS => ?_)
  refine lv_istore_n (lv' := [(2, .int r164), (0, .ref (ad 0)), (1, .int x1)]) hx hb dX9_readsOne_167 rfl hl (by decide) rfl (fun ls hl => ?_)
  refine lv_aload_n hx hb dX9_readsOne_168 rfl (lv_at hl 1 rfl) ?_
  refine lv_aload_n hx hb dX9_readsOne_169 rfl (lv_at hl 1 rfl) ?_
  refine wx_get C hP (q := 0) (ci := 9) (Nat.le_of_ble_eq_true rfl) (eM_0 cI ad _) (Cn := RX9) (T := TX9) (Nf := 27) rfl inX9_readsOne_X9 23 (by decide) (List.mem_of_getElem? (i := 2) rfl) (v := .int (σ164 0 23)) rfl dX9_readsOne_170 ?_
  refine wx_put C hP hD hS (q := 0) (ci := 9) (Nat.le_of_ble_eq_true rfl) (eM_0 cI ad _) (Cn := RX9) (T := TX9) (Nf := 27) rfl inX9_readsOne_X9 tyX9 tyX9_ok nmX9 24 (by decide) (List.mem_of_getElem? (i := 3) rfl) rfl rfl (Nat.le_of_ble_eq_true rfl) rfl dX9_readsOne_173 (fun H locs hP hD hS => ?_)
  generalize e_σ173 : wx_up σ164 0 24 (σ164 0 23) = σ173 at hP hD
  have h := h σ173 e_σ173.symm
  refine lv_iload_n hx hb dX9_readsOne_176 rfl (lv_at hl 0 rfl) ?_
  refine lv_if_eq (tgt := 201) hx hb dX9_readsOne_177 (by decide) (fun c177 => ?_) (fun c177 => ?_)
  · have h := h.1 c177
    refine lv_iconst (v := 0) hx hb dX9_readsOne_201 (by decide) ?_
    refine lv_istore_n (lv' := [(2, .int 0), (0, .ref (ad 0)), (1, .int x1)]) hx hb dX9_readsOne_202 rfl hl (by decide) rfl (fun ls hl => ?_)
    exact bX9_readsOne_203 C Rt σ173 x1 0  h _ _ _ hP hD hS (lv_sub hl [1, 2, 0] rfl)
  · have h := h.2 c177
    refine lv_iload_n hx hb dX9_readsOne_180 rfl (lv_at hl 2 rfl) ?_
    refine lv_bipush (v := 102) hx hb dX9_readsOne_181 (by decide) ?_
    refine lv_icmp_eq (tgt := 197) hx hb dX9_readsOne_183 (by decide) (fun c183 => ?_) (fun c183 => ?_)
    · have h := h.1 c183
      refine lv_iconst (v := 1) hx hb dX9_readsOne_197 (by decide) ?_
      refine lv_goto (tgt := 202) hx hb dX9_readsOne_198 (by decide) ?_
      refine lv_istore_n (lv' := [(2, .int 1), (0, .ref (ad 0)), (1, .int x1)]) hx hb dX9_readsOne_202 rfl hl (by decide) rfl (fun ls hl => ?_)
      exact bX9_readsOne_203 C Rt σ173 x1 1  h _ _ _ hP hD hS (lv_sub hl [1, 2, 0] rfl)
    · have h := h.2 c183
      refine lv_aload_n hx hb dX9_readsOne_186 rfl (lv_at hl 1 rfl) ?_
      refine lv_bipush (v := (-99)) hx hb dX9_readsOne_187 (by decide) ?_
      refine lv_bipush (v := 99) hx hb dX9_readsOne_189 (by decide) ?_
      refine wx_ci C hD hS (va_runV (As := [.int (-99), .int 99]) (rest := []) C.1 (mtX9_takes (l := l) (D := D) (sz := H.size) h) (cwV 2 hts gX9_readsOne_X9_takes rfl rfl rfl nyX9_takes ⟨Nat.le_of_ble_eq_true rfl, Nat.le_of_ble_eq_true rfl⟩) (wx_pv C hP hD hS (q := 0) (ci := 9) (Nat.le_of_ble_eq_true rfl) (eM_0 cI ad _) rfl) rfl rfl hl.1 rfl (lv_room (Nat.le_of_ble_eq_true rfl)) dX9_readsOne_191 ⟨Nat.zero_le _, Nat.zero_le _⟩) (fun r191 σ191 H locs h hP hD hS => ?_)
      refine lv_if_eq (tgt := 201) hx hb dX9_readsOne_194 (by decide) (fun c194 => ?_) (fun c194 => ?_)
      · have h := h.1 c194
        refine lv_iconst (v := 0) hx hb dX9_readsOne_201 (by decide) ?_
        refine lv_istore_n (lv' := [(2, .int 0), (0, .ref (ad 0)), (1, .int x1)]) hx hb dX9_readsOne_202 rfl hl (by decide) rfl (fun ls hl => ?_)
        exact bX9_readsOne_203 C Rt σ191 x1 0  h _ _ _ hP hD hS (lv_sub hl [1, 2, 0] rfl)
      · have h := h.2 c194
        refine lv_iconst (v := 1) hx hb dX9_readsOne_197 (by decide) ?_
        refine lv_goto (tgt := 202) hx hb dX9_readsOne_198 (by decide) ?_
        refine lv_istore_n (lv' := [(2, .int 1), (0, .ref (ad 0)), (1, .int x1)]) hx hb dX9_readsOne_202 rfl hl (by decide) rfl (fun ls hl => ?_)
        exact bX9_readsOne_203 C Rt σ191 x1 1  h _ _ _ hP hD hS (lv_sub hl [1, 2, 0] rfl)
set_option maxRecDepth 100000 in
set_option maxHeartbeats 4000000 in
theorem bX9_readsOne_49 {p : Program} {l : Launch} {e : Env} {s : State} {m : MethodId} {args : Array Value} {below : List Frame} {meth : Method} {c : Code} {A : Nat → Prop} {Q : State → Prop} {D : va_G} {cI : ClassId} {ad : Nat → Nat} {K : Int32 → wx_Z → Prop} (C : wx_C p s m args c cX9_readsOne 3 RX9 wsX9_readsOne D [(cI, .int)] wx_T0 A) (Rt : wx_Rz .boolean p l e rmX9_readsOne s m args below meth c cX9_readsOne D 14 (wM_E cI ad) ad A K Q) : ∀ (σ : wx_Z) (x1 : Int32), wpX9_readsOne_49 K σ x1 → ∀ (H : Heap) (locs : List Loc) (ls : Array Slot), va_P D vwCl (wx_w 14 (wM_E cI ad) ad σ) H → va_D A (wx_w 14 (wM_E cI ad) ad σ) → va_S A s.heap H locs → lv_has ls 3 [(0, .ref (ad 0)), (1, .int x1)] → W p l e rmX9_readsOne s m args below meth c H locs 0 0 Q (F0 m 49 ls []) := by
  obtain ⟨⟨hx, hb, hml, hown, hts⟩, hA, hK, hRO, hro⟩ := id C
  intro σ x1 h H locs ls hP hD hS hl
  unfold wpX9_readsOne_49 at h
  refine lv_aload_n hx hb dX9_readsOne_49 rfl (lv_at hl 0 rfl) ?_
  refine lv_dup hx hb dX9_readsOne_50 rfl ?_
  refine wx_get C hP (q := 0) (ci := 9) (Nat.le_of_ble_eq_true rfl) (eM_0 cI ad _) (Cn := RX9) (T := TX9) (Nf := 27) rfl inX9_readsOne_X9 22 (by decide) (List.mem_of_getElem? (i := 1) rfl) (v := .int (σ 0 22)) rfl dX9_readsOne_51 ?_
  refine lv_iconst (v := 1) hx hb dX9_readsOne_54 (by decide) ?_
  refine lv_iadd hx hb dX9_readsOne_55 ?_
  refine wx_put C hP hD hS (q := 0) (ci := 9) (Nat.le_of_ble_eq_true rfl) (eM_0 cI ad _) (Cn := RX9) (T := TX9) (Nf := 27) rfl inX9_readsOne_X9 tyX9 tyX9_ok nmX9 22 (by decide) (List.mem_of_getElem? (i := 1) rfl) rfl rfl (Nat.le_of_ble_eq_true rfl) rfl dX9_readsOne_56 (fun H locs hP hD hS => ?_)
  generalize e_σ56 : wx_up σ 0 22 ((σ 0 22) + 1) = σ56 at hP hD
  have h := h σ56 e_σ56.symm
  refine lv_iconst (v := 1) hx hb dX9_readsOne_59 (by decide) ?_
  refine lv_istore_n (lv' := [(2, .int 1), (0, .ref (ad 0)), (1, .int x1)]) hx hb dX9_readsOne_60 rfl hl (by decide) rfl (fun ls hl => ?_)
  refine lv_iload_n hx hb dX9_readsOne_61 rfl (lv_at hl 2 rfl) ?_
  refine lv_bipush (v := 99) hx hb dX9_readsOne_62 (by decide) ?_
  refine lv_icmp_ne (tgt := 107) hx hb dX9_readsOne_64 (by decide) (fun c64 => ?_) (fun c64 => ?_)
  · have h := h.1 c64
    refine lv_iload_n hx hb dX9_readsOne_107 rfl (lv_at hl 2 rfl) ?_
    refine lv_bipush (v := 109) hx hb dX9_readsOne_108 (by decide) ?_
    refine lv_icmp_eq (tgt := 119) hx hb dX9_readsOne_110 (by decide) (fun c110 => ?_) (fun c110 => ?_)
    · have h := h.1 c110
      exact bX9_readsOne_119 C Rt σ56 x1  h _ _ _ hP hD hS (lv_sub hl [1, 2] rfl)
    · have h := h.2 c110
      refine lv_iload_n hx hb dX9_readsOne_113 rfl (lv_at hl 2 rfl) ?_
      refine lv_bipush (v := 119) hx hb dX9_readsOne_114 (by decide) ?_
      refine lv_icmp_ne (tgt := 144) hx hb dX9_readsOne_116 (by decide) (fun c116 => ?_) (fun c116 => ?_)
      · have h := h.1 c116
        refine lv_iload_n hx hb dX9_readsOne_144 rfl (lv_at hl 2 rfl) ?_
        refine lv_bipush (v := 102) hx hb dX9_readsOne_145 (by decide) ?_
        refine lv_icmp_eq (tgt := 156) hx hb dX9_readsOne_147 (by decide) (fun c147 => ?_) (fun c147 => ?_)
        · have h := h.1 c147
          exact bX9_readsOne_156 C Rt σ56 x1  h _ _ _ hP hD hS (lv_sub hl [1, 2] rfl)
        · have h := h.2 c147
          refine lv_iload_n hx hb dX9_readsOne_150 rfl (lv_at hl 2 rfl) ?_
          refine lv_bipush (v := 115) hx hb dX9_readsOne_151 (by decide) ?_
          refine lv_icmp_ne (tgt := 203) hx hb dX9_readsOne_153 (by decide) (fun c153 => ?_) (fun c153 => ?_)
          · have h := h.1 c153
            exact bX9_readsOne_203 C Rt σ56 x1 1  h _ _ _ hP hD hS (lv_sub hl [1, 2, 0] rfl)
          · have h := h.2 c153
            exact bX9_readsOne_156 C Rt σ56 x1  h _ _ _ hP hD hS (lv_sub hl [1, 2] rfl)
      · have h := h.2 c116
        exact bX9_readsOne_119 C Rt σ56 x1  h _ _ _ hP hD hS (lv_sub hl [1, 2] rfl)
  · have h := h.2 c64
    refine lv_aload_n hx hb dX9_readsOne_67 rfl (lv_at hl 1 rfl) ?_
    refine lv_iconst (v := 0) hx hb dX9_readsOne_68 (by decide) ?_
    refine lv_iconst (v := 5) hx hb dX9_readsOne_69 (by decide) ?_
    refine wx_ci C hD hS (va_runV (As := [.int 0, .int 5]) (rest := []) C.1 (mtX9_takes (l := l) (D := D) (sz := H.size) h) (cwV 2 hts gX9_readsOne_X9_takes rfl rfl rfl nyX9_takes ⟨Nat.le_of_ble_eq_true rfl, Nat.le_of_ble_eq_true rfl⟩) (wx_pv C hP hD hS (q := 0) (ci := 9) (Nat.le_of_ble_eq_true rfl) (eM_0 cI ad _) rfl) rfl rfl hl.1 rfl (lv_room (Nat.le_of_ble_eq_true rfl)) dX9_readsOne_70 ⟨Nat.zero_le _, Nat.zero_le _⟩) (fun r70 σ70 H locs h hP hD hS => ?_)
    refine lv_istore_n (lv' := [(2, .int r70), (0, .ref (ad 0)), (1, .int x1)]) hx hb dX9_readsOne_73 rfl hl (by decide) rfl (fun ls hl => ?_)
    refine lv_aload_n hx hb dX9_readsOne_74 rfl (lv_at hl 1 rfl) ?_
    refine lv_aload_n hx hb dX9_readsOne_75 rfl (lv_at hl 1 rfl) ?_
    refine wx_get C hP (q := 0) (ci := 9) (Nat.le_of_ble_eq_true rfl) (eM_0 cI ad _) (Cn := RX9) (T := TX9) (Nf := 27) rfl inX9_readsOne_X9 23 (by decide) (List.mem_of_getElem? (i := 2) rfl) (v := .int (σ70 0 23)) rfl dX9_readsOne_76 ?_
    refine wx_put C hP hD hS (q := 0) (ci := 9) (Nat.le_of_ble_eq_true rfl) (eM_0 cI ad _) (Cn := RX9) (T := TX9) (Nf := 27) rfl inX9_readsOne_X9 tyX9 tyX9_ok nmX9 24 (by decide) (List.mem_of_getElem? (i := 3) rfl) rfl rfl (Nat.le_of_ble_eq_true rfl) rfl dX9_readsOne_79 (fun H locs hP hD hS => ?_)
    generalize e_σ79 : wx_up σ70 0 24 (σ70 0 23) = σ79 at hP hD
    have h := h σ79 e_σ79.symm
    refine lv_iload_n hx hb dX9_readsOne_82 rfl (lv_at hl 0 rfl) ?_
    refine lv_if_eq (tgt := 102) hx hb dX9_readsOne_83 (by decide) (fun c83 => ?_) (fun c83 => ?_)
    · have h := h.1 c83
      refine lv_iconst (v := 0) hx hb dX9_readsOne_102 (by decide) ?_
      refine lv_istore_n (lv' := [(2, .int 0), (0, .ref (ad 0)), (1, .int x1)]) hx hb dX9_readsOne_103 rfl hl (by decide) rfl (fun ls hl => ?_)
      refine lv_goto (tgt := 203) hx hb dX9_readsOne_104 (by decide) ?_
      exact bX9_readsOne_203 C Rt σ79 x1 0  h _ _ _ hP hD hS (lv_sub hl [1, 2, 0] rfl)
    · have h := h.2 c83
      refine lv_aload_n hx hb dX9_readsOne_86 rfl (lv_at hl 1 rfl) ?_
      refine lv_aload_n hx hb dX9_readsOne_87 rfl (lv_at hl 1 rfl) ?_
      refine wx_get C hP (q := 0) (ci := 9) (Nat.le_of_ble_eq_true rfl) (eM_0 cI ad _) (Cn := RX9) (T := TX9) (Nf := 27) rfl inX9_readsOne_X9 24 (by decide) (List.mem_of_getElem? (i := 3) rfl) (v := .int (σ79 0 24)) rfl dX9_readsOne_88 ?_
      refine lv_iconst (v := 5) hx hb dX9_readsOne_91 (by decide) ?_
      refine wx_ci C hD hS (va_runV (As := [.int (σ79 0 24), .int 5]) (rest := []) C.1 (mtX9_takes (l := l) (D := D) (sz := H.size) h) (cwV 2 hts gX9_readsOne_X9_takes rfl rfl rfl nyX9_takes ⟨Nat.le_of_ble_eq_true rfl, Nat.le_of_ble_eq_true rfl⟩) (wx_pv C hP hD hS (q := 0) (ci := 9) (Nat.le_of_ble_eq_true rfl) (eM_0 cI ad _) rfl) rfl rfl hl.1 rfl (lv_room (Nat.le_of_ble_eq_true rfl)) dX9_readsOne_92 ⟨Nat.zero_le _, Nat.zero_le _⟩) (fun r92 σ92 H locs h hP hD hS => ?_)
      refine lv_if_eq (tgt := 102) hx hb dX9_readsOne_95 (by decide) (fun c95 => ?_) (fun c95 => ?_)
      · have h := h.1 c95
        refine lv_iconst (v := 0) hx hb dX9_readsOne_102 (by decide) ?_
        refine lv_istore_n (lv' := [(2, .int 0), (0, .ref (ad 0)), (1, .int x1)]) hx hb dX9_readsOne_103 rfl hl (by decide) rfl (fun ls hl => ?_)
        refine lv_goto (tgt := 203) hx hb dX9_readsOne_104 (by decide) ?_
        exact bX9_readsOne_203 C Rt σ92 x1 0  h _ _ _ hP hD hS (lv_sub hl [1, 2, 0] rfl)
      · have h := h.2 c95
        refine lv_iconst (v := 1) hx hb dX9_readsOne_98 (by decide) ?_
        refine lv_goto (tgt := 103) hx hb dX9_readsOne_99 (by decide) ?_
        refine lv_istore_n (lv' := [(2, .int 1), (0, .ref (ad 0)), (1, .int x1)]) hx hb dX9_readsOne_103 rfl hl (by decide) rfl (fun ls hl => ?_)
        refine lv_goto (tgt := 203) hx hb dX9_readsOne_104 (by decide) ?_
        exact bX9_readsOne_203 C Rt σ92 x1 1  h _ _ _ hP hD hS (lv_sub hl [1, 2, 0] rfl)
set_option maxRecDepth 100000 in
set_option maxHeartbeats 4000000 in
theorem mtX9_readsOne {l : Launch} {D : va_G} {cI : ClassId} {ad : Nat → Nat} {sz : Nat} {σ : wx_Z} {K : Int32 → wx_Z → Prop} (h : wpX9_readsOne σ K) : Met l yX9_readsOne wsX9_readsOne rmX9_readsOne (wx_Pre D [(cI, .int)] wx_T0 14 (wM_E cI ad) ad σ sz [.ref (ad 0)]) (va_Qi K (wx_B D [(cI, .int)] 14 (wM_E cI ad) ad (va_A (wx_w 14 (wM_E cI ad) ad σ) sz)) (va_A (wx_w 14 (wM_E cI ad) ad σ) sz)) 0 0 (va_A (wx_w 14 (wM_E cI ad) ad σ) sz) := by
  unfold wpX9_readsOne at h
  refine wx_metz (cc := cX9_readsOne) (maxL := 3) (own := RX9) rfl (by decide) rfl (Nat.le_of_ble_eq_true rfl) wx_T0_ok ?_
  intro p e s m args below meth c A Q ls C Rt hP hD hS hl
  obtain ⟨⟨hx, hb, hml, hown, hts⟩, hA, hK, hRO, hro⟩ := id C
  have hl : lv_has ls 3 [(0, .ref (ad 0))] := hl
  obtain ⟨H, eH⟩ : ∃ z, z = s.heap := ⟨_, rfl⟩
  obtain ⟨locs, eL⟩ : ∃ z : List Loc, z = [] := ⟨_, rfl⟩
  rw [← eH] at hP
  have hS : va_S A s.heap H locs := by rw [eH, eL]; exact hS
  have goal : W p l e rmX9_readsOne s m args below meth c H locs 0 0 Q (F0 m 0 ls []) := by
    refine lv_aload_n hx hb dX9_readsOne_0 rfl (lv_at hl 0 rfl) ?_
    refine wx_ci C hD hS (va_runV (As := []) (rest := []) C.1 (mtX9_here (l := l) (D := D) (sz := H.size) h) (cwV 0 hts gX9_readsOne_X9_here rfl rfl rfl nyX9_here ⟨Nat.le_of_ble_eq_true rfl, Nat.le_of_ble_eq_true rfl⟩) (wx_pv C hP hD hS (q := 0) (ci := 9) (Nat.le_of_ble_eq_true rfl) (eM_0 cI ad _) rfl) rfl rfl hl.1 rfl (lv_room (Nat.le_of_ble_eq_true rfl)) dX9_readsOne_1 ⟨Nat.zero_le _, Nat.zero_le _⟩) (fun r1 σ1 H locs h hP hD hS => ?_)
    refine lv_istore_n (lv' := [(1, .int r1), (0, .ref (ad 0))]) hx hb dX9_readsOne_4 rfl hl (by decide) rfl (fun ls hl => ?_)
    refine lv_iload_n hx hb dX9_readsOne_5 rfl (lv_at hl 0 rfl) ?_
    refine lv_bipush (v := 99) hx hb dX9_readsOne_6 (by decide) ?_
    refine lv_icmp_eq (tgt := 49) hx hb dX9_readsOne_8 (by decide) (fun c8 => ?_) (fun c8 => ?_)
    · have h := h.1 c8
      exact bX9_readsOne_49 C Rt σ1 r1  h _ _ _ hP hD hS (lv_sub hl [1, 0] rfl)
    · have h := h.2 c8
      refine lv_iload_n hx hb dX9_readsOne_11 rfl (lv_at hl 0 rfl) ?_
      refine lv_bipush (v := 109) hx hb dX9_readsOne_12 (by decide) ?_
      refine lv_icmp_eq (tgt := 49) hx hb dX9_readsOne_14 (by decide) (fun c14 => ?_) (fun c14 => ?_)
      · have h := h.1 c14
        exact bX9_readsOne_49 C Rt σ1 r1  h _ _ _ hP hD hS (lv_sub hl [1, 0] rfl)
      · have h := h.2 c14
        refine lv_iload_n hx hb dX9_readsOne_17 rfl (lv_at hl 0 rfl) ?_
        refine lv_bipush (v := 119) hx hb dX9_readsOne_18 (by decide) ?_
        refine lv_icmp_eq (tgt := 49) hx hb dX9_readsOne_20 (by decide) (fun c20 => ?_) (fun c20 => ?_)
        · have h := h.1 c20
          exact bX9_readsOne_49 C Rt σ1 r1  h _ _ _ hP hD hS (lv_sub hl [1, 0] rfl)
        · have h := h.2 c20
          refine lv_iload_n hx hb dX9_readsOne_23 rfl (lv_at hl 0 rfl) ?_
          refine lv_bipush (v := 102) hx hb dX9_readsOne_24 (by decide) ?_
          refine lv_icmp_eq (tgt := 49) hx hb dX9_readsOne_26 (by decide) (fun c26 => ?_) (fun c26 => ?_)
          · have h := h.1 c26
            exact bX9_readsOne_49 C Rt σ1 r1  h _ _ _ hP hD hS (lv_sub hl [1, 0] rfl)
          · have h := h.2 c26
            refine lv_iload_n hx hb dX9_readsOne_29 rfl (lv_at hl 0 rfl) ?_
            refine lv_bipush (v := 118) hx hb dX9_readsOne_30 (by decide) ?_
            refine lv_icmp_eq (tgt := 49) hx hb dX9_readsOne_32 (by decide) (fun c32 => ?_) (fun c32 => ?_)
            · have h := h.1 c32
              exact bX9_readsOne_49 C Rt σ1 r1  h _ _ _ hP hD hS (lv_sub hl [1, 0] rfl)
            · have h := h.2 c32
              refine lv_iload_n hx hb dX9_readsOne_35 rfl (lv_at hl 0 rfl) ?_
              refine lv_bipush (v := 115) hx hb dX9_readsOne_36 (by decide) ?_
              refine lv_icmp_eq (tgt := 49) hx hb dX9_readsOne_38 (by decide) (fun c38 => ?_) (fun c38 => ?_)
              · have h := h.1 c38
                exact bX9_readsOne_49 C Rt σ1 r1  h _ _ _ hP hD hS (lv_sub hl [1, 0] rfl)
              · have h := h.2 c38
                refine lv_iload_n hx hb dX9_readsOne_41 rfl (lv_at hl 0 rfl) ?_
                refine lv_bipush (v := 104) hx hb dX9_readsOne_42 (by decide) ?_
                refine lv_icmp_eq (tgt := 49) hx hb dX9_readsOne_44 (by decide) (fun c44 => ?_) (fun c44 => ?_)
                · have h := h.1 c44
                  exact bX9_readsOne_49 C Rt σ1 r1  h _ _ _ hP hD hS (lv_sub hl [1, 0] rfl)
                · have h := h.2 c44
                  refine lv_iconst (v := 0) hx hb dX9_readsOne_47 (by decide) ?_
                  exact Rt _ _ _ _ _ _ rfl h hP hD hS dX9_readsOne_48
  rw [eH, eL] at goal
  exact goal
abbrev rmX9_keepsAside : Room := { frames := 2, cells := 0, slots := 0, locals := 61 }
set_option maxRecDepth 20000 in
theorem inX9_keepsAside_X9 : ∀ w ∈ u_ws RX9 TX9 27, w ∈ wsX9_keepsAside := by decide +kernel
set_option maxRecDepth 100000 in
set_option maxHeartbeats 4000000 in
theorem bX9_keepsAside_44 {p : Program} {l : Launch} {e : Env} {s : State} {m : MethodId} {args : Array Value} {below : List Frame} {meth : Method} {c : Code} {A : Nat → Prop} {Q : State → Prop} {D : va_G} {cI : ClassId} {ad : Nat → Nat} {K : wx_Z → Prop} (C : wx_C p s m args c cX9_keepsAside 2 RX9 wsX9_keepsAside D [(cI, .int)] wx_T0 A) (Rt : wx_Rv p l e rmX9_keepsAside s m args below meth c cX9_keepsAside D 14 (wM_E cI ad) ad A K Q) : ∀ (n : Nat) (σ : wx_Z) (x1 : Int32), wpX9_keepsAside_44 K n σ x1 → ∀ (H : Heap) (locs : List Loc) (ls : Array Slot), va_P D vwCl (wx_w 14 (wM_E cI ad) ad σ) H → va_D A (wx_w 14 (wM_E cI ad) ad σ) → va_S A s.heap H locs → lv_has ls 2 [(0, .ref (ad 0)), (1, .int x1)] → W p l e rmX9_keepsAside s m args below meth c H locs 0 0 Q (F0 m 44 ls []) := by
  obtain ⟨⟨hx, hb, hml, hown, hts⟩, hA, hK, hRO, hro⟩ := id C
  intro n
  induction n with
  | zero => intro σ x1 h; exact h.elim
  | succ n ih =>
    intro σ x1 h H locs ls hP hD hS hl
    unfold wpX9_keepsAside_44 at h
    refine lv_iload_n hx hb dX9_keepsAside_44 rfl (lv_at hl 1 rfl) ?_
    refine lv_bipush (v := 35) hx hb dX9_keepsAside_45 (by decide) ?_
    refine lv_icmp_ge (tgt := 68) hx hb dX9_keepsAside_47 (by decide) (fun c47 => ?_) (fun c47 => ?_)
    · have h := h.1 c47
      exact Rt _ _ _ _ _ h hP hD hS dX9_keepsAside_68
    · have h := h.2 c47
      refine lv_aload_n hx hb dX9_keepsAside_50 rfl (lv_at hl 0 rfl) ?_
      refine wx_get C hP (q := 0) (ci := 9) (Nat.le_of_ble_eq_true rfl) (eM_0 cI ad _) (Cn := RX9) (T := TX9) (Nf := 27) rfl inX9_keepsAside_X9 0 (by decide) (List.mem_of_getElem? (i := 2) rfl) (v := .ref (ad 1)) rfl dX9_keepsAside_51 ?_
      refine lv_iload_n hx hb dX9_keepsAside_54 rfl (lv_at hl 1 rfl) ?_
      refine lv_aload_n hx hb dX9_keepsAside_55 rfl (lv_at hl 0 rfl) ?_
      refine wx_get C hP (q := 0) (ci := 9) (Nat.le_of_ble_eq_true rfl) (eM_0 cI ad _) (Cn := RX9) (T := TX9) (Nf := 27) rfl inX9_keepsAside_X9 26 (by decide) (List.mem_of_getElem? (i := 1) rfl) (v := .ref (ad 13)) rfl dX9_keepsAside_56 ?_
      refine lv_iload_n hx hb dX9_keepsAside_59 rfl (lv_at hl 1 rfl) ?_
      refine wx_ild C hP (q := 13) (Nat.le_of_ble_eq_true rfl) (fun _ => rfl) 0 rfl h.1 dX9_keepsAside_60 ?_
      have h := h.2
      refine wx_ist C hP hD hS (q := 1) (Nat.le_of_ble_eq_true rfl) (fun _ => rfl) 0 rfl h.1 dX9_keepsAside_61 (fun H locs hP hD hS => ?_)
      generalize e_σ61 : wx_up σ 1 (Int32.toNatClampNeg x1) (σ 13 (Int32.toNatClampNeg x1)) = σ61 at hP hD
      have h := h.2 σ61 e_σ61.symm
      obtain ⟨t62, e_t62⟩ : ∃ y : Int32, y = x1 + 1 := ⟨_, rfl⟩
      have h := h t62 e_t62
      refine lv_iinc (v := t62) (lv' := [(1, .int t62), (0, .ref (ad 0))]) hx hb dX9_keepsAside_62 hl (k := 1) rfl (by rw [e_t62]; rfl) (by decide) rfl (fun ls hl => ?_)
      refine lv_goto (tgt := 44) hx hb dX9_keepsAside_65 (by decide) ?_
      exact ih σ61 t62  h _ _ _ hP hD hS (lv_sub hl [1, 0] rfl)
set_option maxRecDepth 100000 in
set_option maxHeartbeats 4000000 in
theorem bX9_keepsAside_2 {p : Program} {l : Launch} {e : Env} {s : State} {m : MethodId} {args : Array Value} {below : List Frame} {meth : Method} {c : Code} {A : Nat → Prop} {Q : State → Prop} {D : va_G} {cI : ClassId} {ad : Nat → Nat} {K : wx_Z → Prop} (C : wx_C p s m args c cX9_keepsAside 2 RX9 wsX9_keepsAside D [(cI, .int)] wx_T0 A) (Rt : wx_Rv p l e rmX9_keepsAside s m args below meth c cX9_keepsAside D 14 (wM_E cI ad) ad A K Q) : ∀ (n : Nat) (σ : wx_Z) (x1 : Int32), wpX9_keepsAside_2 K n σ x1 → ∀ (H : Heap) (locs : List Loc) (ls : Array Slot), va_P D vwCl (wx_w 14 (wM_E cI ad) ad σ) H → va_D A (wx_w 14 (wM_E cI ad) ad σ) → va_S A s.heap H locs → lv_has ls 2 [(0, .ref (ad 0)), (1, .int x1)] → W p l e rmX9_keepsAside s m args below meth c H locs 0 0 Q (F0 m 2 ls []) := by
  obtain ⟨⟨hx, hb, hml, hown, hts⟩, hA, hK, hRO, hro⟩ := id C
  intro n
  induction n with
  | zero => intro σ x1 h; exact h.elim
  | succ n ih =>
    intro σ x1 h H locs ls hP hD hS hl
    unfold wpX9_keepsAside_2 at h
    refine lv_iload_n hx hb dX9_keepsAside_2 rfl (lv_at hl 1 rfl) ?_
    refine lv_bipush (v := 35) hx hb dX9_keepsAside_3 (by decide) ?_
    refine lv_icmp_ge (tgt := 38) hx hb dX9_keepsAside_5 (by decide) (fun c5 => ?_) (fun c5 => ?_)
    · have h := h.1 c5
      refine lv_aload_n hx hb dX9_keepsAside_38 rfl (lv_at hl 0 rfl) ?_
      refine wx_cv C hD hS (va_runV (As := []) (rest := []) C.1 (mtX9_keep (l := l) (D := D) (sz := H.size) h) (cwV 0 hts gX9_keepsAside_X9_keep rfl rfl rfl nyX9_keep ⟨Nat.le_of_ble_eq_true rfl, Nat.le_of_ble_eq_true rfl⟩) (wx_pv C hP hD hS (q := 0) (ci := 9) (Nat.le_of_ble_eq_true rfl) (eM_0 cI ad _) rfl) rfl rfl hl.1 rfl (lv_room (Nat.le_of_ble_eq_true rfl)) dX9_keepsAside_39 ⟨Nat.zero_le _, Nat.zero_le _⟩) (fun σ39 H locs h hP hD hS => ?_)
      refine lv_iconst (v := 0) hx hb dX9_keepsAside_42 (by decide) ?_
      refine lv_istore_n (lv' := [(1, .int 0), (0, .ref (ad 0))]) hx hb dX9_keepsAside_43 rfl hl (by decide) rfl (fun ls hl => ?_)
      obtain ⟨n44, h⟩ := h
      exact bX9_keepsAside_44 C Rt n44 σ39 0  h _ _ _ hP hD hS (lv_sub hl [1, 0] rfl)
    · have h := h.2 c5
      refine lv_aload_n hx hb dX9_keepsAside_8 rfl (lv_at hl 0 rfl) ?_
      refine wx_get C hP (q := 0) (ci := 9) (Nat.le_of_ble_eq_true rfl) (eM_0 cI ad _) (Cn := RX9) (T := TX9) (Nf := 27) rfl inX9_keepsAside_X9 26 (by decide) (List.mem_of_getElem? (i := 1) rfl) (v := .ref (ad 13)) rfl dX9_keepsAside_9 ?_
      refine lv_iload_n hx hb dX9_keepsAside_12 rfl (lv_at hl 1 rfl) ?_
      refine lv_aload_n hx hb dX9_keepsAside_13 rfl (lv_at hl 0 rfl) ?_
      refine wx_get C hP (q := 0) (ci := 9) (Nat.le_of_ble_eq_true rfl) (eM_0 cI ad _) (Cn := RX9) (T := TX9) (Nf := 27) rfl inX9_keepsAside_X9 0 (by decide) (List.mem_of_getElem? (i := 2) rfl) (v := .ref (ad 1)) rfl dX9_keepsAside_14 ?_
      refine lv_iload_n hx hb dX9_keepsAside_17 rfl (lv_at hl 1 rfl) ?_
      refine wx_ild C hP (q := 1) (Nat.le_of_ble_eq_true rfl) (fun _ => rfl) 0 rfl h.1 dX9_keepsAside_18 ?_
      have h := h.2
      refine wx_ist C hP hD hS (q := 13) (Nat.le_of_ble_eq_true rfl) (fun _ => rfl) 0 rfl h.1 dX9_keepsAside_19 (fun H locs hP hD hS => ?_)
      generalize e_σ19 : wx_up σ 13 (Int32.toNatClampNeg x1) (σ 1 (Int32.toNatClampNeg x1)) = σ19 at hP hD
      have h := h.2 σ19 e_σ19.symm
      refine lv_aload_n hx hb dX9_keepsAside_20 rfl (lv_at hl 0 rfl) ?_
      refine wx_get C hP (q := 0) (ci := 9) (Nat.le_of_ble_eq_true rfl) (eM_0 cI ad _) (Cn := RX9) (T := TX9) (Nf := 27) rfl inX9_keepsAside_X9 0 (by decide) (List.mem_of_getElem? (i := 2) rfl) (v := .ref (ad 1)) rfl dX9_keepsAside_21 ?_
      refine lv_iload_n hx hb dX9_keepsAside_24 rfl (lv_at hl 1 rfl) ?_
      refine lv_aload_n hx hb dX9_keepsAside_25 rfl (lv_at hl 0 rfl) ?_
      refine wx_get C hP (q := 0) (ci := 9) (Nat.le_of_ble_eq_true rfl) (eM_0 cI ad _) (Cn := RX9) (T := TX9) (Nf := 27) rfl inX9_keepsAside_X9 25 (by decide) (List.mem_of_getElem? (i := 3) rfl) (v := .ref (ad 12)) rfl dX9_keepsAside_26 ?_
      refine lv_iload_n hx hb dX9_keepsAside_29 rfl (lv_at hl 1 rfl) ?_
      refine wx_ild C hP (q := 12) (Nat.le_of_ble_eq_true rfl) (fun _ => rfl) 0 rfl h.1 dX9_keepsAside_30 ?_
      have h := h.2
      refine wx_ist C hP hD hS (q := 1) (Nat.le_of_ble_eq_true rfl) (fun _ => rfl) 0 rfl h.1 dX9_keepsAside_31 (fun H locs hP hD hS => ?_)
      generalize e_σ31 : wx_up σ19 1 (Int32.toNatClampNeg x1) (σ19 12 (Int32.toNatClampNeg x1)) = σ31 at hP hD
      have h := h.2 σ31 e_σ31.symm
      obtain ⟨t32, e_t32⟩ : ∃ y : Int32, y = x1 + 1 := ⟨_, rfl⟩
      have h := h t32 e_t32
      refine lv_iinc (v := t32) (lv' := [(1, .int t32), (0, .ref (ad 0))]) hx hb dX9_keepsAside_32 hl (k := 1) rfl (by rw [e_t32]; rfl) (by decide) rfl (fun ls hl => ?_)
      refine lv_goto (tgt := 2) hx hb dX9_keepsAside_35 (by decide) ?_
      exact ih σ31 t32  h _ _ _ hP hD hS (lv_sub hl [1, 0] rfl)
set_option maxRecDepth 100000 in
set_option maxHeartbeats 4000000 in
theorem mtX9_keepsAside {l : Launch} {D : va_G} {cI : ClassId} {ad : Nat → Nat} {sz : Nat} {σ : wx_Z} {K : wx_Z → Prop} (h : wpX9_keepsAside σ K) : Met l yX9_keepsAside wsX9_keepsAside rmX9_keepsAside (wx_Pre D [(cI, .int)] wx_T0 14 (wM_E cI ad) ad σ sz [.ref (ad 0)]) (va_Qv K (wx_B D [(cI, .int)] 14 (wM_E cI ad) ad (va_A (wx_w 14 (wM_E cI ad) ad σ) sz)) (va_A (wx_w 14 (wM_E cI ad) ad σ) sz)) 0 0 (va_A (wx_w 14 (wM_E cI ad) ad σ) sz) := by
  unfold wpX9_keepsAside at h
  refine wx_metv (cc := cX9_keepsAside) (maxL := 2) (own := RX9) rfl (by decide) rfl (Nat.le_of_ble_eq_true rfl) wx_T0_ok ?_
  intro p e s m args below meth c A Q ls C Rt hP hD hS hl
  obtain ⟨⟨hx, hb, hml, hown, hts⟩, hA, hK, hRO, hro⟩ := id C
  have hl : lv_has ls 2 [(0, .ref (ad 0))] := hl
  obtain ⟨H, eH⟩ : ∃ z, z = s.heap := ⟨_, rfl⟩
  obtain ⟨locs, eL⟩ : ∃ z : List Loc, z = [] := ⟨_, rfl⟩
  rw [← eH] at hP
  have hS : va_S A s.heap H locs := by rw [eH, eL]; exact hS
  have goal : W p l e rmX9_keepsAside s m args below meth c H locs 0 0 Q (F0 m 0 ls []) := by
    refine lv_iconst (v := 0) hx hb dX9_keepsAside_0 (by decide) ?_
    refine lv_istore_n (lv' := [(1, .int 0), (0, .ref (ad 0))]) hx hb dX9_keepsAside_1 rfl hl (by decide) rfl (fun ls hl => ?_)
    obtain ⟨n2, h⟩ := h
    exact bX9_keepsAside_2 C Rt n2 σ 0  h _ _ _ hP hD hS (lv_sub hl [1, 0] rfl)
  rw [eH, eL] at goal
  exact goal
abbrev rmX9_does : Room := { frames := 9, cells := 0, slots := 0, locals := 222 }
set_option maxRecDepth 20000 in
theorem inX9_does_X9 : ∀ w ∈ u_ws RX9 TX9 27, w ∈ wsX9_does := by decide +kernel
theorem nyX9_keepsAside : yX9_keepsAside.cls = RX9 ∧ yX9_keepsAside.cls ≠ "java/lang/invoke/MethodHandle" ∧ yX9_keepsAside.cls ≠ "java/lang/invoke/VarHandle" ∧ (parseMethodDescriptor yX9_keepsAside.desc).map (fun d => d.parameters.length) = some 0 := by decide +kernel
theorem nyX9_readsOne : yX9_readsOne.cls = RX9 ∧ yX9_readsOne.cls ≠ "java/lang/invoke/MethodHandle" ∧ yX9_readsOne.cls ≠ "java/lang/invoke/VarHandle" ∧ (parseMethodDescriptor yX9_readsOne.desc).map (fun d => d.parameters.length) = some 0 := by decide +kernel
set_option maxRecDepth 100000 in
set_option maxHeartbeats 4000000 in
theorem bX9_does_48 {p : Program} {l : Launch} {e : Env} {s : State} {m : MethodId} {args : Array Value} {below : List Frame} {meth : Method} {c : Code} {A : Nat → Prop} {Q : State → Prop} {D : va_G} {cI : ClassId} {ad : Nat → Nat} {K : Int32 → wx_Z → Prop} (C : wx_C p s m args c cX9_does 4 RX9 wsX9_does D [(cI, .int)] wx_T0 A) (Rt : wx_Ri p l e rmX9_does s m args below meth c cX9_does D 14 (wM_E cI ad) ad A K Q) : ∀ (n : Nat) (σ : wx_Z) (x3 : Int32), wpX9_does_48 K n σ x3 → ∀ (H : Heap) (locs : List Loc) (ls : Array Slot), va_P D vwCl (wx_w 14 (wM_E cI ad) ad σ) H → va_D A (wx_w 14 (wM_E cI ad) ad σ) → va_S A s.heap H locs → lv_has ls 4 [(0, .ref (ad 0)), (3, .int x3)] → W p l e rmX9_does s m args below meth c H locs 0 0 Q (F0 m 48 ls []) := by
  obtain ⟨⟨hx, hb, hml, hown, hts⟩, hA, hK, hRO, hro⟩ := id C
  intro n
  induction n with
  | zero => intro σ x3 h; exact h.elim
  | succ n ih =>
    intro σ x3 h H locs ls hP hD hS hl
    unfold wpX9_does_48 at h
    refine lv_iload_n hx hb dX9_does_48 rfl (lv_at hl 1 rfl) ?_
    refine lv_bipush (v := 35) hx hb dX9_does_49 (by decide) ?_
    refine lv_icmp_ge (tgt := 72) hx hb dX9_does_51 (by decide) (fun c51 => ?_) (fun c51 => ?_)
    · have h := h.1 c51
      refine lv_bipush (v := (-10)) hx hb dX9_does_72 (by decide) ?_
      refine lv_aload_n hx hb dX9_does_74 rfl (lv_at hl 0 rfl) ?_
      refine wx_get C hP (q := 0) (ci := 9) (Nat.le_of_ble_eq_true rfl) (eM_0 cI ad _) (Cn := RX9) (T := TX9) (Nf := 27) rfl inX9_does_X9 22 (by decide) (List.mem_of_getElem? (i := 3) rfl) (v := .int (σ 0 22)) rfl dX9_does_75 ?_
      refine lv_isub hx hb dX9_does_78 ?_
      exact Rt _ _ _ _ _ _ h hP hD hS dX9_does_79
    · have h := h.2 c51
      refine lv_aload_n hx hb dX9_does_54 rfl (lv_at hl 0 rfl) ?_
      refine wx_get C hP (q := 0) (ci := 9) (Nat.le_of_ble_eq_true rfl) (eM_0 cI ad _) (Cn := RX9) (T := TX9) (Nf := 27) rfl inX9_does_X9 0 (by decide) (List.mem_of_getElem? (i := 2) rfl) (v := .ref (ad 1)) rfl dX9_does_55 ?_
      refine lv_iload_n hx hb dX9_does_58 rfl (lv_at hl 1 rfl) ?_
      refine lv_aload_n hx hb dX9_does_59 rfl (lv_at hl 0 rfl) ?_
      refine wx_get C hP (q := 0) (ci := 9) (Nat.le_of_ble_eq_true rfl) (eM_0 cI ad _) (Cn := RX9) (T := TX9) (Nf := 27) rfl inX9_does_X9 25 (by decide) (List.mem_of_getElem? (i := 1) rfl) (v := .ref (ad 12)) rfl dX9_does_60 ?_
      refine lv_iload_n hx hb dX9_does_63 rfl (lv_at hl 1 rfl) ?_
      refine wx_ild C hP (q := 12) (Nat.le_of_ble_eq_true rfl) (fun _ => rfl) 0 rfl h.1 dX9_does_64 ?_
      have h := h.2
      refine wx_ist C hP hD hS (q := 1) (Nat.le_of_ble_eq_true rfl) (fun _ => rfl) 0 rfl h.1 dX9_does_65 (fun H locs hP hD hS => ?_)
      generalize e_σ65 : wx_up σ 1 (Int32.toNatClampNeg x3) (σ 12 (Int32.toNatClampNeg x3)) = σ65 at hP hD
      have h := h.2 σ65 e_σ65.symm
      obtain ⟨t66, e_t66⟩ : ∃ y : Int32, y = x3 + 1 := ⟨_, rfl⟩
      have h := h t66 e_t66
      refine lv_iinc (v := t66) (lv' := [(3, .int t66), (0, .ref (ad 0))]) hx hb dX9_does_66 hl (k := 1) rfl (by rw [e_t66]; rfl) (by decide) rfl (fun ls hl => ?_)
      refine lv_goto (tgt := 48) hx hb dX9_does_69 (by decide) ?_
      exact ih σ65 t66  h _ _ _ hP hD hS (lv_sub hl [1, 0] rfl)
set_option maxRecDepth 100000 in
set_option maxHeartbeats 4000000 in
theorem bX9_does_35 {p : Program} {l : Launch} {e : Env} {s : State} {m : MethodId} {args : Array Value} {below : List Frame} {meth : Method} {c : Code} {A : Nat → Prop} {Q : State → Prop} {D : va_G} {cI : ClassId} {ad : Nat → Nat} {K : Int32 → wx_Z → Prop} (C : wx_C p s m args c cX9_does 4 RX9 wsX9_does D [(cI, .int)] wx_T0 A) (Rt : wx_Ri p l e rmX9_does s m args below meth c cX9_does D 14 (wM_E cI ad) ad A K Q) : ∀ (n : Nat) (σ : wx_Z) (x1 : Int32) (x2 : Int32), wpX9_does_35 K n σ x1 x2 → ∀ (H : Heap) (locs : List Loc) (ls : Array Slot), va_P D vwCl (wx_w 14 (wM_E cI ad) ad σ) H → va_D A (wx_w 14 (wM_E cI ad) ad σ) → va_S A s.heap H locs → lv_has ls 4 [(0, .ref (ad 0)), (1, .int x1), (2, .int x2)] → W p l e rmX9_does s m args below meth c H locs 0 0 Q (F0 m 35 ls []) := by
  obtain ⟨⟨hx, hb, hml, hown, hts⟩, hA, hK, hRO, hro⟩ := id C
  intro n
  induction n with
  | zero => intro σ x1 x2 h; exact h.elim
  | succ n ih =>
    intro σ x1 x2 h H locs ls hP hD hS hl
    unfold wpX9_does_35 at h
    refine lv_iload_n hx hb dX9_does_35 rfl (lv_at hl 2 rfl) ?_
    refine lv_if_eq (tgt := 100) hx hb dX9_does_36 (by decide) (fun c36 => ?_) (fun c36 => ?_)
    · have h := h.1 c36
      refine lv_aload_n hx hb dX9_does_100 rfl (lv_at hl 0 rfl) ?_
      refine wx_cv C hD hS (va_runV (As := []) (rest := []) C.1 (mtX9_keepsAside (l := l) (D := D) (sz := H.size) h) (cwV 0 hts gX9_does_X9_keepsAside rfl rfl rfl nyX9_keepsAside ⟨Nat.le_of_ble_eq_true rfl, Nat.le_of_ble_eq_true rfl⟩) (wx_pv C hP hD hS (q := 0) (ci := 9) (Nat.le_of_ble_eq_true rfl) (eM_0 cI ad _) rfl) rfl rfl hl.1 rfl (lv_room (Nat.le_of_ble_eq_true rfl)) dX9_does_101 ⟨Nat.zero_le _, Nat.zero_le _⟩) (fun σ101 H locs h hP hD hS => ?_)
      refine lv_iload_n hx hb dX9_does_104 rfl (lv_at hl 1 rfl) ?_
      exact Rt _ _ _ _ _ _ h hP hD hS dX9_does_105
    · have h := h.2 c36
      refine lv_aload_n hx hb dX9_does_39 rfl (lv_at hl 0 rfl) ?_
      refine wx_ci C hD hS (va_runV (As := []) (rest := []) C.1 (mtX9_readsOne (l := l) (D := D) (sz := H.size) h) (cwV 0 hts gX9_does_X9_readsOne rfl rfl rfl nyX9_readsOne ⟨Nat.le_of_ble_eq_true rfl, Nat.le_of_ble_eq_true rfl⟩) (wx_pv C hP hD hS (q := 0) (ci := 9) (Nat.le_of_ble_eq_true rfl) (eM_0 cI ad _) rfl) rfl rfl hl.1 rfl (lv_room (Nat.le_of_ble_eq_true rfl)) dX9_does_40 ⟨Nat.zero_le _, Nat.zero_le _⟩) (fun r40 σ40 H locs h hP hD hS => ?_)
      refine lv_if_ne (tgt := 80) hx hb dX9_does_43 (by decide) (fun c43 => ?_) (fun c43 => ?_)
      · have h := h.1 c43
        obtain ⟨t80, e_t80⟩ : ∃ y : Int32, y = x1 + 1 := ⟨_, rfl⟩
        have h := h t80 e_t80
        refine lv_iinc (v := t80) (lv' := [(1, .int t80), (0, .ref (ad 0)), (2, .int x2)]) hx hb dX9_does_80 hl (k := 1) rfl (by rw [e_t80]; rfl) (by decide) rfl (fun ls hl => ?_)
        refine lv_aload_n hx hb dX9_does_83 rfl (lv_at hl 1 rfl) ?_
        refine wx_ci C hD hS (va_runV (As := []) (rest := []) C.1 (mtX9_here (l := l) (D := D) (sz := H.size) h) (cwV 0 hts gX9_does_X9_here rfl rfl rfl nyX9_here ⟨Nat.le_of_ble_eq_true rfl, Nat.le_of_ble_eq_true rfl⟩) (wx_pv C hP hD hS (q := 0) (ci := 9) (Nat.le_of_ble_eq_true rfl) (eM_0 cI ad _) rfl) rfl rfl hl.1 rfl (lv_room (Nat.le_of_ble_eq_true rfl)) dX9_does_84 ⟨Nat.zero_le _, Nat.zero_le _⟩) (fun r84 σ84 H locs h hP hD hS => ?_)
        refine lv_iconst (v := (-1)) hx hb dX9_does_87 (by decide) ?_
        refine lv_icmp_eq (tgt := 95) hx hb dX9_does_88 (by decide) (fun c88 => ?_) (fun c88 => ?_)
        · have h := h.1 c88
          refine lv_iconst (v := 0) hx hb dX9_does_95 (by decide) ?_
          refine lv_istore_n (lv' := [(2, .int 0), (1, .int t80), (0, .ref (ad 0))]) hx hb dX9_does_96 rfl hl (by decide) rfl (fun ls hl => ?_)
          refine lv_goto (tgt := 35) hx hb dX9_does_97 (by decide) ?_
          exact ih σ84 t80 0  h _ _ _ hP hD hS (lv_sub hl [2, 1, 0] rfl)
        · have h := h.2 c88
          refine lv_iconst (v := 1) hx hb dX9_does_91 (by decide) ?_
          refine lv_goto (tgt := 96) hx hb dX9_does_92 (by decide) ?_
          refine lv_istore_n (lv' := [(2, .int 1), (1, .int t80), (0, .ref (ad 0))]) hx hb dX9_does_96 rfl hl (by decide) rfl (fun ls hl => ?_)
          refine lv_goto (tgt := 35) hx hb dX9_does_97 (by decide) ?_
          exact ih σ84 t80 1  h _ _ _ hP hD hS (lv_sub hl [2, 1, 0] rfl)
      · have h := h.2 c43
        refine lv_iconst (v := 0) hx hb dX9_does_46 (by decide) ?_
        refine lv_istore_n (lv' := [(3, .int 0), (0, .ref (ad 0)), (1, .int x1), (2, .int x2)]) hx hb dX9_does_47 rfl hl (by decide) rfl (fun ls hl => ?_)
        obtain ⟨n48, h⟩ := h
        exact bX9_does_48 C Rt n48 σ40 0  h _ _ _ hP hD hS (lv_sub hl [1, 0] rfl)
set_option maxRecDepth 100000 in
set_option maxHeartbeats 4000000 in
theorem bX9_does_6 {p : Program} {l : Launch} {e : Env} {s : State} {m : MethodId} {args : Array Value} {below : List Frame} {meth : Method} {c : Code} {A : Nat → Prop} {Q : State → Prop} {D : va_G} {cI : ClassId} {ad : Nat → Nat} {K : Int32 → wx_Z → Prop} (C : wx_C p s m args c cX9_does 4 RX9 wsX9_does D [(cI, .int)] wx_T0 A) (Rt : wx_Ri p l e rmX9_does s m args below meth c cX9_does D 14 (wM_E cI ad) ad A K Q) : ∀ (n : Nat) (σ : wx_Z) (x1 : Int32) (x2 : Int32) (x3 : Int32), wpX9_does_6 K n σ x1 x2 x3 → ∀ (H : Heap) (locs : List Loc) (ls : Array Slot), va_P D vwCl (wx_w 14 (wM_E cI ad) ad σ) H → va_D A (wx_w 14 (wM_E cI ad) ad σ) → va_S A s.heap H locs → lv_has ls 4 [(0, .ref (ad 0)), (1, .int x1), (2, .int x2), (3, .int x3)] → W p l e rmX9_does s m args below meth c H locs 0 0 Q (F0 m 6 ls []) := by
  obtain ⟨⟨hx, hb, hml, hown, hts⟩, hA, hK, hRO, hro⟩ := id C
  intro n
  induction n with
  | zero => intro σ x1 x2 x3 h; exact h.elim
  | succ n ih =>
    intro σ x1 x2 x3 h H locs ls hP hD hS hl
    unfold wpX9_does_6 at h
    refine lv_iload_n hx hb dX9_does_6 rfl (lv_at hl 3 rfl) ?_
    refine lv_bipush (v := 35) hx hb dX9_does_7 (by decide) ?_
    refine lv_icmp_ge (tgt := 30) hx hb dX9_does_9 (by decide) (fun c9 => ?_) (fun c9 => ?_)
    · have h := h.1 c9
      refine lv_aload_n hx hb dX9_does_30 rfl (lv_at hl 0 rfl) ?_
      refine lv_iconst (v := 0) hx hb dX9_does_31 (by decide) ?_
      refine wx_put C hP hD hS (q := 0) (ci := 9) (Nat.le_of_ble_eq_true rfl) (eM_0 cI ad _) (Cn := RX9) (T := TX9) (Nf := 27) rfl inX9_does_X9 tyX9 tyX9_ok nmX9 22 (by decide) (List.mem_of_getElem? (i := 3) rfl) rfl rfl (Nat.le_of_ble_eq_true rfl) rfl dX9_does_32 (fun H locs hP hD hS => ?_)
      generalize e_σ32 : wx_up σ 0 22 0 = σ32 at hP hD
      have h := h σ32 e_σ32.symm
      obtain ⟨n35, h⟩ := h
      exact bX9_does_35 C Rt n35 σ32 x1 x2  h _ _ _ hP hD hS (lv_sub hl [0, 1, 2] rfl)
    · have h := h.2 c9
      refine lv_aload_n hx hb dX9_does_12 rfl (lv_at hl 0 rfl) ?_
      refine wx_get C hP (q := 0) (ci := 9) (Nat.le_of_ble_eq_true rfl) (eM_0 cI ad _) (Cn := RX9) (T := TX9) (Nf := 27) rfl inX9_does_X9 25 (by decide) (List.mem_of_getElem? (i := 1) rfl) (v := .ref (ad 12)) rfl dX9_does_13 ?_
      refine lv_iload_n hx hb dX9_does_16 rfl (lv_at hl 3 rfl) ?_
      refine lv_aload_n hx hb dX9_does_17 rfl (lv_at hl 0 rfl) ?_
      refine wx_get C hP (q := 0) (ci := 9) (Nat.le_of_ble_eq_true rfl) (eM_0 cI ad _) (Cn := RX9) (T := TX9) (Nf := 27) rfl inX9_does_X9 0 (by decide) (List.mem_of_getElem? (i := 2) rfl) (v := .ref (ad 1)) rfl dX9_does_18 ?_
      refine lv_iload_n hx hb dX9_does_21 rfl (lv_at hl 3 rfl) ?_
      refine wx_ild C hP (q := 1) (Nat.le_of_ble_eq_true rfl) (fun _ => rfl) 0 rfl h.1 dX9_does_22 ?_
      have h := h.2
      refine wx_ist C hP hD hS (q := 12) (Nat.le_of_ble_eq_true rfl) (fun _ => rfl) 0 rfl h.1 dX9_does_23 (fun H locs hP hD hS => ?_)
      generalize e_σ23 : wx_up σ 12 (Int32.toNatClampNeg x3) (σ 1 (Int32.toNatClampNeg x3)) = σ23 at hP hD
      have h := h.2 σ23 e_σ23.symm
      obtain ⟨t24, e_t24⟩ : ∃ y : Int32, y = x3 + 1 := ⟨_, rfl⟩
      have h := h t24 e_t24
      refine lv_iinc (v := t24) (lv' := [(3, .int t24), (0, .ref (ad 0)), (1, .int x1), (2, .int x2)]) hx hb dX9_does_24 hl (k := 3) rfl (by rw [e_t24]; rfl) (by decide) rfl (fun ls hl => ?_)
      refine lv_goto (tgt := 6) hx hb dX9_does_27 (by decide) ?_
      exact ih σ23 x1 x2 t24  h _ _ _ hP hD hS (lv_sub hl [1, 2, 3, 0] rfl)
set_option maxRecDepth 100000 in
set_option maxHeartbeats 4000000 in
theorem mtX9_does {l : Launch} {D : va_G} {cI : ClassId} {ad : Nat → Nat} {sz : Nat} {σ : wx_Z} {K : Int32 → wx_Z → Prop} (h : wpX9_does σ K) : Met l yX9_does wsX9_does rmX9_does (wx_Pre D [(cI, .int)] wx_T0 14 (wM_E cI ad) ad σ sz [.ref (ad 0)]) (va_Qi K (wx_B D [(cI, .int)] 14 (wM_E cI ad) ad (va_A (wx_w 14 (wM_E cI ad) ad σ) sz)) (va_A (wx_w 14 (wM_E cI ad) ad σ) sz)) 0 0 (va_A (wx_w 14 (wM_E cI ad) ad σ) sz) := by
  unfold wpX9_does at h
  refine wx_meti (cc := cX9_does) (maxL := 4) (own := RX9) rfl (by decide) rfl (Nat.le_of_ble_eq_true rfl) wx_T0_ok ?_
  intro p e s m args below meth c A Q ls C Rt hP hD hS hl
  obtain ⟨⟨hx, hb, hml, hown, hts⟩, hA, hK, hRO, hro⟩ := id C
  have hl : lv_has ls 4 [(0, .ref (ad 0))] := hl
  obtain ⟨H, eH⟩ : ∃ z, z = s.heap := ⟨_, rfl⟩
  obtain ⟨locs, eL⟩ : ∃ z : List Loc, z = [] := ⟨_, rfl⟩
  rw [← eH] at hP
  have hS : va_S A s.heap H locs := by rw [eH, eL]; exact hS
  have goal : W p l e rmX9_does s m args below meth c H locs 0 0 Q (F0 m 0 ls []) := by
    refine lv_iconst (v := 0) hx hb dX9_does_0 (by decide) ?_
    refine lv_istore_n (lv' := [(1, .int 0), (0, .ref (ad 0))]) hx hb dX9_does_1 rfl hl (by decide) rfl (fun ls hl => ?_)
    refine lv_iconst (v := 1) hx hb dX9_does_2 (by decide) ?_
    refine lv_istore_n (lv' := [(2, .int 1), (1, .int 0), (0, .ref (ad 0))]) hx hb dX9_does_3 rfl hl (by decide) rfl (fun ls hl => ?_)
    refine lv_iconst (v := 0) hx hb dX9_does_4 (by decide) ?_
    refine lv_istore_n (lv' := [(3, .int 0), (2, .int 1), (1, .int 0), (0, .ref (ad 0))]) hx hb dX9_does_5 rfl hl (by decide) rfl (fun ls hl => ?_)
    obtain ⟨n6, h⟩ := h
    exact bX9_does_6 C Rt n6 σ 0 1 0  h _ _ _ hP hD hS (lv_sub hl [3, 2, 1, 0] rfl)
  rw [eH, eL] at goal
  exact goal
abbrev rmX9_back : Room := { frames := 2, cells := 0, slots := 0, locals := 61 }
set_option maxRecDepth 20000 in
theorem inX9_back_X9 : ∀ w ∈ u_ws RX9 TX9 27, w ∈ wsX9_back := by decide +kernel
set_option maxRecDepth 100000 in
set_option maxHeartbeats 4000000 in
theorem bX9_back_26 {p : Program} {l : Launch} {e : Env} {s : State} {m : MethodId} {args : Array Value} {below : List Frame} {meth : Method} {c : Code} {A : Nat → Prop} {Q : State → Prop} {D : va_G} {cI : ClassId} {ad : Nat → Nat} {K : Int32 → wx_Z → Prop} (C : wx_C p s m args c cX9_back 2 RX9 wsX9_back D [(cI, .int)] wx_T0 A) (Rt : wx_Ri p l e rmX9_back s m args below meth c cX9_back D 14 (wM_E cI ad) ad A K Q) : ∀ (n : Nat) (σ : wx_Z) (x1 : Int32), wpX9_back_26 K n σ x1 → ∀ (H : Heap) (locs : List Loc) (ls : Array Slot), va_P D vwCl (wx_w 14 (wM_E cI ad) ad σ) H → va_D A (wx_w 14 (wM_E cI ad) ad σ) → va_S A s.heap H locs → lv_has ls 2 [(0, .ref (ad 0)), (1, .int x1)] → W p l e rmX9_back s m args below meth c H locs 0 0 Q (F0 m 26 ls []) := by
  obtain ⟨⟨hx, hb, hml, hown, hts⟩, hA, hK, hRO, hro⟩ := id C
  intro n
  induction n with
  | zero => intro σ x1 h; exact h.elim
  | succ n ih =>
    intro σ x1 h H locs ls hP hD hS hl
    unfold wpX9_back_26 at h
    refine lv_iload_n hx hb dX9_back_26 rfl (lv_at hl 1 rfl) ?_
    refine lv_bipush (v := 35) hx hb dX9_back_27 (by decide) ?_
    refine lv_icmp_ge (tgt := 58) hx hb dX9_back_29 (by decide) (fun c29 => ?_) (fun c29 => ?_)
    · have h := h.1 c29
      refine lv_aload_n hx hb dX9_back_58 rfl (lv_at hl 0 rfl) ?_
      refine wx_get C hP (q := 0) (ci := 9) (Nat.le_of_ble_eq_true rfl) (eM_0 cI ad _) (Cn := RX9) (T := TX9) (Nf := 27) rfl inX9_back_X9 2 (by decide) (List.mem_of_getElem? (i := 1) rfl) (v := .int (σ 0 2)) rfl dX9_back_59 ?_
      exact Rt _ _ _ _ _ _ h hP hD hS dX9_back_62
    · have h := h.2 c29
      refine lv_aload_n hx hb dX9_back_32 rfl (lv_at hl 0 rfl) ?_
      refine wx_get C hP (q := 0) (ci := 9) (Nat.le_of_ble_eq_true rfl) (eM_0 cI ad _) (Cn := RX9) (T := TX9) (Nf := 27) rfl inX9_back_X9 0 (by decide) (List.mem_of_getElem? (i := 2) rfl) (v := .ref (ad 1)) rfl dX9_back_33 ?_
      refine lv_iload_n hx hb dX9_back_36 rfl (lv_at hl 1 rfl) ?_
      refine lv_aload_n hx hb dX9_back_37 rfl (lv_at hl 0 rfl) ?_
      refine wx_get C hP (q := 0) (ci := 9) (Nat.le_of_ble_eq_true rfl) (eM_0 cI ad _) (Cn := RX9) (T := TX9) (Nf := 27) rfl inX9_back_X9 1 (by decide) (List.mem_of_getElem? (i := 3) rfl) (v := .ref (ad 2)) rfl dX9_back_38 ?_
      refine lv_bipush (v := 35) hx hb dX9_back_41 (by decide) ?_
      refine lv_aload_n hx hb dX9_back_43 rfl (lv_at hl 0 rfl) ?_
      refine wx_get C hP (q := 0) (ci := 9) (Nat.le_of_ble_eq_true rfl) (eM_0 cI ad _) (Cn := RX9) (T := TX9) (Nf := 27) rfl inX9_back_X9 2 (by decide) (List.mem_of_getElem? (i := 1) rfl) (v := .int (σ 0 2)) rfl dX9_back_44 ?_
      refine lv_imul hx hb dX9_back_47 ?_
      refine lv_iload_n hx hb dX9_back_48 rfl (lv_at hl 1 rfl) ?_
      refine lv_iadd hx hb dX9_back_49 ?_
      refine wx_ild C hP (q := 2) (Nat.le_of_ble_eq_true rfl) (fun _ => rfl) 0 rfl h.1 dX9_back_50 ?_
      have h := h.2
      refine wx_ist C hP hD hS (q := 1) (Nat.le_of_ble_eq_true rfl) (fun _ => rfl) 0 rfl h.1 dX9_back_51 (fun H locs hP hD hS => ?_)
      generalize e_σ51 : wx_up σ 1 (Int32.toNatClampNeg x1) (σ 2 (Int32.toNatClampNeg ((35 * (σ 0 2)) + x1))) = σ51 at hP hD
      have h := h.2 σ51 e_σ51.symm
      obtain ⟨t52, e_t52⟩ : ∃ y : Int32, y = x1 + 1 := ⟨_, rfl⟩
      have h := h t52 e_t52
      refine lv_iinc (v := t52) (lv' := [(1, .int t52), (0, .ref (ad 0))]) hx hb dX9_back_52 hl (k := 1) rfl (by rw [e_t52]; rfl) (by decide) rfl (fun ls hl => ?_)
      refine lv_goto (tgt := 26) hx hb dX9_back_55 (by decide) ?_
      exact ih σ51 t52  h _ _ _ hP hD hS (lv_sub hl [1, 0] rfl)
set_option maxRecDepth 100000 in
set_option maxHeartbeats 4000000 in
theorem mtX9_back {l : Launch} {D : va_G} {cI : ClassId} {ad : Nat → Nat} {sz : Nat} {σ : wx_Z} {K : Int32 → wx_Z → Prop} (h : wpX9_back σ K) : Met l yX9_back wsX9_back rmX9_back (wx_Pre D [(cI, .int)] wx_T0 14 (wM_E cI ad) ad σ sz [.ref (ad 0)]) (va_Qi K (wx_B D [(cI, .int)] 14 (wM_E cI ad) ad (va_A (wx_w 14 (wM_E cI ad) ad σ) sz)) (va_A (wx_w 14 (wM_E cI ad) ad σ) sz)) 0 0 (va_A (wx_w 14 (wM_E cI ad) ad σ) sz) := by
  unfold wpX9_back at h
  refine wx_meti (cc := cX9_back) (maxL := 2) (own := RX9) rfl (by decide) rfl (Nat.le_of_ble_eq_true rfl) wx_T0_ok ?_
  intro p e s m args below meth c A Q ls C Rt hP hD hS hl
  obtain ⟨⟨hx, hb, hml, hown, hts⟩, hA, hK, hRO, hro⟩ := id C
  have hl : lv_has ls 2 [(0, .ref (ad 0))] := hl
  obtain ⟨H, eH⟩ : ∃ z, z = s.heap := ⟨_, rfl⟩
  obtain ⟨locs, eL⟩ : ∃ z : List Loc, z = [] := ⟨_, rfl⟩
  rw [← eH] at hP
  have hS : va_S A s.heap H locs := by rw [eH, eL]; exact hS
  have goal : W p l e rmX9_back s m args below meth c H locs 0 0 Q (F0 m 0 ls []) := by
    refine lv_aload_n hx hb dX9_back_0 rfl (lv_at hl 0 rfl) ?_
    refine wx_get C hP (q := 0) (ci := 9) (Nat.le_of_ble_eq_true rfl) (eM_0 cI ad _) (Cn := RX9) (T := TX9) (Nf := 27) rfl inX9_back_X9 2 (by decide) (List.mem_of_getElem? (i := 1) rfl) (v := .int (σ 0 2)) rfl dX9_back_1 ?_
    refine lv_if_ne (tgt := 14) hx hb dX9_back_4 (by decide) (fun c4 => ?_) (fun c4 => ?_)
    · have h := h.1 c4
      refine lv_aload_n hx hb dX9_back_14 rfl (lv_at hl 0 rfl) ?_
      refine lv_dup hx hb dX9_back_15 rfl ?_
      refine wx_get C hP (q := 0) (ci := 9) (Nat.le_of_ble_eq_true rfl) (eM_0 cI ad _) (Cn := RX9) (T := TX9) (Nf := 27) rfl inX9_back_X9 2 (by decide) (List.mem_of_getElem? (i := 1) rfl) (v := .int (σ 0 2)) rfl dX9_back_16 ?_
      refine lv_iconst (v := 1) hx hb dX9_back_19 (by decide) ?_
      refine lv_isub hx hb dX9_back_20 ?_
      refine wx_put C hP hD hS (q := 0) (ci := 9) (Nat.le_of_ble_eq_true rfl) (eM_0 cI ad _) (Cn := RX9) (T := TX9) (Nf := 27) rfl inX9_back_X9 tyX9 tyX9_ok nmX9 2 (by decide) (List.mem_of_getElem? (i := 1) rfl) rfl rfl (Nat.le_of_ble_eq_true rfl) rfl dX9_back_21 (fun H locs hP hD hS => ?_)
      generalize e_σ21 : wx_up σ 0 2 ((σ 0 2) - 1) = σ21 at hP hD
      have h := h σ21 e_σ21.symm
      refine lv_iconst (v := 0) hx hb dX9_back_24 (by decide) ?_
      refine lv_istore_n (lv' := [(1, .int 0), (0, .ref (ad 0))]) hx hb dX9_back_25 rfl hl (by decide) rfl (fun ls hl => ?_)
      obtain ⟨n26, h⟩ := h
      exact bX9_back_26 C Rt n26 σ21 0  h _ _ _ hP hD hS (lv_sub hl [1, 0] rfl)
    · have h := h.2 c4
      refine lv_aload_n hx hb dX9_back_7 rfl (lv_at hl 0 rfl) ?_
      refine lv_bipush (v := (-3)) hx hb dX9_back_8 (by decide) ?_
      refine wx_ci C hD hS (va_runV (As := [.int (-3)]) (rest := []) C.1 (mtX9_no (l := l) (D := D) (sz := H.size) h) (cwV 1 hts gX9_back_X9_no rfl rfl rfl nyX9_no ⟨Nat.le_of_ble_eq_true rfl, Nat.le_of_ble_eq_true rfl⟩) (wx_pv C hP hD hS (q := 0) (ci := 9) (Nat.le_of_ble_eq_true rfl) (eM_0 cI ad _) rfl) rfl rfl hl.1 rfl (lv_room (Nat.le_of_ble_eq_true rfl)) dX9_back_10 ⟨Nat.zero_le _, Nat.zero_le _⟩) (fun r10 σ10 H locs h hP hD hS => ?_)
      exact Rt _ _ _ _ _ _ h hP hD hS dX9_back_13
  rw [eH, eL] at goal
  exact goal
abbrev rmX9_toldOf : Room := { frames := 1, cells := 0, slots := 0, locals := 40 }
set_option maxRecDepth 20000 in
theorem inX9_toldOf_X9 : ∀ w ∈ u_ws RX9 TX9 27, w ∈ wsX9_toldOf := by decide +kernel
set_option maxRecDepth 100000 in
set_option maxHeartbeats 4000000 in
theorem mtX9_toldOf {l : Launch} {D : va_G} {cI : ClassId} {ad : Nat → Nat} {sz : Nat} {σ : wx_Z} {x1 : Int32} {K : Int32 → wx_Z → Prop} (h : wpX9_toldOf σ x1 K) : Met l yX9_toldOf wsX9_toldOf rmX9_toldOf (wx_Pre D [(cI, .int)] wx_T0 14 (wM_E cI ad) ad σ sz [.ref (ad 0), .int x1]) (va_Qi K (wx_B D [(cI, .int)] 14 (wM_E cI ad) ad (va_A (wx_w 14 (wM_E cI ad) ad σ) sz)) (va_A (wx_w 14 (wM_E cI ad) ad σ) sz)) 0 0 (va_A (wx_w 14 (wM_E cI ad) ad σ) sz) := by
  unfold wpX9_toldOf at h
  refine wx_meti (cc := cX9_toldOf) (maxL := 2) (own := RX9) rfl (by decide) rfl (Nat.le_of_ble_eq_true rfl) wx_T0_ok ?_
  intro p e s m args below meth c A Q ls C Rt hP hD hS hl
  obtain ⟨⟨hx, hb, hml, hown, hts⟩, hA, hK, hRO, hro⟩ := id C
  have hl : lv_has ls 2 [(0, .ref (ad 0)), (1, .int x1)] := hl
  obtain ⟨H, eH⟩ : ∃ z, z = s.heap := ⟨_, rfl⟩
  obtain ⟨locs, eL⟩ : ∃ z : List Loc, z = [] := ⟨_, rfl⟩
  rw [← eH] at hP
  have hS : va_S A s.heap H locs := by rw [eH, eL]; exact hS
  have goal : W p l e rmX9_toldOf s m args below meth c H locs 0 0 Q (F0 m 0 ls []) := by
    refine lv_iload_n hx hb dX9_toldOf_0 rfl (lv_at hl 1 rfl) ?_
    refine lv_iconst (v := 3) hx hb dX9_toldOf_1 (by decide) ?_
    refine lv_icmp_ge (tgt := 14) hx hb dX9_toldOf_2 (by decide) (fun c2 => ?_) (fun c2 => ?_)
    · have h := h.1 c2
      refine lv_iload_n hx hb dX9_toldOf_14 rfl (lv_at hl 1 rfl) ?_
      refine lv_iconst (v := 3) hx hb dX9_toldOf_15 (by decide) ?_
      refine lv_icmp_ne (tgt := 26) hx hb dX9_toldOf_16 (by decide) (fun c16 => ?_) (fun c16 => ?_)
      · have h := h.1 c16
        refine lv_aload_n hx hb dX9_toldOf_26 rfl (lv_at hl 0 rfl) ?_
        refine wx_get C hP (q := 0) (ci := 9) (Nat.le_of_ble_eq_true rfl) (eM_0 cI ad _) (Cn := RX9) (T := TX9) (Nf := 27) rfl inX9_toldOf_X9 2 (by decide) (List.mem_of_getElem? (i := 3) rfl) (v := .int (σ 0 2)) rfl dX9_toldOf_27 ?_
        exact Rt _ _ _ _ _ _ h hP hD hS dX9_toldOf_30
      · have h := h.2 c16
        refine lv_aload_n hx hb dX9_toldOf_19 rfl (lv_at hl 0 rfl) ?_
        refine wx_get C hP (q := 0) (ci := 9) (Nat.le_of_ble_eq_true rfl) (eM_0 cI ad _) (Cn := RX9) (T := TX9) (Nf := 27) rfl inX9_toldOf_X9 21 (by decide) (List.mem_of_getElem? (i := 2) rfl) (v := .int (σ 0 21)) rfl dX9_toldOf_20 ?_
        refine lv_goto (tgt := 30) hx hb dX9_toldOf_23 (by decide) ?_
        exact Rt _ _ _ _ _ _ h hP hD hS dX9_toldOf_30
    · have h := h.2 c2
      refine lv_aload_n hx hb dX9_toldOf_5 rfl (lv_at hl 0 rfl) ?_
      refine wx_get C hP (q := 0) (ci := 9) (Nat.le_of_ble_eq_true rfl) (eM_0 cI ad _) (Cn := RX9) (T := TX9) (Nf := 27) rfl inX9_toldOf_X9 3 (by decide) (List.mem_of_getElem? (i := 1) rfl) (v := .ref (ad 3)) rfl dX9_toldOf_6 ?_
      refine lv_iload_n hx hb dX9_toldOf_9 rfl (lv_at hl 1 rfl) ?_
      refine wx_ild C hP (q := 3) (Nat.le_of_ble_eq_true rfl) (fun _ => rfl) 0 rfl h.1 dX9_toldOf_10 ?_
      have h := h.2
      refine lv_goto (tgt := 30) hx hb dX9_toldOf_11 (by decide) ?_
      exact Rt _ _ _ _ _ _ h hP hD hS dX9_toldOf_30
  rw [eH, eL] at goal
  exact goal
abbrev rmX9_told : Room := { frames := 2, cells := 0, slots := 0, locals := 65 }
theorem nyX9_toldOf : yX9_toldOf.cls = RX9 ∧ yX9_toldOf.cls ≠ "java/lang/invoke/MethodHandle" ∧ yX9_toldOf.cls ≠ "java/lang/invoke/VarHandle" ∧ (parseMethodDescriptor yX9_toldOf.desc).map (fun d => d.parameters.length) = some 1 := by decide +kernel
set_option maxRecDepth 100000 in
set_option maxHeartbeats 4000000 in
theorem mtX9_told {l : Launch} {D : va_G} {cI : ClassId} {ad : Nat → Nat} {sz : Nat} {σ : wx_Z} {x1 : Int32} {K : Int32 → wx_Z → Prop} (h : wpX9_told σ x1 K) : Met l yX9_told wsX9_told rmX9_told (wx_Pre D [(cI, .int)] wx_T0 14 (wM_E cI ad) ad σ sz [.ref (ad 0), .int x1]) (va_Qi K (wx_B D [(cI, .int)] 14 (wM_E cI ad) ad (va_A (wx_w 14 (wM_E cI ad) ad σ) sz)) (va_A (wx_w 14 (wM_E cI ad) ad σ) sz)) 0 0 (va_A (wx_w 14 (wM_E cI ad) ad σ) sz) := by
  unfold wpX9_told at h
  refine wx_meti (cc := cX9_told) (maxL := 2) (own := RX9) rfl (by decide) rfl (Nat.le_of_ble_eq_true rfl) wx_T0_ok ?_
  intro p e s m args below meth c A Q ls C Rt hP hD hS hl
  obtain ⟨⟨hx, hb, hml, hown, hts⟩, hA, hK, hRO, hro⟩ := id C
  have hl : lv_has ls 2 [(0, .ref (ad 0)), (1, .int x1)] := hl
  obtain ⟨H, eH⟩ : ∃ z, z = s.heap := ⟨_, rfl⟩
  obtain ⟨locs, eL⟩ : ∃ z : List Loc, z = [] := ⟨_, rfl⟩
  rw [← eH] at hP
  have hS : va_S A s.heap H locs := by rw [eH, eL]; exact hS
  have goal : W p l e rmX9_told s m args below meth c H locs 0 0 Q (F0 m 0 ls []) := by
    refine lv_iload_n hx hb dX9_told_0 rfl (lv_at hl 1 rfl) ?_
    refine lv_i2l (v := Int32.toInt64 x1) hx hb dX9_told_1 rfl ?_
    refine lv_lconst (v := 0) hx hb dX9_told_2 (by decide) ?_
    refine lv_ldc2 hx hb hown (hts _ (List.mem_of_getElem? (i := 1) rfl)) dX9_told_3 ?_
    refine wx_ci C hD hS (va_runS (As := [.long (Int32.toInt64 x1), .long 0, .long 4]) (rest := []) C.1 (mtX9_in (l := l) (D := D) (sz := H.size) h) (va_cwS 3 hts gX9_told_X9_in rfl rfl rfl nyX9_in.2 ⟨Nat.le_of_ble_eq_true rfl, Nat.le_of_ble_eq_true rfl⟩) (wx_ps C hP hD hS) rfl rfl hl.1 rfl (lv_room (Nat.le_of_ble_eq_true rfl)) dX9_told_6 ⟨Nat.zero_le _, Nat.zero_le _⟩) (fun r6 σ6 H locs h hP hD hS => ?_)
    refine lv_if_eq (tgt := 20) hx hb dX9_told_9 (by decide) (fun c9 => ?_) (fun c9 => ?_)
    · have h := h.1 c9
      refine lv_aload_n hx hb dX9_told_20 rfl (lv_at hl 0 rfl) ?_
      refine lv_bipush (v := (-2)) hx hb dX9_told_21 (by decide) ?_
      refine wx_ci C hD hS (va_runV (As := [.int (-2)]) (rest := []) C.1 (mtX9_bad (l := l) (D := D) (sz := H.size) h) (cwV 1 hts gX9_told_X9_bad rfl rfl rfl nyX9_bad ⟨Nat.le_of_ble_eq_true rfl, Nat.le_of_ble_eq_true rfl⟩) (wx_pv C hP hD hS (q := 0) (ci := 9) (Nat.le_of_ble_eq_true rfl) (eM_0 cI ad _) rfl) rfl rfl hl.1 rfl (lv_room (Nat.le_of_ble_eq_true rfl)) dX9_told_23 ⟨Nat.zero_le _, Nat.zero_le _⟩) (fun r23 σ23 H locs h hP hD hS => ?_)
      exact Rt _ _ _ _ _ _ h hP hD hS dX9_told_26
    · have h := h.2 c9
      refine lv_aload_n hx hb dX9_told_12 rfl (lv_at hl 0 rfl) ?_
      refine lv_iload_n hx hb dX9_told_13 rfl (lv_at hl 1 rfl) ?_
      refine wx_ci C hD hS (va_runV (As := [.int x1]) (rest := []) C.1 (mtX9_toldOf (l := l) (D := D) (sz := H.size) h) (cwV 1 hts gX9_told_X9_toldOf rfl rfl rfl nyX9_toldOf ⟨Nat.le_of_ble_eq_true rfl, Nat.le_of_ble_eq_true rfl⟩) (wx_pv C hP hD hS (q := 0) (ci := 9) (Nat.le_of_ble_eq_true rfl) (eM_0 cI ad _) rfl) rfl rfl hl.1 rfl (lv_room (Nat.le_of_ble_eq_true rfl)) dX9_told_14 ⟨Nat.zero_le _, Nat.zero_le _⟩) (fun r14 σ14 H locs h hP hD hS => ?_)
      refine lv_goto (tgt := 26) hx hb dX9_told_17 (by decide) ?_
      exact Rt _ _ _ _ _ _ h hP hD hS dX9_told_26
  rw [eH, eL] at goal
  exact goal
abbrev rmX9_digest : Room := { frames := 7, cells := 0, slots := 0, locals := 174 }
set_option maxRecDepth 20000 in
theorem inX9_digest_X9 : ∀ w ∈ u_ws RX9 TX9 27, w ∈ wsX9_digest := by decide +kernel
theorem nyX9_votes : yX9_votes.cls = RX9 ∧ yX9_votes.cls ≠ "java/lang/invoke/MethodHandle" ∧ yX9_votes.cls ≠ "java/lang/invoke/VarHandle" ∧ (parseMethodDescriptor yX9_votes.desc).map (fun d => d.parameters.length) = some 0 := by decide +kernel
set_option maxRecDepth 100000 in
set_option maxHeartbeats 4000000 in
theorem bX9_digest_32 {p : Program} {l : Launch} {e : Env} {s : State} {m : MethodId} {args : Array Value} {below : List Frame} {meth : Method} {c : Code} {A : Nat → Prop} {Q : State → Prop} {D : va_G} {cI : ClassId} {ad : Nat → Nat} {K : Int64 → wx_Z → Prop} (C : wx_C p s m args c cX9_digest 4 RX9 wsX9_digest D [(cI, .int)] wx_T0 A) (Rt : wx_Rl p l e rmX9_digest s m args below meth c cX9_digest D 14 (wM_E cI ad) ad A K Q) : ∀ (n : Nat) (σ : wx_Z) (y1 : Int64) (x3 : Int32), wpX9_digest_32 K n σ y1 x3 → ∀ (H : Heap) (locs : List Loc) (ls : Array Slot), va_P D vwCl (wx_w 14 (wM_E cI ad) ad σ) H → va_D A (wx_w 14 (wM_E cI ad) ad σ) → va_S A s.heap H locs → lv_has ls 4 [(0, .ref (ad 0)), (1, .long y1), (3, .int x3)] → W p l e rmX9_digest s m args below meth c H locs 0 0 Q (F0 m 32 ls []) := by
  obtain ⟨⟨hx, hb, hml, hown, hts⟩, hA, hK, hRO, hro⟩ := id C
  intro n
  induction n with
  | zero => intro σ y1 x3 h; exact h.elim
  | succ n ih =>
    intro σ y1 x3 h H locs ls hP hD hS hl
    unfold wpX9_digest_32 at h
    refine lv_iload_n hx hb dX9_digest_32 rfl (lv_at hl 2 rfl) ?_
    refine lv_iconst (v := 3) hx hb dX9_digest_33 (by decide) ?_
    refine lv_aload_n hx hb dX9_digest_34 rfl (lv_at hl 0 rfl) ?_
    refine wx_ci C hD hS (va_runV (As := []) (rest := [.int 3, .int x3]) C.1 (mtX9_places (l := l) (D := D) (sz := H.size) h) (cwV 0 hts gX9_digest_X9_places rfl rfl rfl nyX9_places ⟨Nat.le_of_ble_eq_true rfl, Nat.le_of_ble_eq_true rfl⟩) (wx_pv C hP hD hS (q := 0) (ci := 9) (Nat.le_of_ble_eq_true rfl) (eM_0 cI ad _) rfl) rfl rfl hl.1 rfl (lv_room (Nat.le_of_ble_eq_true rfl)) dX9_digest_35 ⟨Nat.zero_le _, Nat.zero_le _⟩) (fun r35 σ35 H locs h hP hD hS => ?_)
    refine lv_iadd hx hb dX9_digest_38 ?_
    refine lv_icmp_ge (tgt := 62) hx hb dX9_digest_39 (by decide) (fun c39 => ?_) (fun c39 => ?_)
    · have h := h.1 c39
      refine lv_aload_n hx hb dX9_digest_62 rfl (lv_at hl 0 rfl) ?_
      refine wx_ci C hD hS (va_runV (As := []) (rest := []) C.1 (mtX9_votes (l := l) (D := D) (sz := H.size) h) (cwV 0 hts gX9_digest_X9_votes rfl rfl rfl nyX9_votes ⟨Nat.le_of_ble_eq_true rfl, Nat.le_of_ble_eq_true rfl⟩) (wx_pv C hP hD hS (q := 0) (ci := 9) (Nat.le_of_ble_eq_true rfl) (eM_0 cI ad _) rfl) rfl rfl hl.1 rfl (lv_room (Nat.le_of_ble_eq_true rfl)) dX9_digest_63 ⟨Nat.zero_le _, Nat.zero_le _⟩) (fun r63 σ63 H locs h hP hD hS => ?_)
      refine lv_istore_n (lv' := [(3, .int r63), (0, .ref (ad 0)), (1, .long y1)]) hx hb dX9_digest_66 rfl hl (by decide) rfl (fun ls hl => ?_)
      refine lv_ldc2 hx hb hown (hts _ (List.mem_of_getElem? (i := 2) rfl)) dX9_digest_67 ?_
      refine lv_ldc2 hx hb hown (hts _ (List.mem_of_getElem? (i := 2) rfl)) dX9_digest_70 ?_
      refine lv_lload_n hx hb dX9_digest_73 rfl (lv_at hl 2 rfl) ?_
      refine lv_lmul hx hb dX9_digest_74 ?_
      refine lv_iload_n hx hb dX9_digest_75 rfl (lv_at hl 0 rfl) ?_
      refine lv_i2l (v := Int32.toInt64 r63) hx hb dX9_digest_76 rfl ?_
      refine lv_ladd hx hb dX9_digest_77 ?_
      refine lv_lmul hx hb dX9_digest_78 ?_
      refine lv_aload_n hx hb dX9_digest_79 rfl (lv_at hl 1 rfl) ?_
      refine wx_ci C hD hS (va_runV (As := []) (rest := [.long (31 * ((31 * y1) + (Int32.toInt64 r63)))]) C.1 (mtX9_halvesOf (l := l) (D := D) (sz := H.size) h) (cwV 0 hts gX9_digest_X9_halvesOf rfl rfl rfl nyX9_halvesOf ⟨Nat.le_of_ble_eq_true rfl, Nat.le_of_ble_eq_true rfl⟩) (wx_pv C hP hD hS (q := 0) (ci := 9) (Nat.le_of_ble_eq_true rfl) (eM_0 cI ad _) rfl) rfl rfl hl.1 rfl (lv_room (Nat.le_of_ble_eq_true rfl)) dX9_digest_80 ⟨Nat.zero_le _, Nat.zero_le _⟩) (fun r80 σ80 H locs h hP hD hS => ?_)
      refine lv_i2l (v := Int32.toInt64 r80) hx hb dX9_digest_83 rfl ?_
      refine lv_ladd hx hb dX9_digest_84 ?_
      exact Rt _ _ _ _ _ _ h hP hD hS dX9_digest_85
    · have h := h.2 c39
      refine lv_ldc2 hx hb hown (hts _ (List.mem_of_getElem? (i := 2) rfl)) dX9_digest_42 ?_
      refine lv_lload_n hx hb dX9_digest_45 rfl (lv_at hl 1 rfl) ?_
      refine lv_lmul hx hb dX9_digest_46 ?_
      refine lv_aload_n hx hb dX9_digest_47 rfl (lv_at hl 0 rfl) ?_
      refine wx_get C hP (q := 0) (ci := 9) (Nat.le_of_ble_eq_true rfl) (eM_0 cI ad _) (Cn := RX9) (T := TX9) (Nf := 27) rfl inX9_digest_X9 0 (by decide) (List.mem_of_getElem? (i := 3) rfl) (v := .ref (ad 1)) rfl dX9_digest_48 ?_
      refine lv_iload_n hx hb dX9_digest_51 rfl (lv_at hl 2 rfl) ?_
      refine wx_ild C hP (q := 1) (Nat.le_of_ble_eq_true rfl) (fun _ => rfl) 0 rfl h.1 dX9_digest_52 ?_
      have h := h.2
      refine lv_i2l (v := Int32.toInt64 (σ35 1 (Int32.toNatClampNeg x3))) hx hb dX9_digest_53 rfl ?_
      refine lv_ladd hx hb dX9_digest_54 ?_
      refine lv_topl (fun t55 e_t55 => ?_)
      have h := h t55 e_t55
      refine lv_lstore_n (lv' := [(1, .long t55), (0, .ref (ad 0)), (3, .int x3)]) hx hb dX9_digest_55 rfl hl (by decide) rfl (fun ls hl => ?_)
      obtain ⟨t56, e_t56⟩ : ∃ y : Int32, y = x3 + 1 := ⟨_, rfl⟩
      have h := h t56 e_t56
      refine lv_iinc (v := t56) (lv' := [(3, .int t56), (1, .long t55), (0, .ref (ad 0))]) hx hb dX9_digest_56 hl (k := 2) rfl (by rw [e_t56]; rfl) (by decide) rfl (fun ls hl => ?_)
      refine lv_goto (tgt := 32) hx hb dX9_digest_59 (by decide) ?_
      exact ih σ35 t55 t56  h _ _ _ hP hD hS (lv_sub hl [2, 1, 0] rfl)
set_option maxRecDepth 100000 in
set_option maxHeartbeats 4000000 in
theorem bX9_digest_6 {p : Program} {l : Launch} {e : Env} {s : State} {m : MethodId} {args : Array Value} {below : List Frame} {meth : Method} {c : Code} {A : Nat → Prop} {Q : State → Prop} {D : va_G} {cI : ClassId} {ad : Nat → Nat} {K : Int64 → wx_Z → Prop} (C : wx_C p s m args c cX9_digest 4 RX9 wsX9_digest D [(cI, .int)] wx_T0 A) (Rt : wx_Rl p l e rmX9_digest s m args below meth c cX9_digest D 14 (wM_E cI ad) ad A K Q) : ∀ (n : Nat) (σ : wx_Z) (y1 : Int64) (x3 : Int32), wpX9_digest_6 K n σ y1 x3 → ∀ (H : Heap) (locs : List Loc) (ls : Array Slot), va_P D vwCl (wx_w 14 (wM_E cI ad) ad σ) H → va_D A (wx_w 14 (wM_E cI ad) ad σ) → va_S A s.heap H locs → lv_has ls 4 [(0, .ref (ad 0)), (1, .long y1), (3, .int x3)] → W p l e rmX9_digest s m args below meth c H locs 0 0 Q (F0 m 6 ls []) := by
  obtain ⟨⟨hx, hb, hml, hown, hts⟩, hA, hK, hRO, hro⟩ := id C
  intro n
  induction n with
  | zero => intro σ y1 x3 h; exact h.elim
  | succ n ih =>
    intro σ y1 x3 h H locs ls hP hD hS hl
    unfold wpX9_digest_6 at h
    refine lv_iload_n hx hb dX9_digest_6 rfl (lv_at hl 2 rfl) ?_
    refine lv_iconst (v := 5) hx hb dX9_digest_7 (by decide) ?_
    refine lv_icmp_ge (tgt := 30) hx hb dX9_digest_8 (by decide) (fun c8 => ?_) (fun c8 => ?_)
    · have h := h.1 c8
      refine lv_iconst (v := 0) hx hb dX9_digest_30 (by decide) ?_
      refine lv_istore_n (lv' := [(3, .int 0), (0, .ref (ad 0)), (1, .long y1)]) hx hb dX9_digest_31 rfl hl (by decide) rfl (fun ls hl => ?_)
      obtain ⟨n32, h⟩ := h
      exact bX9_digest_32 C Rt n32 σ y1 0  h _ _ _ hP hD hS (lv_sub hl [1, 2, 0] rfl)
    · have h := h.2 c8
      refine lv_ldc2 hx hb hown (hts _ (List.mem_of_getElem? (i := 2) rfl)) dX9_digest_11 ?_
      refine lv_lload_n hx hb dX9_digest_14 rfl (lv_at hl 1 rfl) ?_
      refine lv_lmul hx hb dX9_digest_15 ?_
      refine lv_aload_n hx hb dX9_digest_16 rfl (lv_at hl 0 rfl) ?_
      refine lv_iload_n hx hb dX9_digest_17 rfl (lv_at hl 2 rfl) ?_
      refine wx_ci C hD hS (va_runV (As := [.int x3]) (rest := [.long (31 * y1)]) C.1 (mtX9_toldOf (l := l) (D := D) (sz := H.size) h) (cwV 1 hts gX9_digest_X9_toldOf rfl rfl rfl nyX9_toldOf ⟨Nat.le_of_ble_eq_true rfl, Nat.le_of_ble_eq_true rfl⟩) (wx_pv C hP hD hS (q := 0) (ci := 9) (Nat.le_of_ble_eq_true rfl) (eM_0 cI ad _) rfl) rfl rfl hl.1 rfl (lv_room (Nat.le_of_ble_eq_true rfl)) dX9_digest_18 ⟨Nat.zero_le _, Nat.zero_le _⟩) (fun r18 σ18 H locs h hP hD hS => ?_)
      refine lv_i2l (v := Int32.toInt64 r18) hx hb dX9_digest_21 rfl ?_
      refine lv_ladd hx hb dX9_digest_22 ?_
      refine lv_topl (fun t23 e_t23 => ?_)
      have h := h t23 e_t23
      refine lv_lstore_n (lv' := [(1, .long t23), (0, .ref (ad 0)), (3, .int x3)]) hx hb dX9_digest_23 rfl hl (by decide) rfl (fun ls hl => ?_)
      obtain ⟨t24, e_t24⟩ : ∃ y : Int32, y = x3 + 1 := ⟨_, rfl⟩
      have h := h t24 e_t24
      refine lv_iinc (v := t24) (lv' := [(3, .int t24), (1, .long t23), (0, .ref (ad 0))]) hx hb dX9_digest_24 hl (k := 2) rfl (by rw [e_t24]; rfl) (by decide) rfl (fun ls hl => ?_)
      refine lv_goto (tgt := 6) hx hb dX9_digest_27 (by decide) ?_
      exact ih σ18 t23 t24  h _ _ _ hP hD hS (lv_sub hl [2, 1, 0] rfl)
set_option maxRecDepth 100000 in
set_option maxHeartbeats 4000000 in
theorem mtX9_digest {l : Launch} {D : va_G} {cI : ClassId} {ad : Nat → Nat} {sz : Nat} {σ : wx_Z} {K : Int64 → wx_Z → Prop} (h : wpX9_digest σ K) : Met l yX9_digest wsX9_digest rmX9_digest (wx_Pre D [(cI, .int)] wx_T0 14 (wM_E cI ad) ad σ sz [.ref (ad 0)]) (va_Ql K (wx_B D [(cI, .int)] 14 (wM_E cI ad) ad (va_A (wx_w 14 (wM_E cI ad) ad σ) sz)) (va_A (wx_w 14 (wM_E cI ad) ad σ) sz)) 0 0 (va_A (wx_w 14 (wM_E cI ad) ad σ) sz) := by
  unfold wpX9_digest at h
  refine wx_metl (cc := cX9_digest) (maxL := 4) (own := RX9) rfl (by decide) rfl (Nat.le_of_ble_eq_true rfl) wx_T0_ok ?_
  intro p e s m args below meth c A Q ls C Rt hP hD hS hl
  obtain ⟨⟨hx, hb, hml, hown, hts⟩, hA, hK, hRO, hro⟩ := id C
  have hl : lv_has ls 4 [(0, .ref (ad 0))] := hl
  obtain ⟨H, eH⟩ : ∃ z, z = s.heap := ⟨_, rfl⟩
  obtain ⟨locs, eL⟩ : ∃ z : List Loc, z = [] := ⟨_, rfl⟩
  rw [← eH] at hP
  have hS : va_S A s.heap H locs := by rw [eH, eL]; exact hS
  have goal : W p l e rmX9_digest s m args below meth c H locs 0 0 Q (F0 m 0 ls []) := by
    refine lv_ldc2 hx hb hown (hts _ (List.mem_of_getElem? (i := 1) rfl)) dX9_digest_0 ?_
    refine lv_lstore_n (lv' := [(1, .long 2111), (0, .ref (ad 0))]) hx hb dX9_digest_3 rfl hl (by decide) rfl (fun ls hl => ?_)
    refine lv_iconst (v := 0) hx hb dX9_digest_4 (by decide) ?_
    refine lv_istore_n (lv' := [(3, .int 0), (1, .long 2111), (0, .ref (ad 0))]) hx hb dX9_digest_5 rfl hl (by decide) rfl (fun ls hl => ?_)
    obtain ⟨n6, h⟩ := h
    exact bX9_digest_6 C Rt n6 σ 2111 0  h _ _ _ hP hD hS (lv_sub hl [2, 1, 0] rfl)
  rw [eH, eL] at goal
  exact goal

set_option maxHeartbeats 4000000 in
set_option maxRecDepth 100000 in
theorem lw_k1 {p : Program} {l : Launch} {e : Env} {s : State} {m : MethodId} {below : List Frame} {meth : Method} {c : Code} {H : Heap} {locs : List Loc} {Q : State → Prop} {D : va_G} {cI cB cS cR : ClassId} {tS tP : Nat} {kS vS : Nat → Nat} {adC adM : Nat → Nat} {b L i : Nat} {xs : Nat → Int32} {σ τ : wx_Z} {ls : Array Slot} (C0 : LX p s m c D cI cB cS cR tS tP kS vS b L xs) (hi : i + 2 < L) (hR : RR σ τ) (hP : va_P D vwCl (wx_w 58 (wC_E cI cB cS cR adC) adC σ ++ wx_w 14 (wM_E cI adM) adM τ) H) (hD : va_D (lwA s) (wx_w 58 (wC_E cI cB cS cR adC) adC σ ++ wx_w 14 (wM_E cI adM) adM τ)) (hS : va_S (lwA s) s.heap H locs) (hl : lv_has ls 4 [(0, .ref b), (1, .ref (adC 0)), (2, .ref (adM 0)), (3, .int (nI i))]) (nxt : ∀ (σ' τ' : wx_Z) (H : Heap) (locs : List Loc), RR σ' τ' → va_P D vwCl (wx_w 58 (wC_E cI cB cS cR adC) adC σ' ++ wx_w 14 (wM_E cI adM) adM τ') H → va_D (lwA s) (wx_w 58 (wC_E cI cB cS cR adC) adC σ' ++ wx_w 14 (wM_E cI adM) adM τ') → va_S (lwA s) s.heap H locs → W p l e room_1 s m #[Value.ref b] below meth c H locs 72 2932 Q (F0 m 823 ls [])) : W p l e room_1 s m #[Value.ref b] below meth c H locs 72 2932 Q (F0 m 209 ls []) := by
  obtain ⟨C, hX, hbl, hL⟩ := C0
  obtain ⟨⟨hx, hb, hml, hown, hts⟩, hA, hK, -, hro⟩ := id C
  have CM : wx_C p s m #[Value.ref b] c cL_law 4 RL wsL_law D [(cI, .int)] wx_T0 (lwA s) := ⟨C.1, hA, hK.sub [0] rfl, wx_T0_ok, trivial⟩
  have hbA : ¬ lwA s b := Nat.not_le.mpr hbl
  have i1 : vp_in (nI i + 1) L := by rw [nI_1]; exact vp_in_nI (by omega) (by omega)
  have i2 : vp_in (nI i + 2) L := by rw [show (2 : Int32) = nI 2 from rfl, nI_add]; exact vp_in_nI (by omega) (by omega)
  have h := e_of (xs (nI i + 1).toNatClampNeg) hR
  refine lv_aload_n hx hb dL_law_209 rfl (lv_at hl 1 rfl) ?_
  refine lv_aload_n hx hb dL_law_210 rfl (lv_at hl 0 rfl) ?_
  refine lv_iload_n hx hb dL_law_211 rfl (lv_at hl 3 rfl) ?_
  refine lv_iconst (v := 1) hx hb dL_law_212 (by decide) ?_
  refine lv_iadd hx hb dL_law_213 ?_
  refine va_sld hx hb hX hbl hbA hS i1 dL_law_214 ?_
  refine lw_ci hA hP hD hS (va_runV (As := [.int (xs (nI i + 1).toNatClampNeg)]) (rest := []) C.1 (mtX8_of (l := l) (D := D) (sz := H.size) h) (cwV 1 hts gL_law_X8_of rfl rfl rfl (by decide +kernel) ⟨Nat.le_of_ble_eq_true rfl, Nat.le_of_ble_eq_true rfl⟩) (wx_pv C (lw_left hP) (lw_leftD hD) hS (q := 0) (ci := 8) (by decide) (eC_0 _) rfl) rfl rfl hl.1 rfl (lv_room (Nat.le_of_ble_eq_true rfl)) dL_law_215 ⟨Nat.le_of_ble_eq_true rfl, Nat.le_of_ble_eq_true rfl⟩) (fun r1 σ' H locs h hP hD hS => ?_)
  refine lv_aload_n hx hb dL_law_218 rfl (lv_at hl 2 rfl) ?_
  refine lv_aload_n hx hb dL_law_219 rfl (lv_at hl 0 rfl) ?_
  refine lv_iload_n hx hb dL_law_220 rfl (lv_at hl 3 rfl) ?_
  refine lv_iconst (v := 1) hx hb dL_law_221 (by decide) ?_
  refine lv_iadd hx hb dL_law_222 ?_
  refine va_sld hx hb hX hbl hbA hS i1 dL_law_223 ?_
  refine lw_ci hA hP hD hS (va_runV (As := [.int (xs (nI i + 1).toNatClampNeg)]) (rest := [.int r1]) CM.1 (mtX9_of (l := l) (D := D) (sz := H.size) h) (cwV 1 hts gL_law_X9_of rfl rfl rfl (by decide +kernel) ⟨Nat.le_of_ble_eq_true rfl, Nat.le_of_ble_eq_true rfl⟩) (wx_pv CM (lw_left hP) (lw_leftD hD) hS (q := 0) (ci := 9) (by decide) (eM_0 _ _ _) rfl) rfl rfl hl.1 rfl (lv_room (Nat.le_of_ble_eq_true rfl)) dL_law_224 ⟨Nat.le_of_ble_eq_true rfl, Nat.le_of_ble_eq_true rfl⟩) (fun r2 τ' H locs h hP hD hS => ?_)
  exact lv_icmp_eq (tgt := 823) hx hb dL_law_227 (by decide) (fun _ => nxt σ' τ' H locs h.2 hP hD hS) (fun z => absurd h.1 z)
set_option maxHeartbeats 4000000 in
set_option maxRecDepth 100000 in
theorem lw_k2 {p : Program} {l : Launch} {e : Env} {s : State} {m : MethodId} {below : List Frame} {meth : Method} {c : Code} {H : Heap} {locs : List Loc} {Q : State → Prop} {D : va_G} {cI cB cS cR : ClassId} {tS tP : Nat} {kS vS : Nat → Nat} {adC adM : Nat → Nat} {b L i : Nat} {xs : Nat → Int32} {σ τ : wx_Z} {ls : Array Slot} (C0 : LX p s m c D cI cB cS cR tS tP kS vS b L xs) (hi : i + 2 < L) (hR : RR σ τ) (hP : va_P D vwCl (wx_w 58 (wC_E cI cB cS cR adC) adC σ ++ wx_w 14 (wM_E cI adM) adM τ) H) (hD : va_D (lwA s) (wx_w 58 (wC_E cI cB cS cR adC) adC σ ++ wx_w 14 (wM_E cI adM) adM τ)) (hS : va_S (lwA s) s.heap H locs) (hl : lv_has ls 4 [(0, .ref b), (1, .ref (adC 0)), (2, .ref (adM 0)), (3, .int (nI i))]) (nxt : ∀ (σ' τ' : wx_Z) (H : Heap) (locs : List Loc), RR σ' τ' → va_P D vwCl (wx_w 58 (wC_E cI cB cS cR adC) adC σ' ++ wx_w 14 (wM_E cI adM) adM τ') H → va_D (lwA s) (wx_w 58 (wC_E cI cB cS cR adC) adC σ' ++ wx_w 14 (wM_E cI adM) adM τ') → va_S (lwA s) s.heap H locs → W p l e room_1 s m #[Value.ref b] below meth c H locs 72 2932 Q (F0 m 823 ls [])) : W p l e room_1 s m #[Value.ref b] below meth c H locs 72 2932 Q (F0 m 232 ls []) := by
  obtain ⟨C, hX, hbl, hL⟩ := C0
  obtain ⟨⟨hx, hb, hml, hown, hts⟩, hA, hK, -, hro⟩ := id C
  have CM : wx_C p s m #[Value.ref b] c cL_law 4 RL wsL_law D [(cI, .int)] wx_T0 (lwA s) := ⟨C.1, hA, hK.sub [0] rfl, wx_T0_ok, trivial⟩
  have hbA : ¬ lwA s b := Nat.not_le.mpr hbl
  have i1 : vp_in (nI i + 1) L := by rw [nI_1]; exact vp_in_nI (by omega) (by omega)
  have i2 : vp_in (nI i + 2) L := by rw [show (2 : Int32) = nI 2 from rfl, nI_add]; exact vp_in_nI (by omega) (by omega)
  have h := e_term (xs (nI i + 1).toNatClampNeg) hR
  refine lv_aload_n hx hb dL_law_232 rfl (lv_at hl 1 rfl) ?_
  refine lv_aload_n hx hb dL_law_233 rfl (lv_at hl 0 rfl) ?_
  refine lv_iload_n hx hb dL_law_234 rfl (lv_at hl 3 rfl) ?_
  refine lv_iconst (v := 1) hx hb dL_law_235 (by decide) ?_
  refine lv_iadd hx hb dL_law_236 ?_
  refine va_sld hx hb hX hbl hbA hS i1 dL_law_237 ?_
  refine lw_ci hA hP hD hS (va_runV (As := [.int (xs (nI i + 1).toNatClampNeg)]) (rest := []) C.1 (mtX8_term (l := l) (D := D) (sz := H.size) h) (cwV 1 hts gL_law_X8_term rfl rfl rfl (by decide +kernel) ⟨Nat.le_of_ble_eq_true rfl, Nat.le_of_ble_eq_true rfl⟩) (wx_pv C (lw_left hP) (lw_leftD hD) hS (q := 0) (ci := 8) (by decide) (eC_0 _) rfl) rfl rfl hl.1 rfl (lv_room (Nat.le_of_ble_eq_true rfl)) dL_law_238 ⟨Nat.le_of_ble_eq_true rfl, Nat.le_of_ble_eq_true rfl⟩) (fun r1 σ' H locs h hP hD hS => ?_)
  refine lv_aload_n hx hb dL_law_241 rfl (lv_at hl 2 rfl) ?_
  refine lv_aload_n hx hb dL_law_242 rfl (lv_at hl 0 rfl) ?_
  refine lv_iload_n hx hb dL_law_243 rfl (lv_at hl 3 rfl) ?_
  refine lv_iconst (v := 1) hx hb dL_law_244 (by decide) ?_
  refine lv_iadd hx hb dL_law_245 ?_
  refine va_sld hx hb hX hbl hbA hS i1 dL_law_246 ?_
  refine lw_ci hA hP hD hS (va_runV (As := [.int (xs (nI i + 1).toNatClampNeg)]) (rest := [.int r1]) CM.1 (mtX9_term (l := l) (D := D) (sz := H.size) h) (cwV 1 hts gL_law_X9_term rfl rfl rfl (by decide +kernel) ⟨Nat.le_of_ble_eq_true rfl, Nat.le_of_ble_eq_true rfl⟩) (wx_pv CM (lw_left hP) (lw_leftD hD) hS (q := 0) (ci := 9) (by decide) (eM_0 _ _ _) rfl) rfl rfl hl.1 rfl (lv_room (Nat.le_of_ble_eq_true rfl)) dL_law_247 ⟨Nat.le_of_ble_eq_true rfl, Nat.le_of_ble_eq_true rfl⟩) (fun r2 τ' H locs h hP hD hS => ?_)
  exact lv_icmp_eq (tgt := 823) hx hb dL_law_250 (by decide) (fun _ => nxt σ' τ' H locs h.2 hP hD hS) (fun z => absurd h.1 z)
set_option maxHeartbeats 4000000 in
set_option maxRecDepth 100000 in
theorem lw_k3 {p : Program} {l : Launch} {e : Env} {s : State} {m : MethodId} {below : List Frame} {meth : Method} {c : Code} {H : Heap} {locs : List Loc} {Q : State → Prop} {D : va_G} {cI cB cS cR : ClassId} {tS tP : Nat} {kS vS : Nat → Nat} {adC adM : Nat → Nat} {b L i : Nat} {xs : Nat → Int32} {σ τ : wx_Z} {ls : Array Slot} (C0 : LX p s m c D cI cB cS cR tS tP kS vS b L xs) (hi : i + 2 < L) (hR : RR σ τ) (hP : va_P D vwCl (wx_w 58 (wC_E cI cB cS cR adC) adC σ ++ wx_w 14 (wM_E cI adM) adM τ) H) (hD : va_D (lwA s) (wx_w 58 (wC_E cI cB cS cR adC) adC σ ++ wx_w 14 (wM_E cI adM) adM τ)) (hS : va_S (lwA s) s.heap H locs) (hl : lv_has ls 4 [(0, .ref b), (1, .ref (adC 0)), (2, .ref (adM 0)), (3, .int (nI i))]) (nxt : ∀ (σ' τ' : wx_Z) (H : Heap) (locs : List Loc), RR σ' τ' → va_P D vwCl (wx_w 58 (wC_E cI cB cS cR adC) adC σ' ++ wx_w 14 (wM_E cI adM) adM τ') H → va_D (lwA s) (wx_w 58 (wC_E cI cB cS cR adC) adC σ' ++ wx_w 14 (wM_E cI adM) adM τ') → va_S (lwA s) s.heap H locs → W p l e room_1 s m #[Value.ref b] below meth c H locs 72 2932 Q (F0 m 823 ls [])) : W p l e room_1 s m #[Value.ref b] below meth c H locs 72 2932 Q (F0 m 255 ls []) := by
  obtain ⟨C, hX, hbl, hL⟩ := C0
  obtain ⟨⟨hx, hb, hml, hown, hts⟩, hA, hK, -, hro⟩ := id C
  have CM : wx_C p s m #[Value.ref b] c cL_law 4 RL wsL_law D [(cI, .int)] wx_T0 (lwA s) := ⟨C.1, hA, hK.sub [0] rfl, wx_T0_ok, trivial⟩
  have hbA : ¬ lwA s b := Nat.not_le.mpr hbl
  have i1 : vp_in (nI i + 1) L := by rw [nI_1]; exact vp_in_nI (by omega) (by omega)
  have i2 : vp_in (nI i + 2) L := by rw [show (2 : Int32) = nI 2 from rfl, nI_add]; exact vp_in_nI (by omega) (by omega)
  have h := e_word (xs (nI i + 1).toNatClampNeg) hR
  refine lv_aload_n hx hb dL_law_255 rfl (lv_at hl 1 rfl) ?_
  refine lv_aload_n hx hb dL_law_256 rfl (lv_at hl 0 rfl) ?_
  refine lv_iload_n hx hb dL_law_257 rfl (lv_at hl 3 rfl) ?_
  refine lv_iconst (v := 1) hx hb dL_law_258 (by decide) ?_
  refine lv_iadd hx hb dL_law_259 ?_
  refine va_sld hx hb hX hbl hbA hS i1 dL_law_260 ?_
  refine lw_ci hA hP hD hS (va_runV (As := [.int (xs (nI i + 1).toNatClampNeg)]) (rest := []) C.1 (mtX8_word (l := l) (D := D) (sz := H.size) h) (cwV 1 hts gL_law_X8_word rfl rfl rfl (by decide +kernel) ⟨Nat.le_of_ble_eq_true rfl, Nat.le_of_ble_eq_true rfl⟩) (wx_pv C (lw_left hP) (lw_leftD hD) hS (q := 0) (ci := 8) (by decide) (eC_0 _) rfl) rfl rfl hl.1 rfl (lv_room (Nat.le_of_ble_eq_true rfl)) dL_law_261 ⟨Nat.le_of_ble_eq_true rfl, Nat.le_of_ble_eq_true rfl⟩) (fun r1 σ' H locs h hP hD hS => ?_)
  refine lv_aload_n hx hb dL_law_264 rfl (lv_at hl 2 rfl) ?_
  refine lv_aload_n hx hb dL_law_265 rfl (lv_at hl 0 rfl) ?_
  refine lv_iload_n hx hb dL_law_266 rfl (lv_at hl 3 rfl) ?_
  refine lv_iconst (v := 1) hx hb dL_law_267 (by decide) ?_
  refine lv_iadd hx hb dL_law_268 ?_
  refine va_sld hx hb hX hbl hbA hS i1 dL_law_269 ?_
  refine lw_ci hA hP hD hS (va_runV (As := [.int (xs (nI i + 1).toNatClampNeg)]) (rest := [.int r1]) CM.1 (mtX9_word (l := l) (D := D) (sz := H.size) h) (cwV 1 hts gL_law_X9_word rfl rfl rfl (by decide +kernel) ⟨Nat.le_of_ble_eq_true rfl, Nat.le_of_ble_eq_true rfl⟩) (wx_pv CM (lw_left hP) (lw_leftD hD) hS (q := 0) (ci := 9) (by decide) (eM_0 _ _ _) rfl) rfl rfl hl.1 rfl (lv_room (Nat.le_of_ble_eq_true rfl)) dL_law_270 ⟨Nat.le_of_ble_eq_true rfl, Nat.le_of_ble_eq_true rfl⟩) (fun r2 τ' H locs h hP hD hS => ?_)
  exact lv_icmp_eq (tgt := 823) hx hb dL_law_273 (by decide) (fun _ => nxt σ' τ' H locs h.2 hP hD hS) (fun z => absurd h.1 z)
set_option maxHeartbeats 4000000 in
set_option maxRecDepth 100000 in
theorem lw_k4 {p : Program} {l : Launch} {e : Env} {s : State} {m : MethodId} {below : List Frame} {meth : Method} {c : Code} {H : Heap} {locs : List Loc} {Q : State → Prop} {D : va_G} {cI cB cS cR : ClassId} {tS tP : Nat} {kS vS : Nat → Nat} {adC adM : Nat → Nat} {b L i : Nat} {xs : Nat → Int32} {σ τ : wx_Z} {ls : Array Slot} (C0 : LX p s m c D cI cB cS cR tS tP kS vS b L xs) (hi : i + 2 < L) (hR : RR σ τ) (hP : va_P D vwCl (wx_w 58 (wC_E cI cB cS cR adC) adC σ ++ wx_w 14 (wM_E cI adM) adM τ) H) (hD : va_D (lwA s) (wx_w 58 (wC_E cI cB cS cR adC) adC σ ++ wx_w 14 (wM_E cI adM) adM τ)) (hS : va_S (lwA s) s.heap H locs) (hl : lv_has ls 4 [(0, .ref b), (1, .ref (adC 0)), (2, .ref (adM 0)), (3, .int (nI i))]) (nxt : ∀ (σ' τ' : wx_Z) (H : Heap) (locs : List Loc), RR σ' τ' → va_P D vwCl (wx_w 58 (wC_E cI cB cS cR adC) adC σ' ++ wx_w 14 (wM_E cI adM) adM τ') H → va_D (lwA s) (wx_w 58 (wC_E cI cB cS cR adC) adC σ' ++ wx_w 14 (wM_E cI adM) adM τ') → va_S (lwA s) s.heap H locs → W p l e room_1 s m #[Value.ref b] below meth c H locs 72 2932 Q (F0 m 823 ls [])) : W p l e room_1 s m #[Value.ref b] below meth c H locs 72 2932 Q (F0 m 278 ls []) := by
  obtain ⟨C, hX, hbl, hL⟩ := C0
  obtain ⟨⟨hx, hb, hml, hown, hts⟩, hA, hK, -, hro⟩ := id C
  have CM : wx_C p s m #[Value.ref b] c cL_law 4 RL wsL_law D [(cI, .int)] wx_T0 (lwA s) := ⟨C.1, hA, hK.sub [0] rfl, wx_T0_ok, trivial⟩
  have hbA : ¬ lwA s b := Nat.not_le.mpr hbl
  have i1 : vp_in (nI i + 1) L := by rw [nI_1]; exact vp_in_nI (by omega) (by omega)
  have i2 : vp_in (nI i + 2) L := by rw [show (2 : Int32) = nI 2 from rfl, nI_add]; exact vp_in_nI (by omega) (by omega)
  have h := e_encode (xs (nI i + 1).toNatClampNeg) hR
  refine lv_aload_n hx hb dL_law_278 rfl (lv_at hl 1 rfl) ?_
  refine lv_aload_n hx hb dL_law_279 rfl (lv_at hl 0 rfl) ?_
  refine lv_iload_n hx hb dL_law_280 rfl (lv_at hl 3 rfl) ?_
  refine lv_iconst (v := 1) hx hb dL_law_281 (by decide) ?_
  refine lv_iadd hx hb dL_law_282 ?_
  refine va_sld hx hb hX hbl hbA hS i1 dL_law_283 ?_
  refine lw_ci hA hP hD hS (va_runV (As := [.int (xs (nI i + 1).toNatClampNeg)]) (rest := []) C.1 (mtX8_encode (l := l) (D := D) (sz := H.size) h) (cwV 1 hts gL_law_X8_encode rfl rfl rfl (by decide +kernel) ⟨Nat.le_of_ble_eq_true rfl, Nat.le_of_ble_eq_true rfl⟩) (wx_pv C (lw_left hP) (lw_leftD hD) hS (q := 0) (ci := 8) (by decide) (eC_0 _) rfl) rfl rfl hl.1 rfl (lv_room (Nat.le_of_ble_eq_true rfl)) dL_law_284 ⟨Nat.le_of_ble_eq_true rfl, Nat.le_of_ble_eq_true rfl⟩) (fun r1 σ' H locs h hP hD hS => ?_)
  refine lv_aload_n hx hb dL_law_287 rfl (lv_at hl 2 rfl) ?_
  refine lv_aload_n hx hb dL_law_288 rfl (lv_at hl 0 rfl) ?_
  refine lv_iload_n hx hb dL_law_289 rfl (lv_at hl 3 rfl) ?_
  refine lv_iconst (v := 1) hx hb dL_law_290 (by decide) ?_
  refine lv_iadd hx hb dL_law_291 ?_
  refine va_sld hx hb hX hbl hbA hS i1 dL_law_292 ?_
  refine lw_ci hA hP hD hS (va_runV (As := [.int (xs (nI i + 1).toNatClampNeg)]) (rest := [.int r1]) CM.1 (mtX9_encode (l := l) (D := D) (sz := H.size) h) (cwV 1 hts gL_law_X9_encode rfl rfl rfl (by decide +kernel) ⟨Nat.le_of_ble_eq_true rfl, Nat.le_of_ble_eq_true rfl⟩) (wx_pv CM (lw_left hP) (lw_leftD hD) hS (q := 0) (ci := 9) (by decide) (eM_0 _ _ _) rfl) rfl rfl hl.1 rfl (lv_room (Nat.le_of_ble_eq_true rfl)) dL_law_293 ⟨Nat.le_of_ble_eq_true rfl, Nat.le_of_ble_eq_true rfl⟩) (fun r2 τ' H locs h hP hD hS => ?_)
  exact lv_icmp_eq (tgt := 823) hx hb dL_law_296 (by decide) (fun _ => nxt σ' τ' H locs h.2 hP hD hS) (fun z => absurd h.1 z)
set_option maxHeartbeats 4000000 in
set_option maxRecDepth 100000 in
theorem lw_k5 {p : Program} {l : Launch} {e : Env} {s : State} {m : MethodId} {below : List Frame} {meth : Method} {c : Code} {H : Heap} {locs : List Loc} {Q : State → Prop} {D : va_G} {cI cB cS cR : ClassId} {tS tP : Nat} {kS vS : Nat → Nat} {adC adM : Nat → Nat} {b L i : Nat} {xs : Nat → Int32} {σ τ : wx_Z} {ls : Array Slot} (C0 : LX p s m c D cI cB cS cR tS tP kS vS b L xs) (hi : i + 2 < L) (hR : RR σ τ) (hP : va_P D vwCl (wx_w 58 (wC_E cI cB cS cR adC) adC σ ++ wx_w 14 (wM_E cI adM) adM τ) H) (hD : va_D (lwA s) (wx_w 58 (wC_E cI cB cS cR adC) adC σ ++ wx_w 14 (wM_E cI adM) adM τ)) (hS : va_S (lwA s) s.heap H locs) (hl : lv_has ls 4 [(0, .ref b), (1, .ref (adC 0)), (2, .ref (adM 0)), (3, .int (nI i))]) (nxt : ∀ (σ' τ' : wx_Z) (H : Heap) (locs : List Loc), RR σ' τ' → va_P D vwCl (wx_w 58 (wC_E cI cB cS cR adC) adC σ' ++ wx_w 14 (wM_E cI adM) adM τ') H → va_D (lwA s) (wx_w 58 (wC_E cI cB cS cR adC) adC σ' ++ wx_w 14 (wM_E cI adM) adM τ') → va_S (lwA s) s.heap H locs → W p l e room_1 s m #[Value.ref b] below meth c H locs 72 2932 Q (F0 m 823 ls [])) : W p l e room_1 s m #[Value.ref b] below meth c H locs 72 2932 Q (F0 m 301 ls []) := by
  obtain ⟨C, hX, hbl, hL⟩ := C0
  obtain ⟨⟨hx, hb, hml, hown, hts⟩, hA, hK, -, hro⟩ := id C
  have CM : wx_C p s m #[Value.ref b] c cL_law 4 RL wsL_law D [(cI, .int)] wx_T0 (lwA s) := ⟨C.1, hA, hK.sub [0] rfl, wx_T0_ok, trivial⟩
  have hbA : ¬ lwA s b := Nat.not_le.mpr hbl
  have i1 : vp_in (nI i + 1) L := by rw [nI_1]; exact vp_in_nI (by omega) (by omega)
  have i2 : vp_in (nI i + 2) L := by rw [show (2 : Int32) = nI 2 from rfl, nI_add]; exact vp_in_nI (by omega) (by omega)
  have h := e_flip (xs (nI i + 1).toNatClampNeg) hR
  refine lv_aload_n hx hb dL_law_301 rfl (lv_at hl 1 rfl) ?_
  refine lv_aload_n hx hb dL_law_302 rfl (lv_at hl 0 rfl) ?_
  refine lv_iload_n hx hb dL_law_303 rfl (lv_at hl 3 rfl) ?_
  refine lv_iconst (v := 1) hx hb dL_law_304 (by decide) ?_
  refine lv_iadd hx hb dL_law_305 ?_
  refine va_sld hx hb hX hbl hbA hS i1 dL_law_306 ?_
  refine lw_ci hA hP hD hS (va_runV (As := [.int (xs (nI i + 1).toNatClampNeg)]) (rest := []) C.1 (mtX8_flip (l := l) (D := D) (sz := H.size) h) (cwV 1 hts gL_law_X8_flip rfl rfl rfl (by decide +kernel) ⟨Nat.le_of_ble_eq_true rfl, Nat.le_of_ble_eq_true rfl⟩) (wx_pv C (lw_left hP) (lw_leftD hD) hS (q := 0) (ci := 8) (by decide) (eC_0 _) rfl) rfl rfl hl.1 rfl (lv_room (Nat.le_of_ble_eq_true rfl)) dL_law_307 ⟨Nat.le_of_ble_eq_true rfl, Nat.le_of_ble_eq_true rfl⟩) (fun r1 σ' H locs h hP hD hS => ?_)
  refine lv_aload_n hx hb dL_law_310 rfl (lv_at hl 2 rfl) ?_
  refine lv_aload_n hx hb dL_law_311 rfl (lv_at hl 0 rfl) ?_
  refine lv_iload_n hx hb dL_law_312 rfl (lv_at hl 3 rfl) ?_
  refine lv_iconst (v := 1) hx hb dL_law_313 (by decide) ?_
  refine lv_iadd hx hb dL_law_314 ?_
  refine va_sld hx hb hX hbl hbA hS i1 dL_law_315 ?_
  refine lw_ci hA hP hD hS (va_runV (As := [.int (xs (nI i + 1).toNatClampNeg)]) (rest := [.int r1]) CM.1 (mtX9_flip (l := l) (D := D) (sz := H.size) h) (cwV 1 hts gL_law_X9_flip rfl rfl rfl (by decide +kernel) ⟨Nat.le_of_ble_eq_true rfl, Nat.le_of_ble_eq_true rfl⟩) (wx_pv CM (lw_left hP) (lw_leftD hD) hS (q := 0) (ci := 9) (by decide) (eM_0 _ _ _) rfl) rfl rfl hl.1 rfl (lv_room (Nat.le_of_ble_eq_true rfl)) dL_law_316 ⟨Nat.le_of_ble_eq_true rfl, Nat.le_of_ble_eq_true rfl⟩) (fun r2 τ' H locs h hP hD hS => ?_)
  exact lv_icmp_eq (tgt := 823) hx hb dL_law_319 (by decide) (fun _ => nxt σ' τ' H locs h.2 hP hD hS) (fun z => absurd h.1 z)
set_option maxHeartbeats 4000000 in
set_option maxRecDepth 100000 in
theorem lw_k6 {p : Program} {l : Launch} {e : Env} {s : State} {m : MethodId} {below : List Frame} {meth : Method} {c : Code} {H : Heap} {locs : List Loc} {Q : State → Prop} {D : va_G} {cI cB cS cR : ClassId} {tS tP : Nat} {kS vS : Nat → Nat} {adC adM : Nat → Nat} {b L i : Nat} {xs : Nat → Int32} {σ τ : wx_Z} {ls : Array Slot} (C0 : LX p s m c D cI cB cS cR tS tP kS vS b L xs) (hi : i + 2 < L) (hR : RR σ τ) (hP : va_P D vwCl (wx_w 58 (wC_E cI cB cS cR adC) adC σ ++ wx_w 14 (wM_E cI adM) adM τ) H) (hD : va_D (lwA s) (wx_w 58 (wC_E cI cB cS cR adC) adC σ ++ wx_w 14 (wM_E cI adM) adM τ)) (hS : va_S (lwA s) s.heap H locs) (hl : lv_has ls 4 [(0, .ref b), (1, .ref (adC 0)), (2, .ref (adM 0)), (3, .int (nI i))]) (nxt : ∀ (σ' τ' : wx_Z) (H : Heap) (locs : List Loc), RR σ' τ' → va_P D vwCl (wx_w 58 (wC_E cI cB cS cR adC) adC σ' ++ wx_w 14 (wM_E cI adM) adM τ') H → va_D (lwA s) (wx_w 58 (wC_E cI cB cS cR adC) adC σ' ++ wx_w 14 (wM_E cI adM) adM τ') → va_S (lwA s) s.heap H locs → W p l e room_1 s m #[Value.ref b] below meth c H locs 72 2932 Q (F0 m 823 ls [])) : W p l e room_1 s m #[Value.ref b] below meth c H locs 72 2932 Q (F0 m 324 ls []) := by
  obtain ⟨C, hX, hbl, hL⟩ := C0
  obtain ⟨⟨hx, hb, hml, hown, hts⟩, hA, hK, -, hro⟩ := id C
  have CM : wx_C p s m #[Value.ref b] c cL_law 4 RL wsL_law D [(cI, .int)] wx_T0 (lwA s) := ⟨C.1, hA, hK.sub [0] rfl, wx_T0_ok, trivial⟩
  have hbA : ¬ lwA s b := Nat.not_le.mpr hbl
  have i1 : vp_in (nI i + 1) L := by rw [nI_1]; exact vp_in_nI (by omega) (by omega)
  have i2 : vp_in (nI i + 2) L := by rw [show (2 : Int32) = nI 2 from rfl, nI_add]; exact vp_in_nI (by omega) (by omega)
  have h := e_hurt (xs (nI i + 1).toNatClampNeg) (xs (nI i + 2).toNatClampNeg) hR
  refine lv_aload_n hx hb dL_law_324 rfl (lv_at hl 1 rfl) ?_
  refine lv_aload_n hx hb dL_law_325 rfl (lv_at hl 0 rfl) ?_
  refine lv_iload_n hx hb dL_law_326 rfl (lv_at hl 3 rfl) ?_
  refine lv_iconst (v := 1) hx hb dL_law_327 (by decide) ?_
  refine lv_iadd hx hb dL_law_328 ?_
  refine va_sld hx hb hX hbl hbA hS i1 dL_law_329 ?_
  refine lv_aload_n hx hb dL_law_330 rfl (lv_at hl 0 rfl) ?_
  refine lv_iload_n hx hb dL_law_331 rfl (lv_at hl 3 rfl) ?_
  refine lv_iconst (v := 2) hx hb dL_law_332 (by decide) ?_
  refine lv_iadd hx hb dL_law_333 ?_
  refine va_sld hx hb hX hbl hbA hS i2 dL_law_334 ?_
  refine lw_ci hA hP hD hS (va_runV (As := [.int (xs (nI i + 1).toNatClampNeg), .int (xs (nI i + 2).toNatClampNeg)]) (rest := []) C.1 (mtX8_hurt (l := l) (D := D) (sz := H.size) h) (cwV 2 hts gL_law_X8_hurt rfl rfl rfl (by decide +kernel) ⟨Nat.le_of_ble_eq_true rfl, Nat.le_of_ble_eq_true rfl⟩) (wx_pv C (lw_left hP) (lw_leftD hD) hS (q := 0) (ci := 8) (by decide) (eC_0 _) rfl) rfl rfl hl.1 rfl (lv_room (Nat.le_of_ble_eq_true rfl)) dL_law_335 ⟨Nat.le_of_ble_eq_true rfl, Nat.le_of_ble_eq_true rfl⟩) (fun r1 σ' H locs h hP hD hS => ?_)
  refine lv_aload_n hx hb dL_law_338 rfl (lv_at hl 2 rfl) ?_
  refine lv_aload_n hx hb dL_law_339 rfl (lv_at hl 0 rfl) ?_
  refine lv_iload_n hx hb dL_law_340 rfl (lv_at hl 3 rfl) ?_
  refine lv_iconst (v := 1) hx hb dL_law_341 (by decide) ?_
  refine lv_iadd hx hb dL_law_342 ?_
  refine va_sld hx hb hX hbl hbA hS i1 dL_law_343 ?_
  refine lv_aload_n hx hb dL_law_344 rfl (lv_at hl 0 rfl) ?_
  refine lv_iload_n hx hb dL_law_345 rfl (lv_at hl 3 rfl) ?_
  refine lv_iconst (v := 2) hx hb dL_law_346 (by decide) ?_
  refine lv_iadd hx hb dL_law_347 ?_
  refine va_sld hx hb hX hbl hbA hS i2 dL_law_348 ?_
  refine lw_ci hA hP hD hS (va_runV (As := [.int (xs (nI i + 1).toNatClampNeg), .int (xs (nI i + 2).toNatClampNeg)]) (rest := [.int r1]) CM.1 (mtX9_hurt (l := l) (D := D) (sz := H.size) h) (cwV 2 hts gL_law_X9_hurt rfl rfl rfl (by decide +kernel) ⟨Nat.le_of_ble_eq_true rfl, Nat.le_of_ble_eq_true rfl⟩) (wx_pv CM (lw_left hP) (lw_leftD hD) hS (q := 0) (ci := 9) (by decide) (eM_0 _ _ _) rfl) rfl rfl hl.1 rfl (lv_room (Nat.le_of_ble_eq_true rfl)) dL_law_349 ⟨Nat.le_of_ble_eq_true rfl, Nat.le_of_ble_eq_true rfl⟩) (fun r2 τ' H locs h hP hD hS => ?_)
  exact lv_icmp_eq (tgt := 823) hx hb dL_law_352 (by decide) (fun _ => nxt σ' τ' H locs h.2 hP hD hS) (fun z => absurd h.1 z)
set_option maxHeartbeats 4000000 in
set_option maxRecDepth 100000 in
theorem lw_k7 {p : Program} {l : Launch} {e : Env} {s : State} {m : MethodId} {below : List Frame} {meth : Method} {c : Code} {H : Heap} {locs : List Loc} {Q : State → Prop} {D : va_G} {cI cB cS cR : ClassId} {tS tP : Nat} {kS vS : Nat → Nat} {adC adM : Nat → Nat} {b L i : Nat} {xs : Nat → Int32} {σ τ : wx_Z} {ls : Array Slot} (C0 : LX p s m c D cI cB cS cR tS tP kS vS b L xs) (hi : i + 2 < L) (hR : RR σ τ) (hP : va_P D vwCl (wx_w 58 (wC_E cI cB cS cR adC) adC σ ++ wx_w 14 (wM_E cI adM) adM τ) H) (hD : va_D (lwA s) (wx_w 58 (wC_E cI cB cS cR adC) adC σ ++ wx_w 14 (wM_E cI adM) adM τ)) (hS : va_S (lwA s) s.heap H locs) (hl : lv_has ls 4 [(0, .ref b), (1, .ref (adC 0)), (2, .ref (adM 0)), (3, .int (nI i))]) (nxt : ∀ (σ' τ' : wx_Z) (H : Heap) (locs : List Loc), RR σ' τ' → va_P D vwCl (wx_w 58 (wC_E cI cB cS cR adC) adC σ' ++ wx_w 14 (wM_E cI adM) adM τ') H → va_D (lwA s) (wx_w 58 (wC_E cI cB cS cR adC) adC σ' ++ wx_w 14 (wM_E cI adM) adM τ') → va_S (lwA s) s.heap H locs → W p l e room_1 s m #[Value.ref b] below meth c H locs 72 2932 Q (F0 m 823 ls [])) : W p l e room_1 s m #[Value.ref b] below meth c H locs 72 2932 Q (F0 m 357 ls []) := by
  obtain ⟨C, hX, hbl, hL⟩ := C0
  obtain ⟨⟨hx, hb, hml, hown, hts⟩, hA, hK, -, hro⟩ := id C
  have CM : wx_C p s m #[Value.ref b] c cL_law 4 RL wsL_law D [(cI, .int)] wx_T0 (lwA s) := ⟨C.1, hA, hK.sub [0] rfl, wx_T0_ok, trivial⟩
  have hbA : ¬ lwA s b := Nat.not_le.mpr hbl
  have i1 : vp_in (nI i + 1) L := by rw [nI_1]; exact vp_in_nI (by omega) (by omega)
  have i2 : vp_in (nI i + 2) L := by rw [show (2 : Int32) = nI 2 from rfl, nI_add]; exact vp_in_nI (by omega) (by omega)
  have h := e_now hR
  refine lv_aload_n hx hb dL_law_357 rfl (lv_at hl 1 rfl) ?_
  refine lw_ci hA hP hD hS (va_runV (As := []) (rest := []) C.1 (mtX8_now (l := l) (D := D) (sz := H.size) h) (cwV 0 hts gL_law_X8_now rfl rfl rfl (by decide +kernel) ⟨Nat.le_of_ble_eq_true rfl, Nat.le_of_ble_eq_true rfl⟩) (wx_pv C (lw_left hP) (lw_leftD hD) hS (q := 0) (ci := 8) (by decide) (eC_0 _) rfl) rfl rfl hl.1 rfl (lv_room (Nat.le_of_ble_eq_true rfl)) dL_law_358 ⟨Nat.le_of_ble_eq_true rfl, Nat.le_of_ble_eq_true rfl⟩) (fun r1 σ' H locs h hP hD hS => ?_)
  refine lv_aload_n hx hb dL_law_361 rfl (lv_at hl 2 rfl) ?_
  refine lw_ci hA hP hD hS (va_runV (As := []) (rest := [.int r1]) CM.1 (mtX9_now (l := l) (D := D) (sz := H.size) h) (cwV 0 hts gL_law_X9_now rfl rfl rfl (by decide +kernel) ⟨Nat.le_of_ble_eq_true rfl, Nat.le_of_ble_eq_true rfl⟩) (wx_pv CM (lw_left hP) (lw_leftD hD) hS (q := 0) (ci := 9) (by decide) (eM_0 _ _ _) rfl) rfl rfl hl.1 rfl (lv_room (Nat.le_of_ble_eq_true rfl)) dL_law_362 ⟨Nat.le_of_ble_eq_true rfl, Nat.le_of_ble_eq_true rfl⟩) (fun r2 τ' H locs h hP hD hS => ?_)
  exact lv_icmp_eq (tgt := 823) hx hb dL_law_365 (by decide) (fun _ => nxt σ' τ' H locs h.2 hP hD hS) (fun z => absurd h.1 z)
set_option maxHeartbeats 4000000 in
set_option maxRecDepth 100000 in
theorem lw_k8 {p : Program} {l : Launch} {e : Env} {s : State} {m : MethodId} {below : List Frame} {meth : Method} {c : Code} {H : Heap} {locs : List Loc} {Q : State → Prop} {D : va_G} {cI cB cS cR : ClassId} {tS tP : Nat} {kS vS : Nat → Nat} {adC adM : Nat → Nat} {b L i : Nat} {xs : Nat → Int32} {σ τ : wx_Z} {ls : Array Slot} (C0 : LX p s m c D cI cB cS cR tS tP kS vS b L xs) (hi : i + 2 < L) (hR : RR σ τ) (hP : va_P D vwCl (wx_w 58 (wC_E cI cB cS cR adC) adC σ ++ wx_w 14 (wM_E cI adM) adM τ) H) (hD : va_D (lwA s) (wx_w 58 (wC_E cI cB cS cR adC) adC σ ++ wx_w 14 (wM_E cI adM) adM τ)) (hS : va_S (lwA s) s.heap H locs) (hl : lv_has ls 4 [(0, .ref b), (1, .ref (adC 0)), (2, .ref (adM 0)), (3, .int (nI i))]) (nxt : ∀ (σ' τ' : wx_Z) (H : Heap) (locs : List Loc), RR σ' τ' → va_P D vwCl (wx_w 58 (wC_E cI cB cS cR adC) adC σ' ++ wx_w 14 (wM_E cI adM) adM τ') H → va_D (lwA s) (wx_w 58 (wC_E cI cB cS cR adC) adC σ' ++ wx_w 14 (wM_E cI adM) adM τ') → va_S (lwA s) s.heap H locs → W p l e room_1 s m #[Value.ref b] below meth c H locs 72 2932 Q (F0 m 823 ls [])) : W p l e room_1 s m #[Value.ref b] below meth c H locs 72 2932 Q (F0 m 370 ls []) := by
  obtain ⟨C, hX, hbl, hL⟩ := C0
  obtain ⟨⟨hx, hb, hml, hown, hts⟩, hA, hK, -, hro⟩ := id C
  have CM : wx_C p s m #[Value.ref b] c cL_law 4 RL wsL_law D [(cI, .int)] wx_T0 (lwA s) := ⟨C.1, hA, hK.sub [0] rfl, wx_T0_ok, trivial⟩
  have hbA : ¬ lwA s b := Nat.not_le.mpr hbl
  have i1 : vp_in (nI i + 1) L := by rw [nI_1]; exact vp_in_nI (by omega) (by omega)
  have i2 : vp_in (nI i + 2) L := by rw [show (2 : Int32) = nI 2 from rfl, nI_add]; exact vp_in_nI (by omega) (by omega)
  have h := e_at (xs (nI i + 1).toNatClampNeg) hR
  refine lv_aload_n hx hb dL_law_370 rfl (lv_at hl 1 rfl) ?_
  refine lv_aload_n hx hb dL_law_371 rfl (lv_at hl 0 rfl) ?_
  refine lv_iload_n hx hb dL_law_372 rfl (lv_at hl 3 rfl) ?_
  refine lv_iconst (v := 1) hx hb dL_law_373 (by decide) ?_
  refine lv_iadd hx hb dL_law_374 ?_
  refine va_sld hx hb hX hbl hbA hS i1 dL_law_375 ?_
  refine lw_ci hA hP hD hS (va_runV (As := [.int (xs (nI i + 1).toNatClampNeg)]) (rest := []) C.1 (mtX8_at (l := l) (D := D) (sz := H.size) h) (cwV 1 hts gL_law_X8_at rfl rfl rfl (by decide +kernel) ⟨Nat.le_of_ble_eq_true rfl, Nat.le_of_ble_eq_true rfl⟩) (wx_pv C (lw_left hP) (lw_leftD hD) hS (q := 0) (ci := 8) (by decide) (eC_0 _) rfl) rfl rfl hl.1 rfl (lv_room (Nat.le_of_ble_eq_true rfl)) dL_law_376 ⟨Nat.le_of_ble_eq_true rfl, Nat.le_of_ble_eq_true rfl⟩) (fun r1 σ' H locs h hP hD hS => ?_)
  refine lv_aload_n hx hb dL_law_379 rfl (lv_at hl 2 rfl) ?_
  refine lv_aload_n hx hb dL_law_380 rfl (lv_at hl 0 rfl) ?_
  refine lv_iload_n hx hb dL_law_381 rfl (lv_at hl 3 rfl) ?_
  refine lv_iconst (v := 1) hx hb dL_law_382 (by decide) ?_
  refine lv_iadd hx hb dL_law_383 ?_
  refine va_sld hx hb hX hbl hbA hS i1 dL_law_384 ?_
  refine lw_ci hA hP hD hS (va_runV (As := [.int (xs (nI i + 1).toNatClampNeg)]) (rest := [.int r1]) CM.1 (mtX9_at (l := l) (D := D) (sz := H.size) h) (cwV 1 hts gL_law_X9_at rfl rfl rfl (by decide +kernel) ⟨Nat.le_of_ble_eq_true rfl, Nat.le_of_ble_eq_true rfl⟩) (wx_pv CM (lw_left hP) (lw_leftD hD) hS (q := 0) (ci := 9) (by decide) (eM_0 _ _ _) rfl) rfl rfl hl.1 rfl (lv_room (Nat.le_of_ble_eq_true rfl)) dL_law_385 ⟨Nat.le_of_ble_eq_true rfl, Nat.le_of_ble_eq_true rfl⟩) (fun r2 τ' H locs h hP hD hS => ?_)
  exact lv_icmp_eq (tgt := 823) hx hb dL_law_388 (by decide) (fun _ => nxt σ' τ' H locs h.2 hP hD hS) (fun z => absurd h.1 z)
set_option maxHeartbeats 4000000 in
set_option maxRecDepth 100000 in
theorem lw_k9 {p : Program} {l : Launch} {e : Env} {s : State} {m : MethodId} {below : List Frame} {meth : Method} {c : Code} {H : Heap} {locs : List Loc} {Q : State → Prop} {D : va_G} {cI cB cS cR : ClassId} {tS tP : Nat} {kS vS : Nat → Nat} {adC adM : Nat → Nat} {b L i : Nat} {xs : Nat → Int32} {σ τ : wx_Z} {ls : Array Slot} (C0 : LX p s m c D cI cB cS cR tS tP kS vS b L xs) (hi : i + 2 < L) (hR : RR σ τ) (hP : va_P D vwCl (wx_w 58 (wC_E cI cB cS cR adC) adC σ ++ wx_w 14 (wM_E cI adM) adM τ) H) (hD : va_D (lwA s) (wx_w 58 (wC_E cI cB cS cR adC) adC σ ++ wx_w 14 (wM_E cI adM) adM τ)) (hS : va_S (lwA s) s.heap H locs) (hl : lv_has ls 4 [(0, .ref b), (1, .ref (adC 0)), (2, .ref (adM 0)), (3, .int (nI i))]) (nxt : ∀ (σ' τ' : wx_Z) (H : Heap) (locs : List Loc), RR σ' τ' → va_P D vwCl (wx_w 58 (wC_E cI cB cS cR adC) adC σ' ++ wx_w 14 (wM_E cI adM) adM τ') H → va_D (lwA s) (wx_w 58 (wC_E cI cB cS cR adC) adC σ' ++ wx_w 14 (wM_E cI adM) adM τ') → va_S (lwA s) s.heap H locs → W p l e room_1 s m #[Value.ref b] below meth c H locs 72 2932 Q (F0 m 823 ls [])) : W p l e room_1 s m #[Value.ref b] below meth c H locs 72 2932 Q (F0 m 393 ls []) := by
  obtain ⟨C, hX, hbl, hL⟩ := C0
  obtain ⟨⟨hx, hb, hml, hown, hts⟩, hA, hK, -, hro⟩ := id C
  have CM : wx_C p s m #[Value.ref b] c cL_law 4 RL wsL_law D [(cI, .int)] wx_T0 (lwA s) := ⟨C.1, hA, hK.sub [0] rfl, wx_T0_ok, trivial⟩
  have hbA : ¬ lwA s b := Nat.not_le.mpr hbl
  have i1 : vp_in (nI i + 1) L := by rw [nI_1]; exact vp_in_nI (by omega) (by omega)
  have i2 : vp_in (nI i + 2) L := by rw [show (2 : Int32) = nI 2 from rfl, nI_add]; exact vp_in_nI (by omega) (by omega)
  have h := e_weight hR
  refine lv_aload_n hx hb dL_law_393 rfl (lv_at hl 1 rfl) ?_
  refine lw_ci hA hP hD hS (va_runV (As := []) (rest := []) C.1 (mtX8_weight (l := l) (D := D) (sz := H.size) h) (cwV 0 hts gL_law_X8_weight rfl rfl rfl (by decide +kernel) ⟨Nat.le_of_ble_eq_true rfl, Nat.le_of_ble_eq_true rfl⟩) (wx_pv C (lw_left hP) (lw_leftD hD) hS (q := 0) (ci := 8) (by decide) (eC_0 _) rfl) rfl rfl hl.1 rfl (lv_room (Nat.le_of_ble_eq_true rfl)) dL_law_394 ⟨Nat.le_of_ble_eq_true rfl, Nat.le_of_ble_eq_true rfl⟩) (fun r1 σ' H locs h hP hD hS => ?_)
  refine lv_aload_n hx hb dL_law_397 rfl (lv_at hl 2 rfl) ?_
  refine lw_ci hA hP hD hS (va_runV (As := []) (rest := [.int r1]) CM.1 (mtX9_weight (l := l) (D := D) (sz := H.size) h) (cwV 0 hts gL_law_X9_weight rfl rfl rfl (by decide +kernel) ⟨Nat.le_of_ble_eq_true rfl, Nat.le_of_ble_eq_true rfl⟩) (wx_pv CM (lw_left hP) (lw_leftD hD) hS (q := 0) (ci := 9) (by decide) (eM_0 _ _ _) rfl) rfl rfl hl.1 rfl (lv_room (Nat.le_of_ble_eq_true rfl)) dL_law_398 ⟨Nat.le_of_ble_eq_true rfl, Nat.le_of_ble_eq_true rfl⟩) (fun r2 τ' H locs h hP hD hS => ?_)
  exact lv_icmp_eq (tgt := 823) hx hb dL_law_401 (by decide) (fun _ => nxt σ' τ' H locs h.2 hP hD hS) (fun z => absurd h.1 z)
set_option maxHeartbeats 4000000 in
set_option maxRecDepth 100000 in
theorem lw_k10 {p : Program} {l : Launch} {e : Env} {s : State} {m : MethodId} {below : List Frame} {meth : Method} {c : Code} {H : Heap} {locs : List Loc} {Q : State → Prop} {D : va_G} {cI cB cS cR : ClassId} {tS tP : Nat} {kS vS : Nat → Nat} {adC adM : Nat → Nat} {b L i : Nat} {xs : Nat → Int32} {σ τ : wx_Z} {ls : Array Slot} (C0 : LX p s m c D cI cB cS cR tS tP kS vS b L xs) (hi : i + 2 < L) (hR : RR σ τ) (hP : va_P D vwCl (wx_w 58 (wC_E cI cB cS cR adC) adC σ ++ wx_w 14 (wM_E cI adM) adM τ) H) (hD : va_D (lwA s) (wx_w 58 (wC_E cI cB cS cR adC) adC σ ++ wx_w 14 (wM_E cI adM) adM τ)) (hS : va_S (lwA s) s.heap H locs) (hl : lv_has ls 4 [(0, .ref b), (1, .ref (adC 0)), (2, .ref (adM 0)), (3, .int (nI i))]) (nxt : ∀ (σ' τ' : wx_Z) (H : Heap) (locs : List Loc), RR σ' τ' → va_P D vwCl (wx_w 58 (wC_E cI cB cS cR adC) adC σ' ++ wx_w 14 (wM_E cI adM) adM τ') H → va_D (lwA s) (wx_w 58 (wC_E cI cB cS cR adC) adC σ' ++ wx_w 14 (wM_E cI adM) adM τ') → va_S (lwA s) s.heap H locs → W p l e room_1 s m #[Value.ref b] below meth c H locs 72 2932 Q (F0 m 823 ls [])) : W p l e room_1 s m #[Value.ref b] below meth c H locs 72 2932 Q (F0 m 406 ls []) := by
  obtain ⟨C, hX, hbl, hL⟩ := C0
  obtain ⟨⟨hx, hb, hml, hown, hts⟩, hA, hK, -, hro⟩ := id C
  have CM : wx_C p s m #[Value.ref b] c cL_law 4 RL wsL_law D [(cI, .int)] wx_T0 (lwA s) := ⟨C.1, hA, hK.sub [0] rfl, wx_T0_ok, trivial⟩
  have hbA : ¬ lwA s b := Nat.not_le.mpr hbl
  have i1 : vp_in (nI i + 1) L := by rw [nI_1]; exact vp_in_nI (by omega) (by omega)
  have i2 : vp_in (nI i + 2) L := by rw [show (2 : Int32) = nI 2 from rfl, nI_add]; exact vp_in_nI (by omega) (by omega)
  have h := e_isWord hR
  refine lv_aload_n hx hb dL_law_406 rfl (lv_at hl 1 rfl) ?_
  refine lw_ci hA hP hD hS (va_runV (As := []) (rest := []) C.1 (mtX8_isWord (l := l) (D := D) (sz := H.size) h) (cwV 0 hts gL_law_X8_isWord rfl rfl rfl (by decide +kernel) ⟨Nat.le_of_ble_eq_true rfl, Nat.le_of_ble_eq_true rfl⟩) (wx_pv C (lw_left hP) (lw_leftD hD) hS (q := 0) (ci := 8) (by decide) (eC_0 _) rfl) rfl rfl hl.1 rfl (lv_room (Nat.le_of_ble_eq_true rfl)) dL_law_407 ⟨Nat.le_of_ble_eq_true rfl, Nat.le_of_ble_eq_true rfl⟩) (fun r1 σ' H locs h hP hD hS => ?_)
  refine lv_aload_n hx hb dL_law_410 rfl (lv_at hl 2 rfl) ?_
  refine lw_ci hA hP hD hS (va_runV (As := []) (rest := [.int r1]) CM.1 (mtX9_isWord (l := l) (D := D) (sz := H.size) h) (cwV 0 hts gL_law_X9_isWord rfl rfl rfl (by decide +kernel) ⟨Nat.le_of_ble_eq_true rfl, Nat.le_of_ble_eq_true rfl⟩) (wx_pv CM (lw_left hP) (lw_leftD hD) hS (q := 0) (ci := 9) (by decide) (eM_0 _ _ _) rfl) rfl rfl hl.1 rfl (lv_room (Nat.le_of_ble_eq_true rfl)) dL_law_411 ⟨Nat.le_of_ble_eq_true rfl, Nat.le_of_ble_eq_true rfl⟩) (fun r2 τ' H locs h hP hD hS => ?_)
  exact lv_icmp_eq (tgt := 823) hx hb dL_law_414 (by decide) (fun _ => nxt σ' τ' H locs h.2 hP hD hS) (fun z => absurd h.1 z)
set_option maxHeartbeats 4000000 in
set_option maxRecDepth 100000 in
theorem lw_k11 {p : Program} {l : Launch} {e : Env} {s : State} {m : MethodId} {below : List Frame} {meth : Method} {c : Code} {H : Heap} {locs : List Loc} {Q : State → Prop} {D : va_G} {cI cB cS cR : ClassId} {tS tP : Nat} {kS vS : Nat → Nat} {adC adM : Nat → Nat} {b L i : Nat} {xs : Nat → Int32} {σ τ : wx_Z} {ls : Array Slot} (C0 : LX p s m c D cI cB cS cR tS tP kS vS b L xs) (hi : i + 2 < L) (hR : RR σ τ) (hP : va_P D vwCl (wx_w 58 (wC_E cI cB cS cR adC) adC σ ++ wx_w 14 (wM_E cI adM) adM τ) H) (hD : va_D (lwA s) (wx_w 58 (wC_E cI cB cS cR adC) adC σ ++ wx_w 14 (wM_E cI adM) adM τ)) (hS : va_S (lwA s) s.heap H locs) (hl : lv_has ls 4 [(0, .ref b), (1, .ref (adC 0)), (2, .ref (adM 0)), (3, .int (nI i))]) (nxt : ∀ (σ' τ' : wx_Z) (H : Heap) (locs : List Loc), RR σ' τ' → va_P D vwCl (wx_w 58 (wC_E cI cB cS cR adC) adC σ' ++ wx_w 14 (wM_E cI adM) adM τ') H → va_D (lwA s) (wx_w 58 (wC_E cI cB cS cR adC) adC σ' ++ wx_w 14 (wM_E cI adM) adM τ') → va_S (lwA s) s.heap H locs → W p l e room_1 s m #[Value.ref b] below meth c H locs 72 2932 Q (F0 m 823 ls [])) : W p l e room_1 s m #[Value.ref b] below meth c H locs 72 2932 Q (F0 m 419 ls []) := by
  obtain ⟨C, hX, hbl, hL⟩ := C0
  obtain ⟨⟨hx, hb, hml, hown, hts⟩, hA, hK, -, hro⟩ := id C
  have CM : wx_C p s m #[Value.ref b] c cL_law 4 RL wsL_law D [(cI, .int)] wx_T0 (lwA s) := ⟨C.1, hA, hK.sub [0] rfl, wx_T0_ok, trivial⟩
  have hbA : ¬ lwA s b := Nat.not_le.mpr hbl
  have i1 : vp_in (nI i + 1) L := by rw [nI_1]; exact vp_in_nI (by omega) (by omega)
  have i2 : vp_in (nI i + 2) L := by rw [show (2 : Int32) = nI 2 from rfl, nI_add]; exact vp_in_nI (by omega) (by omega)
  have h := e_coefficient (xs (nI i + 1).toNatClampNeg) hR
  refine lv_aload_n hx hb dL_law_419 rfl (lv_at hl 1 rfl) ?_
  refine lv_aload_n hx hb dL_law_420 rfl (lv_at hl 0 rfl) ?_
  refine lv_iload_n hx hb dL_law_421 rfl (lv_at hl 3 rfl) ?_
  refine lv_iconst (v := 1) hx hb dL_law_422 (by decide) ?_
  refine lv_iadd hx hb dL_law_423 ?_
  refine va_sld hx hb hX hbl hbA hS i1 dL_law_424 ?_
  refine lw_ci hA hP hD hS (va_runV (As := [.int (xs (nI i + 1).toNatClampNeg)]) (rest := []) C.1 (mtX8_coefficient (l := l) (D := D) (sz := H.size) h) (cwV 1 hts gL_law_X8_coefficient rfl rfl rfl (by decide +kernel) ⟨Nat.le_of_ble_eq_true rfl, Nat.le_of_ble_eq_true rfl⟩) (wx_pv C (lw_left hP) (lw_leftD hD) hS (q := 0) (ci := 8) (by decide) (eC_0 _) rfl) rfl rfl hl.1 rfl (lv_room (Nat.le_of_ble_eq_true rfl)) dL_law_425 ⟨Nat.le_of_ble_eq_true rfl, Nat.le_of_ble_eq_true rfl⟩) (fun r1 σ' H locs h hP hD hS => ?_)
  refine lv_aload_n hx hb dL_law_428 rfl (lv_at hl 2 rfl) ?_
  refine lv_aload_n hx hb dL_law_429 rfl (lv_at hl 0 rfl) ?_
  refine lv_iload_n hx hb dL_law_430 rfl (lv_at hl 3 rfl) ?_
  refine lv_iconst (v := 1) hx hb dL_law_431 (by decide) ?_
  refine lv_iadd hx hb dL_law_432 ?_
  refine va_sld hx hb hX hbl hbA hS i1 dL_law_433 ?_
  refine lw_ci hA hP hD hS (va_runV (As := [.int (xs (nI i + 1).toNatClampNeg)]) (rest := [.int r1]) CM.1 (mtX9_coefficient (l := l) (D := D) (sz := H.size) h) (cwV 1 hts gL_law_X9_coefficient rfl rfl rfl (by decide +kernel) ⟨Nat.le_of_ble_eq_true rfl, Nat.le_of_ble_eq_true rfl⟩) (wx_pv CM (lw_left hP) (lw_leftD hD) hS (q := 0) (ci := 9) (by decide) (eM_0 _ _ _) rfl) rfl rfl hl.1 rfl (lv_room (Nat.le_of_ble_eq_true rfl)) dL_law_434 ⟨Nat.le_of_ble_eq_true rfl, Nat.le_of_ble_eq_true rfl⟩) (fun r2 τ' H locs h hP hD hS => ?_)
  exact lv_icmp_eq (tgt := 823) hx hb dL_law_437 (by decide) (fun _ => nxt σ' τ' H locs h.2 hP hD hS) (fun z => absurd h.1 z)
set_option maxHeartbeats 4000000 in
set_option maxRecDepth 100000 in
theorem lw_k12 {p : Program} {l : Launch} {e : Env} {s : State} {m : MethodId} {below : List Frame} {meth : Method} {c : Code} {H : Heap} {locs : List Loc} {Q : State → Prop} {D : va_G} {cI cB cS cR : ClassId} {tS tP : Nat} {kS vS : Nat → Nat} {adC adM : Nat → Nat} {b L i : Nat} {xs : Nat → Int32} {σ τ : wx_Z} {ls : Array Slot} (C0 : LX p s m c D cI cB cS cR tS tP kS vS b L xs) (hi : i + 2 < L) (hR : RR σ τ) (hP : va_P D vwCl (wx_w 58 (wC_E cI cB cS cR adC) adC σ ++ wx_w 14 (wM_E cI adM) adM τ) H) (hD : va_D (lwA s) (wx_w 58 (wC_E cI cB cS cR adC) adC σ ++ wx_w 14 (wM_E cI adM) adM τ)) (hS : va_S (lwA s) s.heap H locs) (hl : lv_has ls 4 [(0, .ref b), (1, .ref (adC 0)), (2, .ref (adM 0)), (3, .int (nI i))]) (nxt : ∀ (σ' τ' : wx_Z) (H : Heap) (locs : List Loc), RR σ' τ' → va_P D vwCl (wx_w 58 (wC_E cI cB cS cR adC) adC σ' ++ wx_w 14 (wM_E cI adM) adM τ') H → va_D (lwA s) (wx_w 58 (wC_E cI cB cS cR adC) adC σ' ++ wx_w 14 (wM_E cI adM) adM τ') → va_S (lwA s) s.heap H locs → W p l e room_1 s m #[Value.ref b] below meth c H locs 72 2932 Q (F0 m 823 ls [])) : W p l e room_1 s m #[Value.ref b] below meth c H locs 72 2932 Q (F0 m 442 ls []) := by
  obtain ⟨C, hX, hbl, hL⟩ := C0
  obtain ⟨⟨hx, hb, hml, hown, hts⟩, hA, hK, -, hro⟩ := id C
  have CM : wx_C p s m #[Value.ref b] c cL_law 4 RL wsL_law D [(cI, .int)] wx_T0 (lwA s) := ⟨C.1, hA, hK.sub [0] rfl, wx_T0_ok, trivial⟩
  have hbA : ¬ lwA s b := Nat.not_le.mpr hbl
  have i1 : vp_in (nI i + 1) L := by rw [nI_1]; exact vp_in_nI (by omega) (by omega)
  have i2 : vp_in (nI i + 2) L := by rw [show (2 : Int32) = nI 2 from rfl, nI_add]; exact vp_in_nI (by omega) (by omega)
  have h := e_votes hR
  refine lv_aload_n hx hb dL_law_442 rfl (lv_at hl 1 rfl) ?_
  refine lw_ci hA hP hD hS (va_runV (As := []) (rest := []) C.1 (mtX8_votes (l := l) (D := D) (sz := H.size) h) (cwV 0 hts gL_law_X8_votes rfl rfl rfl (by decide +kernel) ⟨Nat.le_of_ble_eq_true rfl, Nat.le_of_ble_eq_true rfl⟩) (wx_pv C (lw_left hP) (lw_leftD hD) hS (q := 0) (ci := 8) (by decide) (eC_0 _) rfl) rfl rfl hl.1 rfl (lv_room (Nat.le_of_ble_eq_true rfl)) dL_law_443 ⟨Nat.le_of_ble_eq_true rfl, Nat.le_of_ble_eq_true rfl⟩) (fun r1 σ' H locs h hP hD hS => ?_)
  refine lv_aload_n hx hb dL_law_446 rfl (lv_at hl 2 rfl) ?_
  refine lw_ci hA hP hD hS (va_runV (As := []) (rest := [.int r1]) CM.1 (mtX9_votes (l := l) (D := D) (sz := H.size) h) (cwV 0 hts gL_law_X9_votes rfl rfl rfl (by decide +kernel) ⟨Nat.le_of_ble_eq_true rfl, Nat.le_of_ble_eq_true rfl⟩) (wx_pv CM (lw_left hP) (lw_leftD hD) hS (q := 0) (ci := 9) (by decide) (eM_0 _ _ _) rfl) rfl rfl hl.1 rfl (lv_room (Nat.le_of_ble_eq_true rfl)) dL_law_447 ⟨Nat.le_of_ble_eq_true rfl, Nat.le_of_ble_eq_true rfl⟩) (fun r2 τ' H locs h hP hD hS => ?_)
  exact lv_icmp_eq (tgt := 823) hx hb dL_law_450 (by decide) (fun _ => nxt σ' τ' H locs h.2 hP hD hS) (fun z => absurd h.1 z)
set_option maxHeartbeats 4000000 in
set_option maxRecDepth 100000 in
theorem lw_k13 {p : Program} {l : Launch} {e : Env} {s : State} {m : MethodId} {below : List Frame} {meth : Method} {c : Code} {H : Heap} {locs : List Loc} {Q : State → Prop} {D : va_G} {cI cB cS cR : ClassId} {tS tP : Nat} {kS vS : Nat → Nat} {adC adM : Nat → Nat} {b L i : Nat} {xs : Nat → Int32} {σ τ : wx_Z} {ls : Array Slot} (C0 : LX p s m c D cI cB cS cR tS tP kS vS b L xs) (hi : i + 2 < L) (hR : RR σ τ) (hP : va_P D vwCl (wx_w 58 (wC_E cI cB cS cR adC) adC σ ++ wx_w 14 (wM_E cI adM) adM τ) H) (hD : va_D (lwA s) (wx_w 58 (wC_E cI cB cS cR adC) adC σ ++ wx_w 14 (wM_E cI adM) adM τ)) (hS : va_S (lwA s) s.heap H locs) (hl : lv_has ls 4 [(0, .ref b), (1, .ref (adC 0)), (2, .ref (adM 0)), (3, .int (nI i))]) (nxt : ∀ (σ' τ' : wx_Z) (H : Heap) (locs : List Loc), RR σ' τ' → va_P D vwCl (wx_w 58 (wC_E cI cB cS cR adC) adC σ' ++ wx_w 14 (wM_E cI adM) adM τ') H → va_D (lwA s) (wx_w 58 (wC_E cI cB cS cR adC) adC σ' ++ wx_w 14 (wM_E cI adM) adM τ') → va_S (lwA s) s.heap H locs → W p l e room_1 s m #[Value.ref b] below meth c H locs 72 2932 Q (F0 m 823 ls [])) : W p l e room_1 s m #[Value.ref b] below meth c H locs 72 2932 Q (F0 m 455 ls []) := by
  obtain ⟨C, hX, hbl, hL⟩ := C0
  obtain ⟨⟨hx, hb, hml, hown, hts⟩, hA, hK, -, hro⟩ := id C
  have CM : wx_C p s m #[Value.ref b] c cL_law 4 RL wsL_law D [(cI, .int)] wx_T0 (lwA s) := ⟨C.1, hA, hK.sub [0] rfl, wx_T0_ok, trivial⟩
  have hbA : ¬ lwA s b := Nat.not_le.mpr hbl
  have i1 : vp_in (nI i + 1) L := by rw [nI_1]; exact vp_in_nI (by omega) (by omega)
  have i2 : vp_in (nI i + 2) L := by rw [show (2 : Int32) = nI 2 from rfl, nI_add]; exact vp_in_nI (by omega) (by omega)
  have h := e_vote (xs (nI i + 1).toNatClampNeg) hR
  refine lv_aload_n hx hb dL_law_455 rfl (lv_at hl 1 rfl) ?_
  refine lv_aload_n hx hb dL_law_456 rfl (lv_at hl 0 rfl) ?_
  refine lv_iload_n hx hb dL_law_457 rfl (lv_at hl 3 rfl) ?_
  refine lv_iconst (v := 1) hx hb dL_law_458 (by decide) ?_
  refine lv_iadd hx hb dL_law_459 ?_
  refine va_sld hx hb hX hbl hbA hS i1 dL_law_460 ?_
  refine lw_ci hA hP hD hS (va_runV (As := [.int (xs (nI i + 1).toNatClampNeg)]) (rest := []) C.1 (mtX8_vote (l := l) (D := D) (sz := H.size) h) (cwV 1 hts gL_law_X8_vote rfl rfl rfl (by decide +kernel) ⟨Nat.le_of_ble_eq_true rfl, Nat.le_of_ble_eq_true rfl⟩) (wx_pv C (lw_left hP) (lw_leftD hD) hS (q := 0) (ci := 8) (by decide) (eC_0 _) rfl) rfl rfl hl.1 rfl (lv_room (Nat.le_of_ble_eq_true rfl)) dL_law_461 ⟨Nat.le_of_ble_eq_true rfl, Nat.le_of_ble_eq_true rfl⟩) (fun r1 σ' H locs h hP hD hS => ?_)
  refine lv_aload_n hx hb dL_law_464 rfl (lv_at hl 2 rfl) ?_
  refine lv_aload_n hx hb dL_law_465 rfl (lv_at hl 0 rfl) ?_
  refine lv_iload_n hx hb dL_law_466 rfl (lv_at hl 3 rfl) ?_
  refine lv_iconst (v := 1) hx hb dL_law_467 (by decide) ?_
  refine lv_iadd hx hb dL_law_468 ?_
  refine va_sld hx hb hX hbl hbA hS i1 dL_law_469 ?_
  refine lw_ci hA hP hD hS (va_runV (As := [.int (xs (nI i + 1).toNatClampNeg)]) (rest := [.int r1]) CM.1 (mtX9_vote (l := l) (D := D) (sz := H.size) h) (cwV 1 hts gL_law_X9_vote rfl rfl rfl (by decide +kernel) ⟨Nat.le_of_ble_eq_true rfl, Nat.le_of_ble_eq_true rfl⟩) (wx_pv CM (lw_left hP) (lw_leftD hD) hS (q := 0) (ci := 9) (by decide) (eM_0 _ _ _) rfl) rfl rfl hl.1 rfl (lv_room (Nat.le_of_ble_eq_true rfl)) dL_law_470 ⟨Nat.le_of_ble_eq_true rfl, Nat.le_of_ble_eq_true rfl⟩) (fun r2 τ' H locs h hP hD hS => ?_)
  exact lv_icmp_eq (tgt := 823) hx hb dL_law_473 (by decide) (fun _ => nxt σ' τ' H locs h.2 hP hD hS) (fun z => absurd h.1 z)
set_option maxHeartbeats 4000000 in
set_option maxRecDepth 100000 in
theorem lw_k14 {p : Program} {l : Launch} {e : Env} {s : State} {m : MethodId} {below : List Frame} {meth : Method} {c : Code} {H : Heap} {locs : List Loc} {Q : State → Prop} {D : va_G} {cI cB cS cR : ClassId} {tS tP : Nat} {kS vS : Nat → Nat} {adC adM : Nat → Nat} {b L i : Nat} {xs : Nat → Int32} {σ τ : wx_Z} {ls : Array Slot} (C0 : LX p s m c D cI cB cS cR tS tP kS vS b L xs) (hi : i + 2 < L) (hR : RR σ τ) (hP : va_P D vwCl (wx_w 58 (wC_E cI cB cS cR adC) adC σ ++ wx_w 14 (wM_E cI adM) adM τ) H) (hD : va_D (lwA s) (wx_w 58 (wC_E cI cB cS cR adC) adC σ ++ wx_w 14 (wM_E cI adM) adM τ)) (hS : va_S (lwA s) s.heap H locs) (hl : lv_has ls 4 [(0, .ref b), (1, .ref (adC 0)), (2, .ref (adM 0)), (3, .int (nI i))]) (nxt : ∀ (σ' τ' : wx_Z) (H : Heap) (locs : List Loc), RR σ' τ' → va_P D vwCl (wx_w 58 (wC_E cI cB cS cR adC) adC σ' ++ wx_w 14 (wM_E cI adM) adM τ') H → va_D (lwA s) (wx_w 58 (wC_E cI cB cS cR adC) adC σ' ++ wx_w 14 (wM_E cI adM) adM τ') → va_S (lwA s) s.heap H locs → W p l e room_1 s m #[Value.ref b] below meth c H locs 72 2932 Q (F0 m 823 ls [])) : W p l e room_1 s m #[Value.ref b] below meth c H locs 72 2932 Q (F0 m 478 ls []) := by
  obtain ⟨C, hX, hbl, hL⟩ := C0
  obtain ⟨⟨hx, hb, hml, hown, hts⟩, hA, hK, -, hro⟩ := id C
  have CM : wx_C p s m #[Value.ref b] c cL_law 4 RL wsL_law D [(cI, .int)] wx_T0 (lwA s) := ⟨C.1, hA, hK.sub [0] rfl, wx_T0_ok, trivial⟩
  have hbA : ¬ lwA s b := Nat.not_le.mpr hbl
  have i1 : vp_in (nI i + 1) L := by rw [nI_1]; exact vp_in_nI (by omega) (by omega)
  have i2 : vp_in (nI i + 2) L := by rw [show (2 : Int32) = nI 2 from rfl, nI_add]; exact vp_in_nI (by omega) (by omega)
  have h := e_mends hR
  refine lv_aload_n hx hb dL_law_478 rfl (lv_at hl 1 rfl) ?_
  refine lw_ci hA hP hD hS (va_runV (As := []) (rest := []) C.1 (mtX8_mends (l := l) (D := D) (sz := H.size) h) (cwV 0 hts gL_law_X8_mends rfl rfl rfl (by decide +kernel) ⟨Nat.le_of_ble_eq_true rfl, Nat.le_of_ble_eq_true rfl⟩) (wx_pv C (lw_left hP) (lw_leftD hD) hS (q := 0) (ci := 8) (by decide) (eC_0 _) rfl) rfl rfl hl.1 rfl (lv_room (Nat.le_of_ble_eq_true rfl)) dL_law_479 ⟨Nat.le_of_ble_eq_true rfl, Nat.le_of_ble_eq_true rfl⟩) (fun r1 σ' H locs h hP hD hS => ?_)
  refine lv_aload_n hx hb dL_law_482 rfl (lv_at hl 2 rfl) ?_
  refine lw_ci hA hP hD hS (va_runV (As := []) (rest := [.int r1]) CM.1 (mtX9_mends (l := l) (D := D) (sz := H.size) h) (cwV 0 hts gL_law_X9_mends rfl rfl rfl (by decide +kernel) ⟨Nat.le_of_ble_eq_true rfl, Nat.le_of_ble_eq_true rfl⟩) (wx_pv CM (lw_left hP) (lw_leftD hD) hS (q := 0) (ci := 9) (by decide) (eM_0 _ _ _) rfl) rfl rfl hl.1 rfl (lv_room (Nat.le_of_ble_eq_true rfl)) dL_law_483 ⟨Nat.le_of_ble_eq_true rfl, Nat.le_of_ble_eq_true rfl⟩) (fun r2 τ' H locs h hP hD hS => ?_)
  exact lv_icmp_eq (tgt := 823) hx hb dL_law_486 (by decide) (fun _ => nxt σ' τ' H locs h.2 hP hD hS) (fun z => absurd h.1 z)
set_option maxHeartbeats 4000000 in
set_option maxRecDepth 100000 in
theorem lw_k15 {p : Program} {l : Launch} {e : Env} {s : State} {m : MethodId} {below : List Frame} {meth : Method} {c : Code} {H : Heap} {locs : List Loc} {Q : State → Prop} {D : va_G} {cI cB cS cR : ClassId} {tS tP : Nat} {kS vS : Nat → Nat} {adC adM : Nat → Nat} {b L i : Nat} {xs : Nat → Int32} {σ τ : wx_Z} {ls : Array Slot} (C0 : LX p s m c D cI cB cS cR tS tP kS vS b L xs) (hi : i + 2 < L) (hR : RR σ τ) (hP : va_P D vwCl (wx_w 58 (wC_E cI cB cS cR adC) adC σ ++ wx_w 14 (wM_E cI adM) adM τ) H) (hD : va_D (lwA s) (wx_w 58 (wC_E cI cB cS cR adC) adC σ ++ wx_w 14 (wM_E cI adM) adM τ)) (hS : va_S (lwA s) s.heap H locs) (hl : lv_has ls 4 [(0, .ref b), (1, .ref (adC 0)), (2, .ref (adM 0)), (3, .int (nI i))]) (nxt : ∀ (σ' τ' : wx_Z) (H : Heap) (locs : List Loc), RR σ' τ' → va_P D vwCl (wx_w 58 (wC_E cI cB cS cR adC) adC σ' ++ wx_w 14 (wM_E cI adM) adM τ') H → va_D (lwA s) (wx_w 58 (wC_E cI cB cS cR adC) adC σ' ++ wx_w 14 (wM_E cI adM) adM τ') → va_S (lwA s) s.heap H locs → W p l e room_1 s m #[Value.ref b] below meth c H locs 72 2932 Q (F0 m 823 ls [])) : W p l e room_1 s m #[Value.ref b] below meth c H locs 72 2932 Q (F0 m 491 ls []) := by
  obtain ⟨C, hX, hbl, hL⟩ := C0
  obtain ⟨⟨hx, hb, hml, hown, hts⟩, hA, hK, -, hro⟩ := id C
  have CM : wx_C p s m #[Value.ref b] c cL_law 4 RL wsL_law D [(cI, .int)] wx_T0 (lwA s) := ⟨C.1, hA, hK.sub [0] rfl, wx_T0_ok, trivial⟩
  have hbA : ¬ lwA s b := Nat.not_le.mpr hbl
  have i1 : vp_in (nI i + 1) L := by rw [nI_1]; exact vp_in_nI (by omega) (by omega)
  have i2 : vp_in (nI i + 2) L := by rw [show (2 : Int32) = nI 2 from rfl, nI_add]; exact vp_in_nI (by omega) (by omega)
  have h := e_sign (xs (nI i + 1).toNatClampNeg) hR
  refine lv_aload_n hx hb dL_law_491 rfl (lv_at hl 1 rfl) ?_
  refine lv_aload_n hx hb dL_law_492 rfl (lv_at hl 0 rfl) ?_
  refine lv_iload_n hx hb dL_law_493 rfl (lv_at hl 3 rfl) ?_
  refine lv_iconst (v := 1) hx hb dL_law_494 (by decide) ?_
  refine lv_iadd hx hb dL_law_495 ?_
  refine va_sld hx hb hX hbl hbA hS i1 dL_law_496 ?_
  refine lw_ci hA hP hD hS (va_runV (As := [.int (xs (nI i + 1).toNatClampNeg)]) (rest := []) C.1 (mtX8_sign (l := l) (D := D) (sz := H.size) h) (cwV 1 hts gL_law_X8_sign rfl rfl rfl (by decide +kernel) ⟨Nat.le_of_ble_eq_true rfl, Nat.le_of_ble_eq_true rfl⟩) (wx_pv C (lw_left hP) (lw_leftD hD) hS (q := 0) (ci := 8) (by decide) (eC_0 _) rfl) rfl rfl hl.1 rfl (lv_room (Nat.le_of_ble_eq_true rfl)) dL_law_497 ⟨Nat.le_of_ble_eq_true rfl, Nat.le_of_ble_eq_true rfl⟩) (fun r1 σ' H locs h hP hD hS => ?_)
  refine lv_aload_n hx hb dL_law_500 rfl (lv_at hl 2 rfl) ?_
  refine lv_aload_n hx hb dL_law_501 rfl (lv_at hl 0 rfl) ?_
  refine lv_iload_n hx hb dL_law_502 rfl (lv_at hl 3 rfl) ?_
  refine lv_iconst (v := 1) hx hb dL_law_503 (by decide) ?_
  refine lv_iadd hx hb dL_law_504 ?_
  refine va_sld hx hb hX hbl hbA hS i1 dL_law_505 ?_
  refine lw_ci hA hP hD hS (va_runV (As := [.int (xs (nI i + 1).toNatClampNeg)]) (rest := [.int r1]) CM.1 (mtX9_sign (l := l) (D := D) (sz := H.size) h) (cwV 1 hts gL_law_X9_sign rfl rfl rfl (by decide +kernel) ⟨Nat.le_of_ble_eq_true rfl, Nat.le_of_ble_eq_true rfl⟩) (wx_pv CM (lw_left hP) (lw_leftD hD) hS (q := 0) (ci := 9) (by decide) (eM_0 _ _ _) rfl) rfl rfl hl.1 rfl (lv_room (Nat.le_of_ble_eq_true rfl)) dL_law_506 ⟨Nat.le_of_ble_eq_true rfl, Nat.le_of_ble_eq_true rfl⟩) (fun r2 τ' H locs h hP hD hS => ?_)
  exact lv_icmp_eq (tgt := 823) hx hb dL_law_509 (by decide) (fun _ => nxt σ' τ' H locs h.2 hP hD hS) (fun z => absurd h.1 z)

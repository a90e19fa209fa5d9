set_option maxHeartbeats 4000000 in
set_option maxRecDepth 100000 in
theorem lw_k16 {p : Program} {l : Launch} {e : Env} {s : State} {m : MethodId} {below : List Frame} {meth : Method} {c : Code} {H : Heap} {locs : List Loc} {Q : State → Prop} {D : va_G} {cI cB cS cR : ClassId} {tS tP : Nat} {kS vS : Nat → Nat} {adC adM : Nat → Nat} {b L i : Nat} {xs : Nat → Int32} {σ τ : wx_Z} {ls : Array Slot} (C0 : LX p s m c D cI cB cS cR tS tP kS vS b L xs) (hi : i + 2 < L) (hR : RR σ τ) (hP : va_P D vwCl (wx_w 58 (wC_E cI cB cS cR adC) adC σ ++ wx_w 14 (wM_E cI adM) adM τ) H) (hD : va_D (lwA s) (wx_w 58 (wC_E cI cB cS cR adC) adC σ ++ wx_w 14 (wM_E cI adM) adM τ)) (hS : va_S (lwA s) s.heap H locs) (hl : lv_has ls 4 [(0, .ref b), (1, .ref (adC 0)), (2, .ref (adM 0)), (3, .int (nI i))]) (nxt : ∀ (σ' τ' : wx_Z) (H : Heap) (locs : List Loc), RR σ' τ' → va_P D vwCl (wx_w 58 (wC_E cI cB cS cR adC) adC σ' ++ wx_w 14 (wM_E cI adM) adM τ') H → va_D (lwA s) (wx_w 58 (wC_E cI cB cS cR adC) adC σ' ++ wx_w 14 (wM_E cI adM) adM τ') → va_S (lwA s) s.heap H locs → W p l e room_1 s m #[Value.ref b] below meth c H locs 72 2932 Q (F0 m 823 ls [])) : W p l e room_1 s m #[Value.ref b] below meth c H locs 72 2932 Q (F0 m 514 ls []) := by
  obtain ⟨C, hX, hbl, hL⟩ := C0
  obtain ⟨⟨hx, hb, hml, hown, hts⟩, hA, hK, -, hro⟩ := id C
  have CM : wx_C p s m #[Value.ref b] c cL_law 4 RL wsL_law D [(cI, .int)] wx_T0 (lwA s) := ⟨C.1, hA, hK.sub [0] rfl, wx_T0_ok, trivial⟩
  have hbA : ¬ lwA s b := Nat.not_le.mpr hbl
  have i1 : vp_in (nI i + 1) L := by rw [nI_1]; exact vp_in_nI (by omega) (by omega)
  have i2 : vp_in (nI i + 2) L := by rw [show (2 : Int32) = nI 2 from rfl, nI_add]; exact vp_in_nI (by omega) (by omega)
  have h := e_best (xs (nI i + 1).toNatClampNeg) hR
  refine lv_aload_n hx hb dL_law_514 rfl (lv_at hl 1 rfl) ?_
  refine lv_aload_n hx hb dL_law_515 rfl (lv_at hl 0 rfl) ?_
  refine lv_iload_n hx hb dL_law_516 rfl (lv_at hl 3 rfl) ?_
  refine lv_iconst (v := 1) hx hb dL_law_517 (by decide) ?_
  refine lv_iadd hx hb dL_law_518 ?_
  refine va_sld hx hb hX hbl hbA hS i1 dL_law_519 ?_
  refine lw_ci hA hP hD hS (va_runV (As := [.int (xs (nI i + 1).toNatClampNeg)]) (rest := []) C.1 (mtX8_best (l := l) (D := D) (sz := H.size) h) (cwV 1 hts gL_law_X8_best rfl rfl rfl (by decide +kernel) ⟨Nat.le_of_ble_eq_true rfl, Nat.le_of_ble_eq_true rfl⟩) (wx_pv C (lw_left hP) (lw_leftD hD) hS (q := 0) (ci := 8) (by decide) (eC_0 _) rfl) rfl rfl hl.1 rfl (lv_room (Nat.le_of_ble_eq_true rfl)) dL_law_520 ⟨Nat.le_of_ble_eq_true rfl, Nat.le_of_ble_eq_true rfl⟩) (fun r1 σ' H locs h hP hD hS => ?_)
  refine lv_aload_n hx hb dL_law_523 rfl (lv_at hl 2 rfl) ?_
  refine lv_aload_n hx hb dL_law_524 rfl (lv_at hl 0 rfl) ?_
  refine lv_iload_n hx hb dL_law_525 rfl (lv_at hl 3 rfl) ?_
  refine lv_iconst (v := 1) hx hb dL_law_526 (by decide) ?_
  refine lv_iadd hx hb dL_law_527 ?_
  refine va_sld hx hb hX hbl hbA hS i1 dL_law_528 ?_
  refine lw_ci hA hP hD hS (va_runV (As := [.int (xs (nI i + 1).toNatClampNeg)]) (rest := [.int r1]) CM.1 (mtX9_best (l := l) (D := D) (sz := H.size) h) (cwV 1 hts gL_law_X9_best rfl rfl rfl (by decide +kernel) ⟨Nat.le_of_ble_eq_true rfl, Nat.le_of_ble_eq_true rfl⟩) (wx_pv CM (lw_left hP) (lw_leftD hD) hS (q := 0) (ci := 9) (by decide) (eM_0 _ _ _) rfl) rfl rfl hl.1 rfl (lv_room (Nat.le_of_ble_eq_true rfl)) dL_law_529 ⟨Nat.le_of_ble_eq_true rfl, Nat.le_of_ble_eq_true rfl⟩) (fun r2 τ' H locs h hP hD hS => ?_)
  exact lv_icmp_eq (tgt := 823) hx hb dL_law_532 (by decide) (fun _ => nxt σ' τ' H locs h.2 hP hD hS) (fun z => absurd h.1 z)
set_option maxHeartbeats 4000000 in
set_option maxRecDepth 100000 in
theorem lw_k17 {p : Program} {l : Launch} {e : Env} {s : State} {m : MethodId} {below : List Frame} {meth : Method} {c : Code} {H : Heap} {locs : List Loc} {Q : State → Prop} {D : va_G} {cI cB cS cR : ClassId} {tS tP : Nat} {kS vS : Nat → Nat} {adC adM : Nat → Nat} {b L i : Nat} {xs : Nat → Int32} {σ τ : wx_Z} {ls : Array Slot} (C0 : LX p s m c D cI cB cS cR tS tP kS vS b L xs) (hi : i + 2 < L) (hR : RR σ τ) (hP : va_P D vwCl (wx_w 58 (wC_E cI cB cS cR adC) adC σ ++ wx_w 14 (wM_E cI adM) adM τ) H) (hD : va_D (lwA s) (wx_w 58 (wC_E cI cB cS cR adC) adC σ ++ wx_w 14 (wM_E cI adM) adM τ)) (hS : va_S (lwA s) s.heap H locs) (hl : lv_has ls 4 [(0, .ref b), (1, .ref (adC 0)), (2, .ref (adM 0)), (3, .int (nI i))]) (nxt : ∀ (σ' τ' : wx_Z) (H : Heap) (locs : List Loc), RR σ' τ' → va_P D vwCl (wx_w 58 (wC_E cI cB cS cR adC) adC σ' ++ wx_w 14 (wM_E cI adM) adM τ') H → va_D (lwA s) (wx_w 58 (wC_E cI cB cS cR adC) adC σ' ++ wx_w 14 (wM_E cI adM) adM τ') → va_S (lwA s) s.heap H locs → W p l e room_1 s m #[Value.ref b] below meth c H locs 72 2932 Q (F0 m 823 ls [])) : W p l e room_1 s m #[Value.ref b] below meth c H locs 72 2932 Q (F0 m 537 ls []) := by
  obtain ⟨C, hX, hbl, hL⟩ := C0
  obtain ⟨⟨hx, hb, hml, hown, hts⟩, hA, hK, -, hro⟩ := id C
  have CM : wx_C p s m #[Value.ref b] c cL_law 4 RL wsL_law D [(cI, .int)] wx_T0 (lwA s) := ⟨C.1, hA, hK.sub [0] rfl, wx_T0_ok, trivial⟩
  have hbA : ¬ lwA s b := Nat.not_le.mpr hbl
  have i1 : vp_in (nI i + 1) L := by rw [nI_1]; exact vp_in_nI (by omega) (by omega)
  have i2 : vp_in (nI i + 2) L := by rw [show (2 : Int32) = nI 2 from rfl, nI_add]; exact vp_in_nI (by omega) (by omega)
  have h := e_nearest (xs (nI i + 1).toNatClampNeg) hR
  refine lv_aload_n hx hb dL_law_537 rfl (lv_at hl 1 rfl) ?_
  refine lv_aload_n hx hb dL_law_538 rfl (lv_at hl 0 rfl) ?_
  refine lv_iload_n hx hb dL_law_539 rfl (lv_at hl 3 rfl) ?_
  refine lv_iconst (v := 1) hx hb dL_law_540 (by decide) ?_
  refine lv_iadd hx hb dL_law_541 ?_
  refine va_sld hx hb hX hbl hbA hS i1 dL_law_542 ?_
  refine lw_ci hA hP hD hS (va_runV (As := [.int (xs (nI i + 1).toNatClampNeg)]) (rest := []) C.1 (mtX8_nearest (l := l) (D := D) (sz := H.size) h) (cwV 1 hts gL_law_X8_nearest rfl rfl rfl (by decide +kernel) ⟨Nat.le_of_ble_eq_true rfl, Nat.le_of_ble_eq_true rfl⟩) (wx_pv C (lw_left hP) (lw_leftD hD) hS (q := 0) (ci := 8) (by decide) (eC_0 _) rfl) rfl rfl hl.1 rfl (lv_room (Nat.le_of_ble_eq_true rfl)) dL_law_543 ⟨Nat.le_of_ble_eq_true rfl, Nat.le_of_ble_eq_true rfl⟩) (fun r1 σ' H locs h hP hD hS => ?_)
  refine lv_aload_n hx hb dL_law_546 rfl (lv_at hl 2 rfl) ?_
  refine lv_aload_n hx hb dL_law_547 rfl (lv_at hl 0 rfl) ?_
  refine lv_iload_n hx hb dL_law_548 rfl (lv_at hl 3 rfl) ?_
  refine lv_iconst (v := 1) hx hb dL_law_549 (by decide) ?_
  refine lv_iadd hx hb dL_law_550 ?_
  refine va_sld hx hb hX hbl hbA hS i1 dL_law_551 ?_
  refine lw_ci hA hP hD hS (va_runV (As := [.int (xs (nI i + 1).toNatClampNeg)]) (rest := [.int r1]) CM.1 (mtX9_nearest (l := l) (D := D) (sz := H.size) h) (cwV 1 hts gL_law_X9_nearest rfl rfl rfl (by decide +kernel) ⟨Nat.le_of_ble_eq_true rfl, Nat.le_of_ble_eq_true rfl⟩) (wx_pv CM (lw_left hP) (lw_leftD hD) hS (q := 0) (ci := 9) (by decide) (eM_0 _ _ _) rfl) rfl rfl hl.1 rfl (lv_room (Nat.le_of_ble_eq_true rfl)) dL_law_552 ⟨Nat.le_of_ble_eq_true rfl, Nat.le_of_ble_eq_true rfl⟩) (fun r2 τ' H locs h hP hD hS => ?_)
  exact lv_icmp_eq (tgt := 823) hx hb dL_law_555 (by decide) (fun _ => nxt σ' τ' H locs h.2 hP hD hS) (fun z => absurd h.1 z)
set_option maxHeartbeats 4000000 in
set_option maxRecDepth 100000 in
theorem lw_k18 {p : Program} {l : Launch} {e : Env} {s : State} {m : MethodId} {below : List Frame} {meth : Method} {c : Code} {H : Heap} {locs : List Loc} {Q : State → Prop} {D : va_G} {cI cB cS cR : ClassId} {tS tP : Nat} {kS vS : Nat → Nat} {adC adM : Nat → Nat} {b L i : Nat} {xs : Nat → Int32} {σ τ : wx_Z} {ls : Array Slot} (C0 : LX p s m c D cI cB cS cR tS tP kS vS b L xs) (hi : i + 2 < L) (hR : RR σ τ) (hP : va_P D vwCl (wx_w 58 (wC_E cI cB cS cR adC) adC σ ++ wx_w 14 (wM_E cI adM) adM τ) H) (hD : va_D (lwA s) (wx_w 58 (wC_E cI cB cS cR adC) adC σ ++ wx_w 14 (wM_E cI adM) adM τ)) (hS : va_S (lwA s) s.heap H locs) (hl : lv_has ls 4 [(0, .ref b), (1, .ref (adC 0)), (2, .ref (adM 0)), (3, .int (nI i))]) (nxt : ∀ (σ' τ' : wx_Z) (H : Heap) (locs : List Loc), RR σ' τ' → va_P D vwCl (wx_w 58 (wC_E cI cB cS cR adC) adC σ' ++ wx_w 14 (wM_E cI adM) adM τ') H → va_D (lwA s) (wx_w 58 (wC_E cI cB cS cR adC) adC σ' ++ wx_w 14 (wM_E cI adM) adM τ') → va_S (lwA s) s.heap H locs → W p l e room_1 s m #[Value.ref b] below meth c H locs 72 2932 Q (F0 m 823 ls [])) : W p l e room_1 s m #[Value.ref b] below meth c H locs 72 2932 Q (F0 m 560 ls []) := by
  obtain ⟨C, hX, hbl, hL⟩ := C0
  obtain ⟨⟨hx, hb, hml, hown, hts⟩, hA, hK, -, hro⟩ := id C
  have CM : wx_C p s m #[Value.ref b] c cL_law 4 RL wsL_law D [(cI, .int)] wx_T0 (lwA s) := ⟨C.1, hA, hK.sub [0] rfl, wx_T0_ok, trivial⟩
  have hbA : ¬ lwA s b := Nat.not_le.mpr hbl
  have i1 : vp_in (nI i + 1) L := by rw [nI_1]; exact vp_in_nI (by omega) (by omega)
  have i2 : vp_in (nI i + 2) L := by rw [show (2 : Int32) = nI 2 from rfl, nI_add]; exact vp_in_nI (by omega) (by omega)
  have h := e_near hR
  refine lv_aload_n hx hb dL_law_560 rfl (lv_at hl 1 rfl) ?_
  refine lw_ci hA hP hD hS (va_runV (As := []) (rest := []) C.1 (mtX8_near (l := l) (D := D) (sz := H.size) h) (cwV 0 hts gL_law_X8_near rfl rfl rfl (by decide +kernel) ⟨Nat.le_of_ble_eq_true rfl, Nat.le_of_ble_eq_true rfl⟩) (wx_pv C (lw_left hP) (lw_leftD hD) hS (q := 0) (ci := 8) (by decide) (eC_0 _) rfl) rfl rfl hl.1 rfl (lv_room (Nat.le_of_ble_eq_true rfl)) dL_law_561 ⟨Nat.le_of_ble_eq_true rfl, Nat.le_of_ble_eq_true rfl⟩) (fun r1 σ' H locs h hP hD hS => ?_)
  refine lv_aload_n hx hb dL_law_564 rfl (lv_at hl 2 rfl) ?_
  refine lw_ci hA hP hD hS (va_runV (As := []) (rest := [.int r1]) CM.1 (mtX9_near (l := l) (D := D) (sz := H.size) h) (cwV 0 hts gL_law_X9_near rfl rfl rfl (by decide +kernel) ⟨Nat.le_of_ble_eq_true rfl, Nat.le_of_ble_eq_true rfl⟩) (wx_pv CM (lw_left hP) (lw_leftD hD) hS (q := 0) (ci := 9) (by decide) (eM_0 _ _ _) rfl) rfl rfl hl.1 rfl (lv_room (Nat.le_of_ble_eq_true rfl)) dL_law_565 ⟨Nat.le_of_ble_eq_true rfl, Nat.le_of_ble_eq_true rfl⟩) (fun r2 τ' H locs h hP hD hS => ?_)
  exact lv_icmp_eq (tgt := 823) hx hb dL_law_568 (by decide) (fun _ => nxt σ' τ' H locs h.2 hP hD hS) (fun z => absurd h.1 z)
set_option maxHeartbeats 4000000 in
set_option maxRecDepth 100000 in
theorem lw_k19 {p : Program} {l : Launch} {e : Env} {s : State} {m : MethodId} {below : List Frame} {meth : Method} {c : Code} {H : Heap} {locs : List Loc} {Q : State → Prop} {D : va_G} {cI cB cS cR : ClassId} {tS tP : Nat} {kS vS : Nat → Nat} {adC adM : Nat → Nat} {b L i : Nat} {xs : Nat → Int32} {σ τ : wx_Z} {ls : Array Slot} (C0 : LX p s m c D cI cB cS cR tS tP kS vS b L xs) (hi : i + 2 < L) (hR : RR σ τ) (hP : va_P D vwCl (wx_w 58 (wC_E cI cB cS cR adC) adC σ ++ wx_w 14 (wM_E cI adM) adM τ) H) (hD : va_D (lwA s) (wx_w 58 (wC_E cI cB cS cR adC) adC σ ++ wx_w 14 (wM_E cI adM) adM τ)) (hS : va_S (lwA s) s.heap H locs) (hl : lv_has ls 4 [(0, .ref b), (1, .ref (adC 0)), (2, .ref (adM 0)), (3, .int (nI i))]) (nxt : ∀ (σ' τ' : wx_Z) (H : Heap) (locs : List Loc), RR σ' τ' → va_P D vwCl (wx_w 58 (wC_E cI cB cS cR adC) adC σ' ++ wx_w 14 (wM_E cI adM) adM τ') H → va_D (lwA s) (wx_w 58 (wC_E cI cB cS cR adC) adC σ' ++ wx_w 14 (wM_E cI adM) adM τ') → va_S (lwA s) s.heap H locs → W p l e room_1 s m #[Value.ref b] below meth c H locs 72 2932 Q (F0 m 823 ls [])) : W p l e room_1 s m #[Value.ref b] below meth c H locs 72 2932 Q (F0 m 573 ls []) := by
  obtain ⟨C, hX, hbl, hL⟩ := C0
  obtain ⟨⟨hx, hb, hml, hown, hts⟩, hA, hK, -, hro⟩ := id C
  have CM : wx_C p s m #[Value.ref b] c cL_law 4 RL wsL_law D [(cI, .int)] wx_T0 (lwA s) := ⟨C.1, hA, hK.sub [0] rfl, wx_T0_ok, trivial⟩
  have hbA : ¬ lwA s b := Nat.not_le.mpr hbl
  have i1 : vp_in (nI i + 1) L := by rw [nI_1]; exact vp_in_nI (by omega) (by omega)
  have i2 : vp_in (nI i + 2) L := by rw [show (2 : Int32) = nI 2 from rfl, nI_add]; exact vp_in_nI (by omega) (by omega)
  have h := e_soft (xs (nI i + 1).toNatClampNeg) (xs (nI i + 2).toNatClampNeg) hR
  refine lv_aload_n hx hb dL_law_573 rfl (lv_at hl 1 rfl) ?_
  refine lv_aload_n hx hb dL_law_574 rfl (lv_at hl 0 rfl) ?_
  refine lv_iload_n hx hb dL_law_575 rfl (lv_at hl 3 rfl) ?_
  refine lv_iconst (v := 1) hx hb dL_law_576 (by decide) ?_
  refine lv_iadd hx hb dL_law_577 ?_
  refine va_sld hx hb hX hbl hbA hS i1 dL_law_578 ?_
  refine lv_aload_n hx hb dL_law_579 rfl (lv_at hl 0 rfl) ?_
  refine lv_iload_n hx hb dL_law_580 rfl (lv_at hl 3 rfl) ?_
  refine lv_iconst (v := 2) hx hb dL_law_581 (by decide) ?_
  refine lv_iadd hx hb dL_law_582 ?_
  refine va_sld hx hb hX hbl hbA hS i2 dL_law_583 ?_
  refine lw_ci hA hP hD hS (va_runV (As := [.int (xs (nI i + 1).toNatClampNeg), .int (xs (nI i + 2).toNatClampNeg)]) (rest := []) C.1 (mtX8_soft (l := l) (D := D) (sz := H.size) h) (cwV 2 hts gL_law_X8_soft rfl rfl rfl (by decide +kernel) ⟨Nat.le_of_ble_eq_true rfl, Nat.le_of_ble_eq_true rfl⟩) (wx_pv C (lw_left hP) (lw_leftD hD) hS (q := 0) (ci := 8) (by decide) (eC_0 _) rfl) rfl rfl hl.1 rfl (lv_room (Nat.le_of_ble_eq_true rfl)) dL_law_584 ⟨Nat.le_of_ble_eq_true rfl, Nat.le_of_ble_eq_true rfl⟩) (fun r1 σ' H locs h hP hD hS => ?_)
  refine lv_aload_n hx hb dL_law_587 rfl (lv_at hl 2 rfl) ?_
  refine lv_aload_n hx hb dL_law_588 rfl (lv_at hl 0 rfl) ?_
  refine lv_iload_n hx hb dL_law_589 rfl (lv_at hl 3 rfl) ?_
  refine lv_iconst (v := 1) hx hb dL_law_590 (by decide) ?_
  refine lv_iadd hx hb dL_law_591 ?_
  refine va_sld hx hb hX hbl hbA hS i1 dL_law_592 ?_
  refine lv_aload_n hx hb dL_law_593 rfl (lv_at hl 0 rfl) ?_
  refine lv_iload_n hx hb dL_law_594 rfl (lv_at hl 3 rfl) ?_
  refine lv_iconst (v := 2) hx hb dL_law_595 (by decide) ?_
  refine lv_iadd hx hb dL_law_596 ?_
  refine va_sld hx hb hX hbl hbA hS i2 dL_law_597 ?_
  refine lw_ci hA hP hD hS (va_runV (As := [.int (xs (nI i + 1).toNatClampNeg), .int (xs (nI i + 2).toNatClampNeg)]) (rest := [.int r1]) CM.1 (mtX9_soft (l := l) (D := D) (sz := H.size) h) (cwV 2 hts gL_law_X9_soft rfl rfl rfl (by decide +kernel) ⟨Nat.le_of_ble_eq_true rfl, Nat.le_of_ble_eq_true rfl⟩) (wx_pv CM (lw_left hP) (lw_leftD hD) hS (q := 0) (ci := 9) (by decide) (eM_0 _ _ _) rfl) rfl rfl hl.1 rfl (lv_room (Nat.le_of_ble_eq_true rfl)) dL_law_598 ⟨Nat.le_of_ble_eq_true rfl, Nat.le_of_ble_eq_true rfl⟩) (fun r2 τ' H locs h hP hD hS => ?_)
  exact lv_icmp_eq (tgt := 823) hx hb dL_law_601 (by decide) (fun _ => nxt σ' τ' H locs h.2 hP hD hS) (fun z => absurd h.1 z)
set_option maxHeartbeats 4000000 in
set_option maxRecDepth 100000 in
theorem lw_k20 {p : Program} {l : Launch} {e : Env} {s : State} {m : MethodId} {below : List Frame} {meth : Method} {c : Code} {H : Heap} {locs : List Loc} {Q : State → Prop} {D : va_G} {cI cB cS cR : ClassId} {tS tP : Nat} {kS vS : Nat → Nat} {adC adM : Nat → Nat} {b L i : Nat} {xs : Nat → Int32} {σ τ : wx_Z} {ls : Array Slot} (C0 : LX p s m c D cI cB cS cR tS tP kS vS b L xs) (hi : i + 2 < L) (hR : RR σ τ) (hP : va_P D vwCl (wx_w 58 (wC_E cI cB cS cR adC) adC σ ++ wx_w 14 (wM_E cI adM) adM τ) H) (hD : va_D (lwA s) (wx_w 58 (wC_E cI cB cS cR adC) adC σ ++ wx_w 14 (wM_E cI adM) adM τ)) (hS : va_S (lwA s) s.heap H locs) (hl : lv_has ls 4 [(0, .ref b), (1, .ref (adC 0)), (2, .ref (adM 0)), (3, .int (nI i))]) (nxt : ∀ (σ' τ' : wx_Z) (H : Heap) (locs : List Loc), RR σ' τ' → va_P D vwCl (wx_w 58 (wC_E cI cB cS cR adC) adC σ' ++ wx_w 14 (wM_E cI adM) adM τ') H → va_D (lwA s) (wx_w 58 (wC_E cI cB cS cR adC) adC σ' ++ wx_w 14 (wM_E cI adM) adM τ') → va_S (lwA s) s.heap H locs → W p l e room_1 s m #[Value.ref b] below meth c H locs 72 2932 Q (F0 m 823 ls [])) : W p l e room_1 s m #[Value.ref b] below meth c H locs 72 2932 Q (F0 m 606 ls []) := by
  obtain ⟨C, hX, hbl, hL⟩ := C0
  obtain ⟨⟨hx, hb, hml, hown, hts⟩, hA, hK, -, hro⟩ := id C
  have CM : wx_C p s m #[Value.ref b] c cL_law 4 RL wsL_law D [(cI, .int)] wx_T0 (lwA s) := ⟨C.1, hA, hK.sub [0] rfl, wx_T0_ok, trivial⟩
  have hbA : ¬ lwA s b := Nat.not_le.mpr hbl
  have i1 : vp_in (nI i + 1) L := by rw [nI_1]; exact vp_in_nI (by omega) (by omega)
  have i2 : vp_in (nI i + 2) L := by rw [show (2 : Int32) = nI 2 from rfl, nI_add]; exact vp_in_nI (by omega) (by omega)
  have h := e_harden (xs (nI i + 1).toNatClampNeg) hR
  refine lv_aload_n hx hb dL_law_606 rfl (lv_at hl 1 rfl) ?_
  refine lv_aload_n hx hb dL_law_607 rfl (lv_at hl 0 rfl) ?_
  refine lv_iload_n hx hb dL_law_608 rfl (lv_at hl 3 rfl) ?_
  refine lv_iconst (v := 1) hx hb dL_law_609 (by decide) ?_
  refine lv_iadd hx hb dL_law_610 ?_
  refine va_sld hx hb hX hbl hbA hS i1 dL_law_611 ?_
  refine lw_ci hA hP hD hS (va_runV (As := [.int (xs (nI i + 1).toNatClampNeg)]) (rest := []) C.1 (mtX8_harden (l := l) (D := D) (sz := H.size) h) (cwV 1 hts gL_law_X8_harden rfl rfl rfl (by decide +kernel) ⟨Nat.le_of_ble_eq_true rfl, Nat.le_of_ble_eq_true rfl⟩) (wx_pv C (lw_left hP) (lw_leftD hD) hS (q := 0) (ci := 8) (by decide) (eC_0 _) rfl) rfl rfl hl.1 rfl (lv_room (Nat.le_of_ble_eq_true rfl)) dL_law_612 ⟨Nat.le_of_ble_eq_true rfl, Nat.le_of_ble_eq_true rfl⟩) (fun r1 σ' H locs h hP hD hS => ?_)
  refine lv_aload_n hx hb dL_law_615 rfl (lv_at hl 2 rfl) ?_
  refine lv_aload_n hx hb dL_law_616 rfl (lv_at hl 0 rfl) ?_
  refine lv_iload_n hx hb dL_law_617 rfl (lv_at hl 3 rfl) ?_
  refine lv_iconst (v := 1) hx hb dL_law_618 (by decide) ?_
  refine lv_iadd hx hb dL_law_619 ?_
  refine va_sld hx hb hX hbl hbA hS i1 dL_law_620 ?_
  refine lw_ci hA hP hD hS (va_runV (As := [.int (xs (nI i + 1).toNatClampNeg)]) (rest := [.int r1]) CM.1 (mtX9_harden (l := l) (D := D) (sz := H.size) h) (cwV 1 hts gL_law_X9_harden rfl rfl rfl (by decide +kernel) ⟨Nat.le_of_ble_eq_true rfl, Nat.le_of_ble_eq_true rfl⟩) (wx_pv CM (lw_left hP) (lw_leftD hD) hS (q := 0) (ci := 9) (by decide) (eM_0 _ _ _) rfl) rfl rfl hl.1 rfl (lv_room (Nat.le_of_ble_eq_true rfl)) dL_law_621 ⟨Nat.le_of_ble_eq_true rfl, Nat.le_of_ble_eq_true rfl⟩) (fun r2 τ' H locs h hP hD hS => ?_)
  exact lv_icmp_eq (tgt := 823) hx hb dL_law_624 (by decide) (fun _ => nxt σ' τ' H locs h.2 hP hD hS) (fun z => absurd h.1 z)
set_option maxHeartbeats 4000000 in
set_option maxRecDepth 100000 in
theorem lw_k21 {p : Program} {l : Launch} {e : Env} {s : State} {m : MethodId} {below : List Frame} {meth : Method} {c : Code} {H : Heap} {locs : List Loc} {Q : State → Prop} {D : va_G} {cI cB cS cR : ClassId} {tS tP : Nat} {kS vS : Nat → Nat} {adC adM : Nat → Nat} {b L i : Nat} {xs : Nat → Int32} {σ τ : wx_Z} {ls : Array Slot} (C0 : LX p s m c D cI cB cS cR tS tP kS vS b L xs) (hi : i + 2 < L) (hR : RR σ τ) (hP : va_P D vwCl (wx_w 58 (wC_E cI cB cS cR adC) adC σ ++ wx_w 14 (wM_E cI adM) adM τ) H) (hD : va_D (lwA s) (wx_w 58 (wC_E cI cB cS cR adC) adC σ ++ wx_w 14 (wM_E cI adM) adM τ)) (hS : va_S (lwA s) s.heap H locs) (hl : lv_has ls 4 [(0, .ref b), (1, .ref (adC 0)), (2, .ref (adM 0)), (3, .int (nI i))]) (nxt : ∀ (σ' τ' : wx_Z) (H : Heap) (locs : List Loc), RR σ' τ' → va_P D vwCl (wx_w 58 (wC_E cI cB cS cR adC) adC σ' ++ wx_w 14 (wM_E cI adM) adM τ') H → va_D (lwA s) (wx_w 58 (wC_E cI cB cS cR adC) adC σ' ++ wx_w 14 (wM_E cI adM) adM τ') → va_S (lwA s) s.heap H locs → W p l e room_1 s m #[Value.ref b] below meth c H locs 72 2932 Q (F0 m 823 ls [])) : W p l e room_1 s m #[Value.ref b] below meth c H locs 72 2932 Q (F0 m 629 ls []) := by
  obtain ⟨C, hX, hbl, hL⟩ := C0
  obtain ⟨⟨hx, hb, hml, hown, hts⟩, hA, hK, -, hro⟩ := id C
  have CM : wx_C p s m #[Value.ref b] c cL_law 4 RL wsL_law D [(cI, .int)] wx_T0 (lwA s) := ⟨C.1, hA, hK.sub [0] rfl, wx_T0_ok, trivial⟩
  have hbA : ¬ lwA s b := Nat.not_le.mpr hbl
  have i1 : vp_in (nI i + 1) L := by rw [nI_1]; exact vp_in_nI (by omega) (by omega)
  have i2 : vp_in (nI i + 2) L := by rw [show (2 : Int32) = nI 2 from rfl, nI_add]; exact vp_in_nI (by omega) (by omega)
  have h := e_halves hR
  refine lv_aload_n hx hb dL_law_629 rfl (lv_at hl 1 rfl) ?_
  refine lw_ci hA hP hD hS (va_runV (As := []) (rest := []) C.1 (mtX8_halves (l := l) (D := D) (sz := H.size) h) (cwV 0 hts gL_law_X8_halves rfl rfl rfl (by decide +kernel) ⟨Nat.le_of_ble_eq_true rfl, Nat.le_of_ble_eq_true rfl⟩) (wx_pv C (lw_left hP) (lw_leftD hD) hS (q := 0) (ci := 8) (by decide) (eC_0 _) rfl) rfl rfl hl.1 rfl (lv_room (Nat.le_of_ble_eq_true rfl)) dL_law_630 ⟨Nat.le_of_ble_eq_true rfl, Nat.le_of_ble_eq_true rfl⟩) (fun r1 σ' H locs h hP hD hS => ?_)
  refine lv_aload_n hx hb dL_law_633 rfl (lv_at hl 2 rfl) ?_
  refine lw_ci hA hP hD hS (va_runV (As := []) (rest := [.int r1]) CM.1 (mtX9_halves (l := l) (D := D) (sz := H.size) h) (cwV 0 hts gL_law_X9_halves rfl rfl rfl (by decide +kernel) ⟨Nat.le_of_ble_eq_true rfl, Nat.le_of_ble_eq_true rfl⟩) (wx_pv CM (lw_left hP) (lw_leftD hD) hS (q := 0) (ci := 9) (by decide) (eM_0 _ _ _) rfl) rfl rfl hl.1 rfl (lv_room (Nat.le_of_ble_eq_true rfl)) dL_law_634 ⟨Nat.le_of_ble_eq_true rfl, Nat.le_of_ble_eq_true rfl⟩) (fun r2 τ' H locs h hP hD hS => ?_)
  exact lv_icmp_eq (tgt := 823) hx hb dL_law_637 (by decide) (fun _ => nxt σ' τ' H locs h.2 hP hD hS) (fun z => absurd h.1 z)
set_option maxHeartbeats 4000000 in
set_option maxRecDepth 100000 in
theorem lw_k22 {p : Program} {l : Launch} {e : Env} {s : State} {m : MethodId} {below : List Frame} {meth : Method} {c : Code} {H : Heap} {locs : List Loc} {Q : State → Prop} {D : va_G} {cI cB cS cR : ClassId} {tS tP : Nat} {kS vS : Nat → Nat} {adC adM : Nat → Nat} {b L i : Nat} {xs : Nat → Int32} {σ τ : wx_Z} {ls : Array Slot} (C0 : LX p s m c D cI cB cS cR tS tP kS vS b L xs) (hi : i + 2 < L) (hR : RR σ τ) (hP : va_P D vwCl (wx_w 58 (wC_E cI cB cS cR adC) adC σ ++ wx_w 14 (wM_E cI adM) adM τ) H) (hD : va_D (lwA s) (wx_w 58 (wC_E cI cB cS cR adC) adC σ ++ wx_w 14 (wM_E cI adM) adM τ)) (hS : va_S (lwA s) s.heap H locs) (hl : lv_has ls 4 [(0, .ref b), (1, .ref (adC 0)), (2, .ref (adM 0)), (3, .int (nI i))]) (nxt : ∀ (σ' τ' : wx_Z) (H : Heap) (locs : List Loc), RR σ' τ' → va_P D vwCl (wx_w 58 (wC_E cI cB cS cR adC) adC σ' ++ wx_w 14 (wM_E cI adM) adM τ') H → va_D (lwA s) (wx_w 58 (wC_E cI cB cS cR adC) adC σ' ++ wx_w 14 (wM_E cI adM) adM τ') → va_S (lwA s) s.heap H locs → W p l e room_1 s m #[Value.ref b] below meth c H locs 72 2932 Q (F0 m 823 ls [])) : W p l e room_1 s m #[Value.ref b] below meth c H locs 72 2932 Q (F0 m 642 ls []) := by
  obtain ⟨C, hX, hbl, hL⟩ := C0
  obtain ⟨⟨hx, hb, hml, hown, hts⟩, hA, hK, -, hro⟩ := id C
  have CM : wx_C p s m #[Value.ref b] c cL_law 4 RL wsL_law D [(cI, .int)] wx_T0 (lwA s) := ⟨C.1, hA, hK.sub [0] rfl, wx_T0_ok, trivial⟩
  have hbA : ¬ lwA s b := Nat.not_le.mpr hbl
  have i1 : vp_in (nI i + 1) L := by rw [nI_1]; exact vp_in_nI (by omega) (by omega)
  have i2 : vp_in (nI i + 2) L := by rw [show (2 : Int32) = nI 2 from rfl, nI_add]; exact vp_in_nI (by omega) (by omega)
  have h := e_merit (xs (nI i + 1).toNatClampNeg) hR
  refine lv_aload_n hx hb dL_law_642 rfl (lv_at hl 1 rfl) ?_
  refine lv_aload_n hx hb dL_law_643 rfl (lv_at hl 0 rfl) ?_
  refine lv_iload_n hx hb dL_law_644 rfl (lv_at hl 3 rfl) ?_
  refine lv_iconst (v := 1) hx hb dL_law_645 (by decide) ?_
  refine lv_iadd hx hb dL_law_646 ?_
  refine va_sld hx hb hX hbl hbA hS i1 dL_law_647 ?_
  refine lw_ci hA hP hD hS (va_runV (As := [.int (xs (nI i + 1).toNatClampNeg)]) (rest := []) C.1 (mtX8_merit (l := l) (D := D) (sz := H.size) h) (cwV 1 hts gL_law_X8_merit rfl rfl rfl (by decide +kernel) ⟨Nat.le_of_ble_eq_true rfl, Nat.le_of_ble_eq_true rfl⟩) (wx_pv C (lw_left hP) (lw_leftD hD) hS (q := 0) (ci := 8) (by decide) (eC_0 _) rfl) rfl rfl hl.1 rfl (lv_room (Nat.le_of_ble_eq_true rfl)) dL_law_648 ⟨Nat.le_of_ble_eq_true rfl, Nat.le_of_ble_eq_true rfl⟩) (fun r1 σ' H locs h hP hD hS => ?_)
  refine lv_aload_n hx hb dL_law_651 rfl (lv_at hl 2 rfl) ?_
  refine lv_aload_n hx hb dL_law_652 rfl (lv_at hl 0 rfl) ?_
  refine lv_iload_n hx hb dL_law_653 rfl (lv_at hl 3 rfl) ?_
  refine lv_iconst (v := 1) hx hb dL_law_654 (by decide) ?_
  refine lv_iadd hx hb dL_law_655 ?_
  refine va_sld hx hb hX hbl hbA hS i1 dL_law_656 ?_
  refine lw_ci hA hP hD hS (va_runV (As := [.int (xs (nI i + 1).toNatClampNeg)]) (rest := [.int r1]) CM.1 (mtX9_merit (l := l) (D := D) (sz := H.size) h) (cwV 1 hts gL_law_X9_merit rfl rfl rfl (by decide +kernel) ⟨Nat.le_of_ble_eq_true rfl, Nat.le_of_ble_eq_true rfl⟩) (wx_pv CM (lw_left hP) (lw_leftD hD) hS (q := 0) (ci := 9) (by decide) (eM_0 _ _ _) rfl) rfl rfl hl.1 rfl (lv_room (Nat.le_of_ble_eq_true rfl)) dL_law_657 ⟨Nat.le_of_ble_eq_true rfl, Nat.le_of_ble_eq_true rfl⟩) (fun r2 τ' H locs h hP hD hS => ?_)
  exact lv_icmp_eq (tgt := 823) hx hb dL_law_660 (by decide) (fun _ => nxt σ' τ' H locs h.2 hP hD hS) (fun z => absurd h.1 z)
set_option maxHeartbeats 4000000 in
set_option maxRecDepth 100000 in
theorem lw_k23 {p : Program} {l : Launch} {e : Env} {s : State} {m : MethodId} {below : List Frame} {meth : Method} {c : Code} {H : Heap} {locs : List Loc} {Q : State → Prop} {D : va_G} {cI cB cS cR : ClassId} {tS tP : Nat} {kS vS : Nat → Nat} {adC adM : Nat → Nat} {b L i : Nat} {xs : Nat → Int32} {σ τ : wx_Z} {ls : Array Slot} (C0 : LX p s m c D cI cB cS cR tS tP kS vS b L xs) (hi : i + 2 < L) (hR : RR σ τ) (hP : va_P D vwCl (wx_w 58 (wC_E cI cB cS cR adC) adC σ ++ wx_w 14 (wM_E cI adM) adM τ) H) (hD : va_D (lwA s) (wx_w 58 (wC_E cI cB cS cR adC) adC σ ++ wx_w 14 (wM_E cI adM) adM τ)) (hS : va_S (lwA s) s.heap H locs) (hl : lv_has ls 4 [(0, .ref b), (1, .ref (adC 0)), (2, .ref (adM 0)), (3, .int (nI i))]) (nxt : ∀ (σ' τ' : wx_Z) (H : Heap) (locs : List Loc), RR σ' τ' → va_P D vwCl (wx_w 58 (wC_E cI cB cS cR adC) adC σ' ++ wx_w 14 (wM_E cI adM) adM τ') H → va_D (lwA s) (wx_w 58 (wC_E cI cB cS cR adC) adC σ' ++ wx_w 14 (wM_E cI adM) adM τ') → va_S (lwA s) s.heap H locs → W p l e room_1 s m #[Value.ref b] below meth c H locs 72 2932 Q (F0 m 823 ls [])) : W p l e room_1 s m #[Value.ref b] below meth c H locs 72 2932 Q (F0 m 665 ls []) := by
  obtain ⟨C, hX, hbl, hL⟩ := C0
  obtain ⟨⟨hx, hb, hml, hown, hts⟩, hA, hK, -, hro⟩ := id C
  have CM : wx_C p s m #[Value.ref b] c cL_law 4 RL wsL_law D [(cI, .int)] wx_T0 (lwA s) := ⟨C.1, hA, hK.sub [0] rfl, wx_T0_ok, trivial⟩
  have hbA : ¬ lwA s b := Nat.not_le.mpr hbl
  have i1 : vp_in (nI i + 1) L := by rw [nI_1]; exact vp_in_nI (by omega) (by omega)
  have i2 : vp_in (nI i + 2) L := by rw [show (2 : Int32) = nI 2 from rfl, nI_add]; exact vp_in_nI (by omega) (by omega)
  have h := e_weights (xs (nI i + 1).toNatClampNeg) hR
  refine lv_aload_n hx hb dL_law_665 rfl (lv_at hl 1 rfl) ?_
  refine lv_aload_n hx hb dL_law_666 rfl (lv_at hl 0 rfl) ?_
  refine lv_iload_n hx hb dL_law_667 rfl (lv_at hl 3 rfl) ?_
  refine lv_iconst (v := 1) hx hb dL_law_668 (by decide) ?_
  refine lv_iadd hx hb dL_law_669 ?_
  refine va_sld hx hb hX hbl hbA hS i1 dL_law_670 ?_
  refine lw_ci hA hP hD hS (va_runV (As := [.int (xs (nI i + 1).toNatClampNeg)]) (rest := []) C.1 (mtX8_weights (l := l) (D := D) (sz := H.size) h) (cwV 1 hts gL_law_X8_weights rfl rfl rfl (by decide +kernel) ⟨Nat.le_of_ble_eq_true rfl, Nat.le_of_ble_eq_true rfl⟩) (wx_pv C (lw_left hP) (lw_leftD hD) hS (q := 0) (ci := 8) (by decide) (eC_0 _) rfl) rfl rfl hl.1 rfl (lv_room (Nat.le_of_ble_eq_true rfl)) dL_law_671 ⟨Nat.le_of_ble_eq_true rfl, Nat.le_of_ble_eq_true rfl⟩) (fun r1 σ' H locs h hP hD hS => ?_)
  refine lv_aload_n hx hb dL_law_674 rfl (lv_at hl 2 rfl) ?_
  refine lv_aload_n hx hb dL_law_675 rfl (lv_at hl 0 rfl) ?_
  refine lv_iload_n hx hb dL_law_676 rfl (lv_at hl 3 rfl) ?_
  refine lv_iconst (v := 1) hx hb dL_law_677 (by decide) ?_
  refine lv_iadd hx hb dL_law_678 ?_
  refine va_sld hx hb hX hbl hbA hS i1 dL_law_679 ?_
  refine lw_ci hA hP hD hS (va_runV (As := [.int (xs (nI i + 1).toNatClampNeg)]) (rest := [.int r1]) CM.1 (mtX9_weights (l := l) (D := D) (sz := H.size) h) (cwV 1 hts gL_law_X9_weights rfl rfl rfl (by decide +kernel) ⟨Nat.le_of_ble_eq_true rfl, Nat.le_of_ble_eq_true rfl⟩) (wx_pv CM (lw_left hP) (lw_leftD hD) hS (q := 0) (ci := 9) (by decide) (eM_0 _ _ _) rfl) rfl rfl hl.1 rfl (lv_room (Nat.le_of_ble_eq_true rfl)) dL_law_680 ⟨Nat.le_of_ble_eq_true rfl, Nat.le_of_ble_eq_true rfl⟩) (fun r2 τ' H locs h hP hD hS => ?_)
  exact lv_icmp_eq (tgt := 823) hx hb dL_law_683 (by decide) (fun _ => nxt σ' τ' H locs h.2 hP hD hS) (fun z => absurd h.1 z)
set_option maxHeartbeats 4000000 in
set_option maxRecDepth 100000 in
theorem lw_k24 {p : Program} {l : Launch} {e : Env} {s : State} {m : MethodId} {below : List Frame} {meth : Method} {c : Code} {H : Heap} {locs : List Loc} {Q : State → Prop} {D : va_G} {cI cB cS cR : ClassId} {tS tP : Nat} {kS vS : Nat → Nat} {adC adM : Nat → Nat} {b L i : Nat} {xs : Nat → Int32} {σ τ : wx_Z} {ls : Array Slot} (C0 : LX p s m c D cI cB cS cR tS tP kS vS b L xs) (hi : i + 2 < L) (hR : RR σ τ) (hP : va_P D vwCl (wx_w 58 (wC_E cI cB cS cR adC) adC σ ++ wx_w 14 (wM_E cI adM) adM τ) H) (hD : va_D (lwA s) (wx_w 58 (wC_E cI cB cS cR adC) adC σ ++ wx_w 14 (wM_E cI adM) adM τ)) (hS : va_S (lwA s) s.heap H locs) (hl : lv_has ls 4 [(0, .ref b), (1, .ref (adC 0)), (2, .ref (adM 0)), (3, .int (nI i))]) (nxt : ∀ (σ' τ' : wx_Z) (H : Heap) (locs : List Loc), RR σ' τ' → va_P D vwCl (wx_w 58 (wC_E cI cB cS cR adC) adC σ' ++ wx_w 14 (wM_E cI adM) adM τ') H → va_D (lwA s) (wx_w 58 (wC_E cI cB cS cR adC) adC σ' ++ wx_w 14 (wM_E cI adM) adM τ') → va_S (lwA s) s.heap H locs → W p l e room_1 s m #[Value.ref b] below meth c H locs 72 2932 Q (F0 m 823 ls [])) : W p l e room_1 s m #[Value.ref b] below meth c H locs 72 2932 Q (F0 m 688 ls []) := by
  obtain ⟨C, hX, hbl, hL⟩ := C0
  obtain ⟨⟨hx, hb, hml, hown, hts⟩, hA, hK, -, hro⟩ := id C
  have CM : wx_C p s m #[Value.ref b] c cL_law 4 RL wsL_law D [(cI, .int)] wx_T0 (lwA s) := ⟨C.1, hA, hK.sub [0] rfl, wx_T0_ok, trivial⟩
  have hbA : ¬ lwA s b := Nat.not_le.mpr hbl
  have i1 : vp_in (nI i + 1) L := by rw [nI_1]; exact vp_in_nI (by omega) (by omega)
  have i2 : vp_in (nI i + 2) L := by rw [show (2 : Int32) = nI 2 from rfl, nI_add]; exact vp_in_nI (by omega) (by omega)
  have h := e_perpendicular hR
  refine lv_aload_n hx hb dL_law_688 rfl (lv_at hl 1 rfl) ?_
  refine lw_ci hA hP hD hS (va_runV (As := []) (rest := []) C.1 (mtX8_perpendicular (l := l) (D := D) (sz := H.size) h) (cwV 0 hts gL_law_X8_perpendicular rfl rfl rfl (by decide +kernel) ⟨Nat.le_of_ble_eq_true rfl, Nat.le_of_ble_eq_true rfl⟩) (wx_pv C (lw_left hP) (lw_leftD hD) hS (q := 0) (ci := 8) (by decide) (eC_0 _) rfl) rfl rfl hl.1 rfl (lv_room (Nat.le_of_ble_eq_true rfl)) dL_law_689 ⟨Nat.le_of_ble_eq_true rfl, Nat.le_of_ble_eq_true rfl⟩) (fun r1 σ' H locs h hP hD hS => ?_)
  refine lv_aload_n hx hb dL_law_692 rfl (lv_at hl 2 rfl) ?_
  refine lw_ci hA hP hD hS (va_runV (As := []) (rest := [.int r1]) CM.1 (mtX9_perpendicular (l := l) (D := D) (sz := H.size) h) (cwV 0 hts gL_law_X9_perpendicular rfl rfl rfl (by decide +kernel) ⟨Nat.le_of_ble_eq_true rfl, Nat.le_of_ble_eq_true rfl⟩) (wx_pv CM (lw_left hP) (lw_leftD hD) hS (q := 0) (ci := 9) (by decide) (eM_0 _ _ _) rfl) rfl rfl hl.1 rfl (lv_room (Nat.le_of_ble_eq_true rfl)) dL_law_693 ⟨Nat.le_of_ble_eq_true rfl, Nat.le_of_ble_eq_true rfl⟩) (fun r2 τ' H locs h hP hD hS => ?_)
  exact lv_icmp_eq (tgt := 823) hx hb dL_law_696 (by decide) (fun _ => nxt σ' τ' H locs h.2 hP hD hS) (fun z => absurd h.1 z)
set_option maxHeartbeats 4000000 in
set_option maxRecDepth 100000 in
theorem lw_k25 {p : Program} {l : Launch} {e : Env} {s : State} {m : MethodId} {below : List Frame} {meth : Method} {c : Code} {H : Heap} {locs : List Loc} {Q : State → Prop} {D : va_G} {cI cB cS cR : ClassId} {tS tP : Nat} {kS vS : Nat → Nat} {adC adM : Nat → Nat} {b L i : Nat} {xs : Nat → Int32} {σ τ : wx_Z} {ls : Array Slot} (C0 : LX p s m c D cI cB cS cR tS tP kS vS b L xs) (hi : i + 2 < L) (hR : RR σ τ) (hP : va_P D vwCl (wx_w 58 (wC_E cI cB cS cR adC) adC σ ++ wx_w 14 (wM_E cI adM) adM τ) H) (hD : va_D (lwA s) (wx_w 58 (wC_E cI cB cS cR adC) adC σ ++ wx_w 14 (wM_E cI adM) adM τ)) (hS : va_S (lwA s) s.heap H locs) (hl : lv_has ls 4 [(0, .ref b), (1, .ref (adC 0)), (2, .ref (adM 0)), (3, .int (nI i))]) (nxt : ∀ (σ' τ' : wx_Z) (H : Heap) (locs : List Loc), RR σ' τ' → va_P D vwCl (wx_w 58 (wC_E cI cB cS cR adC) adC σ' ++ wx_w 14 (wM_E cI adM) adM τ') H → va_D (lwA s) (wx_w 58 (wC_E cI cB cS cR adC) adC σ' ++ wx_w 14 (wM_E cI adM) adM τ') → va_S (lwA s) s.heap H locs → W p l e room_1 s m #[Value.ref b] below meth c H locs 72 2932 Q (F0 m 823 ls [])) : W p l e room_1 s m #[Value.ref b] below meth c H locs 72 2932 Q (F0 m 701 ls []) := by
  obtain ⟨C, hX, hbl, hL⟩ := C0
  obtain ⟨⟨hx, hb, hml, hown, hts⟩, hA, hK, -, hro⟩ := id C
  have CM : wx_C p s m #[Value.ref b] c cL_law 4 RL wsL_law D [(cI, .int)] wx_T0 (lwA s) := ⟨C.1, hA, hK.sub [0] rfl, wx_T0_ok, trivial⟩
  have hbA : ¬ lwA s b := Nat.not_le.mpr hbl
  have i1 : vp_in (nI i + 1) L := by rw [nI_1]; exact vp_in_nI (by omega) (by omega)
  have i2 : vp_in (nI i + 2) L := by rw [show (2 : Int32) = nI 2 from rfl, nI_add]; exact vp_in_nI (by omega) (by omega)
  have h := e_asked (xs (nI i + 1).toNatClampNeg) hR
  refine lv_aload_n hx hb dL_law_701 rfl (lv_at hl 1 rfl) ?_
  refine lv_aload_n hx hb dL_law_702 rfl (lv_at hl 0 rfl) ?_
  refine lv_iload_n hx hb dL_law_703 rfl (lv_at hl 3 rfl) ?_
  refine lv_iconst (v := 1) hx hb dL_law_704 (by decide) ?_
  refine lv_iadd hx hb dL_law_705 ?_
  refine va_sld hx hb hX hbl hbA hS i1 dL_law_706 ?_
  refine lw_ci hA hP hD hS (va_runV (As := [.int (xs (nI i + 1).toNatClampNeg)]) (rest := []) C.1 (mtX8_asked (l := l) (D := D) (sz := H.size) h) (cwV 1 hts gL_law_X8_asked rfl rfl rfl (by decide +kernel) ⟨Nat.le_of_ble_eq_true rfl, Nat.le_of_ble_eq_true rfl⟩) (wx_pv C (lw_left hP) (lw_leftD hD) hS (q := 0) (ci := 8) (by decide) (eC_0 _) rfl) rfl rfl hl.1 rfl (lv_room (Nat.le_of_ble_eq_true rfl)) dL_law_707 ⟨Nat.le_of_ble_eq_true rfl, Nat.le_of_ble_eq_true rfl⟩) (fun r1 σ' H locs h hP hD hS => ?_)
  refine lv_aload_n hx hb dL_law_710 rfl (lv_at hl 2 rfl) ?_
  refine lv_aload_n hx hb dL_law_711 rfl (lv_at hl 0 rfl) ?_
  refine lv_iload_n hx hb dL_law_712 rfl (lv_at hl 3 rfl) ?_
  refine lv_iconst (v := 1) hx hb dL_law_713 (by decide) ?_
  refine lv_iadd hx hb dL_law_714 ?_
  refine va_sld hx hb hX hbl hbA hS i1 dL_law_715 ?_
  refine lw_ci hA hP hD hS (va_runV (As := [.int (xs (nI i + 1).toNatClampNeg)]) (rest := [.int r1]) CM.1 (mtX9_asked (l := l) (D := D) (sz := H.size) h) (cwV 1 hts gL_law_X9_asked rfl rfl rfl (by decide +kernel) ⟨Nat.le_of_ble_eq_true rfl, Nat.le_of_ble_eq_true rfl⟩) (wx_pv CM (lw_left hP) (lw_leftD hD) hS (q := 0) (ci := 9) (by decide) (eM_0 _ _ _) rfl) rfl rfl hl.1 rfl (lv_room (Nat.le_of_ble_eq_true rfl)) dL_law_716 ⟨Nat.le_of_ble_eq_true rfl, Nat.le_of_ble_eq_true rfl⟩) (fun r2 τ' H locs h hP hD hS => ?_)
  exact lv_icmp_eq (tgt := 823) hx hb dL_law_719 (by decide) (fun _ => nxt σ' τ' H locs h.2 hP hD hS) (fun z => absurd h.1 z)
set_option maxHeartbeats 4000000 in
set_option maxRecDepth 100000 in
theorem lw_k26 {p : Program} {l : Launch} {e : Env} {s : State} {m : MethodId} {below : List Frame} {meth : Method} {c : Code} {H : Heap} {locs : List Loc} {Q : State → Prop} {D : va_G} {cI cB cS cR : ClassId} {tS tP : Nat} {kS vS : Nat → Nat} {adC adM : Nat → Nat} {b L i : Nat} {xs : Nat → Int32} {σ τ : wx_Z} {ls : Array Slot} (C0 : LX p s m c D cI cB cS cR tS tP kS vS b L xs) (hi : i + 2 < L) (hR : RR σ τ) (hP : va_P D vwCl (wx_w 58 (wC_E cI cB cS cR adC) adC σ ++ wx_w 14 (wM_E cI adM) adM τ) H) (hD : va_D (lwA s) (wx_w 58 (wC_E cI cB cS cR adC) adC σ ++ wx_w 14 (wM_E cI adM) adM τ)) (hS : va_S (lwA s) s.heap H locs) (hl : lv_has ls 4 [(0, .ref b), (1, .ref (adC 0)), (2, .ref (adM 0)), (3, .int (nI i))]) (nxt : ∀ (σ' τ' : wx_Z) (H : Heap) (locs : List Loc), RR σ' τ' → va_P D vwCl (wx_w 58 (wC_E cI cB cS cR adC) adC σ' ++ wx_w 14 (wM_E cI adM) adM τ') H → va_D (lwA s) (wx_w 58 (wC_E cI cB cS cR adC) adC σ' ++ wx_w 14 (wM_E cI adM) adM τ') → va_S (lwA s) s.heap H locs → W p l e room_1 s m #[Value.ref b] below meth c H locs 72 2932 Q (F0 m 823 ls [])) : W p l e room_1 s m #[Value.ref b] below meth c H locs 72 2932 Q (F0 m 724 ls []) := by
  obtain ⟨C, hX, hbl, hL⟩ := C0
  obtain ⟨⟨hx, hb, hml, hown, hts⟩, hA, hK, -, hro⟩ := id C
  have CM : wx_C p s m #[Value.ref b] c cL_law 4 RL wsL_law D [(cI, .int)] wx_T0 (lwA s) := ⟨C.1, hA, hK.sub [0] rfl, wx_T0_ok, trivial⟩
  have hbA : ¬ lwA s b := Nat.not_le.mpr hbl
  have i1 : vp_in (nI i + 1) L := by rw [nI_1]; exact vp_in_nI (by omega) (by omega)
  have i2 : vp_in (nI i + 2) L := by rw [show (2 : Int32) = nI 2 from rfl, nI_add]; exact vp_in_nI (by omega) (by omega)
  have h := e_type (xs (nI i + 1).toNatClampNeg) hR
  refine lv_aload_n hx hb dL_law_724 rfl (lv_at hl 1 rfl) ?_
  refine lv_aload_n hx hb dL_law_725 rfl (lv_at hl 0 rfl) ?_
  refine lv_iload_n hx hb dL_law_726 rfl (lv_at hl 3 rfl) ?_
  refine lv_iconst (v := 1) hx hb dL_law_727 (by decide) ?_
  refine lv_iadd hx hb dL_law_728 ?_
  refine va_sld hx hb hX hbl hbA hS i1 dL_law_729 ?_
  refine lw_ci hA hP hD hS (va_runV (As := [.int (xs (nI i + 1).toNatClampNeg)]) (rest := []) C.1 (mtX8_type (l := l) (D := D) (sz := H.size) h) (cwV 1 hts gL_law_X8_type rfl rfl rfl (by decide +kernel) ⟨Nat.le_of_ble_eq_true rfl, Nat.le_of_ble_eq_true rfl⟩) (wx_pv C (lw_left hP) (lw_leftD hD) hS (q := 0) (ci := 8) (by decide) (eC_0 _) rfl) rfl rfl hl.1 rfl (lv_room (Nat.le_of_ble_eq_true rfl)) dL_law_730 ⟨Nat.le_of_ble_eq_true rfl, Nat.le_of_ble_eq_true rfl⟩) (fun r1 σ' H locs h hP hD hS => ?_)
  refine lv_aload_n hx hb dL_law_733 rfl (lv_at hl 2 rfl) ?_
  refine lv_aload_n hx hb dL_law_734 rfl (lv_at hl 0 rfl) ?_
  refine lv_iload_n hx hb dL_law_735 rfl (lv_at hl 3 rfl) ?_
  refine lv_iconst (v := 1) hx hb dL_law_736 (by decide) ?_
  refine lv_iadd hx hb dL_law_737 ?_
  refine va_sld hx hb hX hbl hbA hS i1 dL_law_738 ?_
  refine lw_ci hA hP hD hS (va_runV (As := [.int (xs (nI i + 1).toNatClampNeg)]) (rest := [.int r1]) CM.1 (mtX9_type (l := l) (D := D) (sz := H.size) h) (cwV 1 hts gL_law_X9_type rfl rfl rfl (by decide +kernel) ⟨Nat.le_of_ble_eq_true rfl, Nat.le_of_ble_eq_true rfl⟩) (wx_pv CM (lw_left hP) (lw_leftD hD) hS (q := 0) (ci := 9) (by decide) (eM_0 _ _ _) rfl) rfl rfl hl.1 rfl (lv_room (Nat.le_of_ble_eq_true rfl)) dL_law_739 ⟨Nat.le_of_ble_eq_true rfl, Nat.le_of_ble_eq_true rfl⟩) (fun r2 τ' H locs h hP hD hS => ?_)
  exact lv_icmp_eq (tgt := 823) hx hb dL_law_742 (by decide) (fun _ => nxt σ' τ' H locs h.2 hP hD hS) (fun z => absurd h.1 z)
set_option maxHeartbeats 4000000 in
set_option maxRecDepth 100000 in
theorem lw_k27 {p : Program} {l : Launch} {e : Env} {s : State} {m : MethodId} {below : List Frame} {meth : Method} {c : Code} {H : Heap} {locs : List Loc} {Q : State → Prop} {D : va_G} {cI cB cS cR : ClassId} {tS tP : Nat} {kS vS : Nat → Nat} {adC adM : Nat → Nat} {b L i : Nat} {xs : Nat → Int32} {σ τ : wx_Z} {ls : Array Slot} (C0 : LX p s m c D cI cB cS cR tS tP kS vS b L xs) (hi : i + 2 < L) (hR : RR σ τ) (hP : va_P D vwCl (wx_w 58 (wC_E cI cB cS cR adC) adC σ ++ wx_w 14 (wM_E cI adM) adM τ) H) (hD : va_D (lwA s) (wx_w 58 (wC_E cI cB cS cR adC) adC σ ++ wx_w 14 (wM_E cI adM) adM τ)) (hS : va_S (lwA s) s.heap H locs) (hl : lv_has ls 4 [(0, .ref b), (1, .ref (adC 0)), (2, .ref (adM 0)), (3, .int (nI i))]) (nxt : ∀ (σ' τ' : wx_Z) (H : Heap) (locs : List Loc), RR σ' τ' → va_P D vwCl (wx_w 58 (wC_E cI cB cS cR adC) adC σ' ++ wx_w 14 (wM_E cI adM) adM τ') H → va_D (lwA s) (wx_w 58 (wC_E cI cB cS cR adC) adC σ' ++ wx_w 14 (wM_E cI adM) adM τ') → va_S (lwA s) s.heap H locs → W p l e room_1 s m #[Value.ref b] below meth c H locs 72 2932 Q (F0 m 823 ls [])) : W p l e room_1 s m #[Value.ref b] below meth c H locs 72 2932 Q (F0 m 747 ls []) := by
  obtain ⟨C, hX, hbl, hL⟩ := C0
  obtain ⟨⟨hx, hb, hml, hown, hts⟩, hA, hK, -, hro⟩ := id C
  have CM : wx_C p s m #[Value.ref b] c cL_law 4 RL wsL_law D [(cI, .int)] wx_T0 (lwA s) := ⟨C.1, hA, hK.sub [0] rfl, wx_T0_ok, trivial⟩
  have hbA : ¬ lwA s b := Nat.not_le.mpr hbl
  have i1 : vp_in (nI i + 1) L := by rw [nI_1]; exact vp_in_nI (by omega) (by omega)
  have i2 : vp_in (nI i + 2) L := by rw [show (2 : Int32) = nI 2 from rfl, nI_add]; exact vp_in_nI (by omega) (by omega)
  have h := e_clear hR
  refine lv_aload_n hx hb dL_law_747 rfl (lv_at hl 1 rfl) ?_
  refine lw_ci hA hP hD hS (va_runV (As := []) (rest := []) C.1 (mtX8_clear (l := l) (D := D) (sz := H.size) h) (cwV 0 hts gL_law_X8_clear rfl rfl rfl (by decide +kernel) ⟨Nat.le_of_ble_eq_true rfl, Nat.le_of_ble_eq_true rfl⟩) (wx_pv C (lw_left hP) (lw_leftD hD) hS (q := 0) (ci := 8) (by decide) (eC_0 _) rfl) rfl rfl hl.1 rfl (lv_room (Nat.le_of_ble_eq_true rfl)) dL_law_748 ⟨Nat.le_of_ble_eq_true rfl, Nat.le_of_ble_eq_true rfl⟩) (fun r1 σ' H locs h hP hD hS => ?_)
  refine lv_aload_n hx hb dL_law_751 rfl (lv_at hl 2 rfl) ?_
  refine lw_ci hA hP hD hS (va_runV (As := []) (rest := [.int r1]) CM.1 (mtX9_clear (l := l) (D := D) (sz := H.size) h) (cwV 0 hts gL_law_X9_clear rfl rfl rfl (by decide +kernel) ⟨Nat.le_of_ble_eq_true rfl, Nat.le_of_ble_eq_true rfl⟩) (wx_pv CM (lw_left hP) (lw_leftD hD) hS (q := 0) (ci := 9) (by decide) (eM_0 _ _ _) rfl) rfl rfl hl.1 rfl (lv_room (Nat.le_of_ble_eq_true rfl)) dL_law_752 ⟨Nat.le_of_ble_eq_true rfl, Nat.le_of_ble_eq_true rfl⟩) (fun r2 τ' H locs h hP hD hS => ?_)
  exact lv_icmp_eq (tgt := 823) hx hb dL_law_755 (by decide) (fun _ => nxt σ' τ' H locs h.2 hP hD hS) (fun z => absurd h.1 z)
set_option maxHeartbeats 4000000 in
set_option maxRecDepth 100000 in
theorem lw_k28 {p : Program} {l : Launch} {e : Env} {s : State} {m : MethodId} {below : List Frame} {meth : Method} {c : Code} {H : Heap} {locs : List Loc} {Q : State → Prop} {D : va_G} {cI cB cS cR : ClassId} {tS tP : Nat} {kS vS : Nat → Nat} {adC adM : Nat → Nat} {b L i : Nat} {xs : Nat → Int32} {σ τ : wx_Z} {ls : Array Slot} (C0 : LX p s m c D cI cB cS cR tS tP kS vS b L xs) (hi : i + 2 < L) (hR : RR σ τ) (hP : va_P D vwCl (wx_w 58 (wC_E cI cB cS cR adC) adC σ ++ wx_w 14 (wM_E cI adM) adM τ) H) (hD : va_D (lwA s) (wx_w 58 (wC_E cI cB cS cR adC) adC σ ++ wx_w 14 (wM_E cI adM) adM τ)) (hS : va_S (lwA s) s.heap H locs) (hl : lv_has ls 4 [(0, .ref b), (1, .ref (adC 0)), (2, .ref (adM 0)), (3, .int (nI i))]) (nxt : ∀ (σ' τ' : wx_Z) (H : Heap) (locs : List Loc), RR σ' τ' → va_P D vwCl (wx_w 58 (wC_E cI cB cS cR adC) adC σ' ++ wx_w 14 (wM_E cI adM) adM τ') H → va_D (lwA s) (wx_w 58 (wC_E cI cB cS cR adC) adC σ' ++ wx_w 14 (wM_E cI adM) adM τ') → va_S (lwA s) s.heap H locs → W p l e room_1 s m #[Value.ref b] below meth c H locs 72 2932 Q (F0 m 823 ls [])) : W p l e room_1 s m #[Value.ref b] below meth c H locs 72 2932 Q (F0 m 760 ls []) := by
  obtain ⟨C, hX, hbl, hL⟩ := C0
  obtain ⟨⟨hx, hb, hml, hown, hts⟩, hA, hK, -, hro⟩ := id C
  have CM : wx_C p s m #[Value.ref b] c cL_law 4 RL wsL_law D [(cI, .int)] wx_T0 (lwA s) := ⟨C.1, hA, hK.sub [0] rfl, wx_T0_ok, trivial⟩
  have hbA : ¬ lwA s b := Nat.not_le.mpr hbl
  have i1 : vp_in (nI i + 1) L := by rw [nI_1]; exact vp_in_nI (by omega) (by omega)
  have i2 : vp_in (nI i + 2) L := by rw [show (2 : Int32) = nI 2 from rfl, nI_add]; exact vp_in_nI (by omega) (by omega)
  have h := e_does hR
  refine lv_aload_n hx hb dL_law_760 rfl (lv_at hl 1 rfl) ?_
  refine lw_ci hA hP hD hS (va_runV (As := []) (rest := []) C.1 (mtX8_does (l := l) (D := D) (sz := H.size) h) (cwV 0 hts gL_law_X8_does rfl rfl rfl (by decide +kernel) ⟨Nat.le_of_ble_eq_true rfl, Nat.le_of_ble_eq_true rfl⟩) (wx_pv C (lw_left hP) (lw_leftD hD) hS (q := 0) (ci := 8) (by decide) (eC_0 _) rfl) rfl rfl hl.1 rfl (lv_room (Nat.le_of_ble_eq_true rfl)) dL_law_761 ⟨Nat.le_of_ble_eq_true rfl, Nat.le_of_ble_eq_true rfl⟩) (fun r1 σ' H locs h hP hD hS => ?_)
  refine lv_aload_n hx hb dL_law_764 rfl (lv_at hl 2 rfl) ?_
  refine lw_ci hA hP hD hS (va_runV (As := []) (rest := [.int r1]) CM.1 (mtX9_does (l := l) (D := D) (sz := H.size) h) (cwV 0 hts gL_law_X9_does rfl rfl rfl (by decide +kernel) ⟨Nat.le_of_ble_eq_true rfl, Nat.le_of_ble_eq_true rfl⟩) (wx_pv CM (lw_left hP) (lw_leftD hD) hS (q := 0) (ci := 9) (by decide) (eM_0 _ _ _) rfl) rfl rfl hl.1 rfl (lv_room (Nat.le_of_ble_eq_true rfl)) dL_law_765 ⟨Nat.le_of_ble_eq_true rfl, Nat.le_of_ble_eq_true rfl⟩) (fun r2 τ' H locs h hP hD hS => ?_)
  exact lv_icmp_eq (tgt := 823) hx hb dL_law_768 (by decide) (fun _ => nxt σ' τ' H locs h.2 hP hD hS) (fun z => absurd h.1 z)
set_option maxHeartbeats 4000000 in
set_option maxRecDepth 100000 in
theorem lw_k29 {p : Program} {l : Launch} {e : Env} {s : State} {m : MethodId} {below : List Frame} {meth : Method} {c : Code} {H : Heap} {locs : List Loc} {Q : State → Prop} {D : va_G} {cI cB cS cR : ClassId} {tS tP : Nat} {kS vS : Nat → Nat} {adC adM : Nat → Nat} {b L i : Nat} {xs : Nat → Int32} {σ τ : wx_Z} {ls : Array Slot} (C0 : LX p s m c D cI cB cS cR tS tP kS vS b L xs) (hi : i + 2 < L) (hR : RR σ τ) (hP : va_P D vwCl (wx_w 58 (wC_E cI cB cS cR adC) adC σ ++ wx_w 14 (wM_E cI adM) adM τ) H) (hD : va_D (lwA s) (wx_w 58 (wC_E cI cB cS cR adC) adC σ ++ wx_w 14 (wM_E cI adM) adM τ)) (hS : va_S (lwA s) s.heap H locs) (hl : lv_has ls 4 [(0, .ref b), (1, .ref (adC 0)), (2, .ref (adM 0)), (3, .int (nI i))]) (nxt : ∀ (σ' τ' : wx_Z) (H : Heap) (locs : List Loc), RR σ' τ' → va_P D vwCl (wx_w 58 (wC_E cI cB cS cR adC) adC σ' ++ wx_w 14 (wM_E cI adM) adM τ') H → va_D (lwA s) (wx_w 58 (wC_E cI cB cS cR adC) adC σ' ++ wx_w 14 (wM_E cI adM) adM τ') → va_S (lwA s) s.heap H locs → W p l e room_1 s m #[Value.ref b] below meth c H locs 72 2932 Q (F0 m 823 ls [])) : W p l e room_1 s m #[Value.ref b] below meth c H locs 72 2932 Q (F0 m 773 ls []) := by
  obtain ⟨C, hX, hbl, hL⟩ := C0
  obtain ⟨⟨hx, hb, hml, hown, hts⟩, hA, hK, -, hro⟩ := id C
  have CM : wx_C p s m #[Value.ref b] c cL_law 4 RL wsL_law D [(cI, .int)] wx_T0 (lwA s) := ⟨C.1, hA, hK.sub [0] rfl, wx_T0_ok, trivial⟩
  have hbA : ¬ lwA s b := Nat.not_le.mpr hbl
  have i1 : vp_in (nI i + 1) L := by rw [nI_1]; exact vp_in_nI (by omega) (by omega)
  have i2 : vp_in (nI i + 2) L := by rw [show (2 : Int32) = nI 2 from rfl, nI_add]; exact vp_in_nI (by omega) (by omega)
  have h := e_back hR
  refine lv_aload_n hx hb dL_law_773 rfl (lv_at hl 1 rfl) ?_
  refine lw_ci hA hP hD hS (va_runV (As := []) (rest := []) C.1 (mtX8_back (l := l) (D := D) (sz := H.size) h) (cwV 0 hts gL_law_X8_back rfl rfl rfl (by decide +kernel) ⟨Nat.le_of_ble_eq_true rfl, Nat.le_of_ble_eq_true rfl⟩) (wx_pv C (lw_left hP) (lw_leftD hD) hS (q := 0) (ci := 8) (by decide) (eC_0 _) rfl) rfl rfl hl.1 rfl (lv_room (Nat.le_of_ble_eq_true rfl)) dL_law_774 ⟨Nat.le_of_ble_eq_true rfl, Nat.le_of_ble_eq_true rfl⟩) (fun r1 σ' H locs h hP hD hS => ?_)
  refine lv_aload_n hx hb dL_law_777 rfl (lv_at hl 2 rfl) ?_
  refine lw_ci hA hP hD hS (va_runV (As := []) (rest := [.int r1]) CM.1 (mtX9_back (l := l) (D := D) (sz := H.size) h) (cwV 0 hts gL_law_X9_back rfl rfl rfl (by decide +kernel) ⟨Nat.le_of_ble_eq_true rfl, Nat.le_of_ble_eq_true rfl⟩) (wx_pv CM (lw_left hP) (lw_leftD hD) hS (q := 0) (ci := 9) (by decide) (eM_0 _ _ _) rfl) rfl rfl hl.1 rfl (lv_room (Nat.le_of_ble_eq_true rfl)) dL_law_778 ⟨Nat.le_of_ble_eq_true rfl, Nat.le_of_ble_eq_true rfl⟩) (fun r2 τ' H locs h hP hD hS => ?_)
  exact lv_icmp_eq (tgt := 823) hx hb dL_law_781 (by decide) (fun _ => nxt σ' τ' H locs h.2 hP hD hS) (fun z => absurd h.1 z)
set_option maxHeartbeats 4000000 in
set_option maxRecDepth 100000 in
theorem lw_k30 {p : Program} {l : Launch} {e : Env} {s : State} {m : MethodId} {below : List Frame} {meth : Method} {c : Code} {H : Heap} {locs : List Loc} {Q : State → Prop} {D : va_G} {cI cB cS cR : ClassId} {tS tP : Nat} {kS vS : Nat → Nat} {adC adM : Nat → Nat} {b L i : Nat} {xs : Nat → Int32} {σ τ : wx_Z} {ls : Array Slot} (C0 : LX p s m c D cI cB cS cR tS tP kS vS b L xs) (hi : i + 2 < L) (hR : RR σ τ) (hP : va_P D vwCl (wx_w 58 (wC_E cI cB cS cR adC) adC σ ++ wx_w 14 (wM_E cI adM) adM τ) H) (hD : va_D (lwA s) (wx_w 58 (wC_E cI cB cS cR adC) adC σ ++ wx_w 14 (wM_E cI adM) adM τ)) (hS : va_S (lwA s) s.heap H locs) (hl : lv_has ls 4 [(0, .ref b), (1, .ref (adC 0)), (2, .ref (adM 0)), (3, .int (nI i))]) (nxt : ∀ (σ' τ' : wx_Z) (H : Heap) (locs : List Loc), RR σ' τ' → va_P D vwCl (wx_w 58 (wC_E cI cB cS cR adC) adC σ' ++ wx_w 14 (wM_E cI adM) adM τ') H → va_D (lwA s) (wx_w 58 (wC_E cI cB cS cR adC) adC σ' ++ wx_w 14 (wM_E cI adM) adM τ') → va_S (lwA s) s.heap H locs → W p l e room_1 s m #[Value.ref b] below meth c H locs 72 2932 Q (F0 m 823 ls [])) : W p l e room_1 s m #[Value.ref b] below meth c H locs 72 2932 Q (F0 m 786 ls []) := by
  obtain ⟨C, hX, hbl, hL⟩ := C0
  obtain ⟨⟨hx, hb, hml, hown, hts⟩, hA, hK, -, hro⟩ := id C
  have CM : wx_C p s m #[Value.ref b] c cL_law 4 RL wsL_law D [(cI, .int)] wx_T0 (lwA s) := ⟨C.1, hA, hK.sub [0] rfl, wx_T0_ok, trivial⟩
  have hbA : ¬ lwA s b := Nat.not_le.mpr hbl
  have i1 : vp_in (nI i + 1) L := by rw [nI_1]; exact vp_in_nI (by omega) (by omega)
  have i2 : vp_in (nI i + 2) L := by rw [show (2 : Int32) = nI 2 from rfl, nI_add]; exact vp_in_nI (by omega) (by omega)
  have h := e_told (xs (nI i + 1).toNatClampNeg) hR
  refine lv_aload_n hx hb dL_law_786 rfl (lv_at hl 1 rfl) ?_
  refine lv_aload_n hx hb dL_law_787 rfl (lv_at hl 0 rfl) ?_
  refine lv_iload_n hx hb dL_law_788 rfl (lv_at hl 3 rfl) ?_
  refine lv_iconst (v := 1) hx hb dL_law_789 (by decide) ?_
  refine lv_iadd hx hb dL_law_790 ?_
  refine va_sld hx hb hX hbl hbA hS i1 dL_law_791 ?_
  refine lw_ci hA hP hD hS (va_runV (As := [.int (xs (nI i + 1).toNatClampNeg)]) (rest := []) C.1 (mtX8_told (l := l) (D := D) (sz := H.size) h) (cwV 1 hts gL_law_X8_told rfl rfl rfl (by decide +kernel) ⟨Nat.le_of_ble_eq_true rfl, Nat.le_of_ble_eq_true rfl⟩) (wx_pv C (lw_left hP) (lw_leftD hD) hS (q := 0) (ci := 8) (by decide) (eC_0 _) rfl) rfl rfl hl.1 rfl (lv_room (Nat.le_of_ble_eq_true rfl)) dL_law_792 ⟨Nat.le_of_ble_eq_true rfl, Nat.le_of_ble_eq_true rfl⟩) (fun r1 σ' H locs h hP hD hS => ?_)
  refine lv_aload_n hx hb dL_law_795 rfl (lv_at hl 2 rfl) ?_
  refine lv_aload_n hx hb dL_law_796 rfl (lv_at hl 0 rfl) ?_
  refine lv_iload_n hx hb dL_law_797 rfl (lv_at hl 3 rfl) ?_
  refine lv_iconst (v := 1) hx hb dL_law_798 (by decide) ?_
  refine lv_iadd hx hb dL_law_799 ?_
  refine va_sld hx hb hX hbl hbA hS i1 dL_law_800 ?_
  refine lw_ci hA hP hD hS (va_runV (As := [.int (xs (nI i + 1).toNatClampNeg)]) (rest := [.int r1]) CM.1 (mtX9_told (l := l) (D := D) (sz := H.size) h) (cwV 1 hts gL_law_X9_told rfl rfl rfl (by decide +kernel) ⟨Nat.le_of_ble_eq_true rfl, Nat.le_of_ble_eq_true rfl⟩) (wx_pv CM (lw_left hP) (lw_leftD hD) hS (q := 0) (ci := 9) (by decide) (eM_0 _ _ _) rfl) rfl rfl hl.1 rfl (lv_room (Nat.le_of_ble_eq_true rfl)) dL_law_801 ⟨Nat.le_of_ble_eq_true rfl, Nat.le_of_ble_eq_true rfl⟩) (fun r2 τ' H locs h hP hD hS => ?_)
  exact lv_icmp_eq (tgt := 823) hx hb dL_law_804 (by decide) (fun _ => nxt σ' τ' H locs h.2 hP hD hS) (fun z => absurd h.1 z)
set_option maxHeartbeats 4000000 in
set_option maxRecDepth 100000 in
theorem lw_k31 {p : Program} {l : Launch} {e : Env} {s : State} {m : MethodId} {below : List Frame} {meth : Method} {c : Code} {H : Heap} {locs : List Loc} {Q : State → Prop} {D : va_G} {cI cB cS cR : ClassId} {tS tP : Nat} {kS vS : Nat → Nat} {adC adM : Nat → Nat} {b L i : Nat} {xs : Nat → Int32} {σ τ : wx_Z} {ls : Array Slot} (C0 : LX p s m c D cI cB cS cR tS tP kS vS b L xs) (hi : i + 2 < L) (hR : RR σ τ) (hP : va_P D vwCl (wx_w 58 (wC_E cI cB cS cR adC) adC σ ++ wx_w 14 (wM_E cI adM) adM τ) H) (hD : va_D (lwA s) (wx_w 58 (wC_E cI cB cS cR adC) adC σ ++ wx_w 14 (wM_E cI adM) adM τ)) (hS : va_S (lwA s) s.heap H locs) (hl : lv_has ls 4 [(0, .ref b), (1, .ref (adC 0)), (2, .ref (adM 0)), (3, .int (nI i))]) (nxt : ∀ (σ' τ' : wx_Z) (H : Heap) (locs : List Loc), RR σ' τ' → va_P D vwCl (wx_w 58 (wC_E cI cB cS cR adC) adC σ' ++ wx_w 14 (wM_E cI adM) adM τ') H → va_D (lwA s) (wx_w 58 (wC_E cI cB cS cR adC) adC σ' ++ wx_w 14 (wM_E cI adM) adM τ') → va_S (lwA s) s.heap H locs → W p l e room_1 s m #[Value.ref b] below meth c H locs 72 2932 Q (F0 m 823 ls [])) : W p l e room_1 s m #[Value.ref b] below meth c H locs 72 2932 Q (F0 m 809 ls []) := by
  obtain ⟨C, hX, hbl, hL⟩ := C0
  obtain ⟨⟨hx, hb, hml, hown, hts⟩, hA, hK, -, hro⟩ := id C
  have CM : wx_C p s m #[Value.ref b] c cL_law 4 RL wsL_law D [(cI, .int)] wx_T0 (lwA s) := ⟨C.1, hA, hK.sub [0] rfl, wx_T0_ok, trivial⟩
  have hbA : ¬ lwA s b := Nat.not_le.mpr hbl
  have i1 : vp_in (nI i + 1) L := by rw [nI_1]; exact vp_in_nI (by omega) (by omega)
  have i2 : vp_in (nI i + 2) L := by rw [show (2 : Int32) = nI 2 from rfl, nI_add]; exact vp_in_nI (by omega) (by omega)
  have h := e_digest hR
  refine lv_aload_n hx hb dL_law_809 rfl (lv_at hl 1 rfl) ?_
  refine lw_cl hA hP hD hS (va_runV (As := []) (rest := []) C.1 (mtX8_digest (l := l) (D := D) (sz := H.size) h) (cwV 0 hts gL_law_X8_digest rfl rfl rfl (by decide +kernel) ⟨Nat.le_of_ble_eq_true rfl, Nat.le_of_ble_eq_true rfl⟩) (wx_pv C (lw_left hP) (lw_leftD hD) hS (q := 0) (ci := 8) (by decide) (eC_0 _) rfl) rfl rfl hl.1 rfl (lv_room (Nat.le_of_ble_eq_true rfl)) dL_law_810 ⟨Nat.le_of_ble_eq_true rfl, Nat.le_of_ble_eq_true rfl⟩) (fun r1 σ' H locs h hP hD hS => ?_)
  refine lv_aload_n hx hb dL_law_813 rfl (lv_at hl 2 rfl) ?_
  refine lw_cl hA hP hD hS (va_runV (As := []) (rest := [.long r1]) CM.1 (mtX9_digest (l := l) (D := D) (sz := H.size) h) (cwV 0 hts gL_law_X9_digest rfl rfl rfl (by decide +kernel) ⟨Nat.le_of_ble_eq_true rfl, Nat.le_of_ble_eq_true rfl⟩) (wx_pv CM (lw_left hP) (lw_leftD hD) hS (q := 0) (ci := 9) (by decide) (eM_0 _ _ _) rfl) rfl rfl hl.1 rfl (lv_room (Nat.le_of_ble_eq_true rfl)) dL_law_814 ⟨Nat.le_of_ble_eq_true rfl, Nat.le_of_ble_eq_true rfl⟩) (fun r2 τ' H locs h hP hD hS => ?_)
  refine W.lcmp hx hb dL_law_817 ?_
  exact lv_if_eq (tgt := 823) hx hb dL_law_818 (by decide) (fun _ => nxt σ' τ' H locs h.2 hP hD hS) (fun z => absurd ((lg_cmp_eq _ _).mpr h.1) z)

abbrev rmX1_distance : Room := { frames := 1, cells := 0, slots := 0, locals := 40 }
set_option maxRecDepth 20000 in
theorem inX1_distance_X1 : ∀ w ∈ u_ws RX1 TX1 5, w ∈ wsX1_distance := by decide +kernel
set_option maxRecDepth 100000 in
set_option maxHeartbeats 4000000 in
theorem mtX1_distance {l : Launch} {D : va_G} {cI cB cS cR : ClassId} {ad : Nat → Nat} {tS tP : Nat} {kS vS : Nat → Nat} {sz : Nat} {g : Nat} {σ : wx_Z} {K : Int32 → wx_Z → Prop} (hg : g < 10) (h : wpX1_distance g σ K) : Met l yX1_distance wsX1_distance rmX1_distance (wx_Pre D [(cI, .int), (cB, .byte), (cS, .object RX5), (cR, .array .int)] (wC_RO tS tP kS vS) 58 (wC_E cI cB cS cR ad) ad σ sz [.ref (ad (cCo g))]) (va_Qi K (wx_B D [(cI, .int), (cB, .byte), (cS, .object RX5), (cR, .array .int)] 58 (wC_E cI cB cS cR ad) ad (va_A (wx_w 58 (wC_E cI cB cS cR ad) ad σ) sz)) (va_A (wx_w 58 (wC_E cI cB cS cR ad) ad σ) sz)) 0 0 (va_A (wx_w 58 (wC_E cI cB cS cR ad) ad σ) sz) := by
  unfold wpX1_distance at h
  refine wx_meti (cc := cX1_distance) (maxL := 1) (own := RX1) rfl (by decide) rfl (Nat.le_of_ble_eq_true rfl) (wC_ROok tS tP kS vS) ?_
  intro p e s m args below meth c A Q ls C Rt hP hD hS hl
  obtain ⟨⟨hx, hb, hml, hown, hts⟩, hA, hK, hRO, hro⟩ := id C
  have hl : lv_has ls 1 [(0, .ref (ad (cCo g)))] := hl
  obtain ⟨H, eH⟩ : ∃ z, z = s.heap := ⟨_, rfl⟩
  obtain ⟨locs, eL⟩ : ∃ z : List Loc, z = [] := ⟨_, rfl⟩
  rw [← eH] at hP
  have hS : va_S A s.heap H locs := by rw [eH, eL]; exact hS
  have goal : W p l e rmX1_distance s m args below meth c H locs 0 0 Q (F0 m 0 ls []) := by
    refine lv_iconst (v := 1) hx hb dX1_distance_0 (by decide) ?_
    refine lv_aload_n hx hb dX1_distance_1 rfl (lv_at hl 0 rfl) ?_
    refine wx_get C hP (q := (cCo g)) (ci := 1) (lt_co hg) (eC_co hg _) (Cn := RX1) (T := TX1) (Nf := 5) rfl inX1_distance_X1 1 (by decide) (List.mem_of_getElem? (i := 1) rfl) (v := .int (σ (cCo g) 1)) rfl dX1_distance_2 ?_
    refine lv_aload_n hx hb dX1_distance_5 rfl (lv_at hl 0 rfl) ?_
    refine wx_get C hP (q := (cCo g)) (ci := 1) (lt_co hg) (eC_co hg _) (Cn := RX1) (T := TX1) (Nf := 5) rfl inX1_distance_X1 0 (by decide) (List.mem_of_getElem? (i := 2) rfl) (v := .int (σ (cCo g) 0)) rfl dX1_distance_6 ?_
    refine lv_isub hx hb dX1_distance_9 ?_
    refine lv_ishl hx hb dX1_distance_10 ?_
    exact Rt _ _ _ _ _ _ h hP hD hS dX1_distance_11
  rw [eH, eL] at goal
  exact goal
abbrev rmX8_lowest : Room := { frames := 1, cells := 0, slots := 0, locals := 40 }
set_option maxRecDepth 100000 in
set_option maxHeartbeats 4000000 in
theorem mtX8_lowest {l : Launch} {D : va_G} {cI cB cS cR : ClassId} {ad : Nat → Nat} {tS tP : Nat} {kS vS : Nat → Nat} {sz : Nat} {σ : wx_Z} {x0 : Int32} {K : Int32 → wx_Z → Prop} (h : wpX8_lowest σ x0 K) : Met l yX8_lowest wsX8_lowest rmX8_lowest (wx_Pre D [(cI, .int), (cB, .byte), (cS, .object RX5), (cR, .array .int)] (wC_RO tS tP kS vS) 58 (wC_E cI cB cS cR ad) ad σ sz [.int x0]) (va_Qi K (wx_B D [(cI, .int), (cB, .byte), (cS, .object RX5), (cR, .array .int)] 58 (wC_E cI cB cS cR ad) ad (va_A (wx_w 58 (wC_E cI cB cS cR ad) ad σ) sz)) (va_A (wx_w 58 (wC_E cI cB cS cR ad) ad σ) sz)) 0 0 (va_A (wx_w 58 (wC_E cI cB cS cR ad) ad σ) sz) := by
  unfold wpX8_lowest at h
  refine wx_meti (cc := cX8_lowest) (maxL := 1) (own := RX8) rfl (by decide) rfl (Nat.le_of_ble_eq_true rfl) (wC_ROok tS tP kS vS) ?_
  intro p e s m args below meth c A Q ls C Rt hP hD hS hl
  obtain ⟨⟨hx, hb, hml, hown, hts⟩, hA, hK, hRO, hro⟩ := id C
  have hl : lv_has ls 1 [(0, .int x0)] := hl
  obtain ⟨H, eH⟩ : ∃ z, z = s.heap := ⟨_, rfl⟩
  obtain ⟨locs, eL⟩ : ∃ z : List Loc, z = [] := ⟨_, rfl⟩
  rw [← eH] at hP
  have hS : va_S A s.heap H locs := by rw [eH, eL]; exact hS
  have goal : W p l e rmX8_lowest s m args below meth c H locs 0 0 Q (F0 m 0 ls []) := by
    refine lv_iconst (v := (-1)) hx hb dX8_lowest_0 (by decide) ?_
    refine lv_bipush (v := 32) hx hb dX8_lowest_1 (by decide) ?_
    refine lv_iload_n hx hb dX8_lowest_3 rfl (lv_at hl 0 rfl) ?_
    refine lv_isub hx hb dX8_lowest_4 ?_
    refine lv_iushr (v := wx_us (-1) (32 - x0)) hx hb dX8_lowest_5 rfl ?_
    exact Rt _ _ _ _ _ _ h hP hD hS dX8_lowest_6
  rw [eH, eL] at goal
  exact goal
abbrev rmX1_allPlaces : Room := { frames := 2, cells := 0, slots := 0, locals := 60 }
set_option maxRecDepth 20000 in
theorem inX1_allPlaces_X1 : ∀ w ∈ u_ws RX1 TX1 5, w ∈ wsX1_allPlaces := by decide +kernel
theorem nyX8_lowest : yX8_lowest.cls = RX8 ∧ yX8_lowest.cls ≠ "java/lang/invoke/MethodHandle" ∧ yX8_lowest.cls ≠ "java/lang/invoke/VarHandle" ∧ (parseMethodDescriptor yX8_lowest.desc).map (fun d => d.parameters.length) = some 1 := by decide +kernel
set_option maxRecDepth 100000 in
set_option maxHeartbeats 4000000 in
theorem mtX1_allPlaces {l : Launch} {D : va_G} {cI cB cS cR : ClassId} {ad : Nat → Nat} {tS tP : Nat} {kS vS : Nat → Nat} {sz : Nat} {g : Nat} {σ : wx_Z} {K : Int32 → wx_Z → Prop} (hg : g < 10) (h : wpX1_allPlaces g σ K) : Met l yX1_allPlaces wsX1_allPlaces rmX1_allPlaces (wx_Pre D [(cI, .int), (cB, .byte), (cS, .object RX5), (cR, .array .int)] (wC_RO tS tP kS vS) 58 (wC_E cI cB cS cR ad) ad σ sz [.ref (ad (cCo g))]) (va_Qi K (wx_B D [(cI, .int), (cB, .byte), (cS, .object RX5), (cR, .array .int)] 58 (wC_E cI cB cS cR ad) ad (va_A (wx_w 58 (wC_E cI cB cS cR ad) ad σ) sz)) (va_A (wx_w 58 (wC_E cI cB cS cR ad) ad σ) sz)) 0 0 (va_A (wx_w 58 (wC_E cI cB cS cR ad) ad σ) sz) := by
  unfold wpX1_allPlaces at h
  refine wx_meti (cc := cX1_allPlaces) (maxL := 1) (own := RX1) rfl (by decide) rfl (Nat.le_of_ble_eq_true rfl) (wC_ROok tS tP kS vS) ?_
  intro p e s m args below meth c A Q ls C Rt hP hD hS hl
  obtain ⟨⟨hx, hb, hml, hown, hts⟩, hA, hK, hRO, hro⟩ := id C
  have hl : lv_has ls 1 [(0, .ref (ad (cCo g)))] := hl
  obtain ⟨H, eH⟩ : ∃ z, z = s.heap := ⟨_, rfl⟩
  obtain ⟨locs, eL⟩ : ∃ z : List Loc, z = [] := ⟨_, rfl⟩
  rw [← eH] at hP
  have hS : va_S A s.heap H locs := by rw [eH, eL]; exact hS
  have goal : W p l e rmX1_allPlaces s m args below meth c H locs 0 0 Q (F0 m 0 ls []) := by
    refine lv_aload_n hx hb dX1_allPlaces_0 rfl (lv_at hl 0 rfl) ?_
    refine wx_get C hP (q := (cCo g)) (ci := 1) (lt_co hg) (eC_co hg _) (Cn := RX1) (T := TX1) (Nf := 5) rfl inX1_allPlaces_X1 2 (by decide) (List.mem_of_getElem? (i := 1) rfl) (v := .int (σ (cCo g) 2)) rfl dX1_allPlaces_1 ?_
    refine wx_ci C hD hS (va_runSN (As := [.int (σ (cCo g) 2)]) (rest := []) C.1 (mtX8_lowest (l := l) (D := D) (sz := H.size) h) ⟨va_cnB 1 hts ggX1_allPlaces_X8_lowest rfl rfl rfl (ro_n3 hro) (hts (.initialized RX8) (List.mem_of_getElem? (i := 3) rfl)) nyX8_lowest.2 ⟨Nat.le_of_ble_eq_true rfl, Nat.le_of_ble_eq_true rfl⟩, hts (.static yX8_lowest) (List.mem_of_getElem? (i := 2) rfl), trivial⟩ (wx_ps C hP hD hS) rfl rfl hl.1 rfl (lv_room (Nat.le_of_ble_eq_true rfl)) dX1_allPlaces_4 ⟨Nat.zero_le _, Nat.zero_le _⟩) (fun r4 σ4 H locs h hP hD hS => ?_)
    exact Rt _ _ _ _ _ _ h hP hD hS dX1_allPlaces_7
  rw [eH, eL] at goal
  exact goal
abbrev rmX1_allTerms : Room := { frames := 2, cells := 0, slots := 0, locals := 60 }
set_option maxRecDepth 20000 in
theorem inX1_allTerms_X1 : ∀ w ∈ u_ws RX1 TX1 5, w ∈ wsX1_allTerms := by decide +kernel
set_option maxRecDepth 100000 in
set_option maxHeartbeats 4000000 in
theorem mtX1_allTerms {l : Launch} {D : va_G} {cI cB cS cR : ClassId} {ad : Nat → Nat} {tS tP : Nat} {kS vS : Nat → Nat} {sz : Nat} {g : Nat} {σ : wx_Z} {K : Int32 → wx_Z → Prop} (hg : g < 10) (h : wpX1_allTerms g σ K) : Met l yX1_allTerms wsX1_allTerms rmX1_allTerms (wx_Pre D [(cI, .int), (cB, .byte), (cS, .object RX5), (cR, .array .int)] (wC_RO tS tP kS vS) 58 (wC_E cI cB cS cR ad) ad σ sz [.ref (ad (cCo g))]) (va_Qi K (wx_B D [(cI, .int), (cB, .byte), (cS, .object RX5), (cR, .array .int)] 58 (wC_E cI cB cS cR ad) ad (va_A (wx_w 58 (wC_E cI cB cS cR ad) ad σ) sz)) (va_A (wx_w 58 (wC_E cI cB cS cR ad) ad σ) sz)) 0 0 (va_A (wx_w 58 (wC_E cI cB cS cR ad) ad σ) sz) := by
  unfold wpX1_allTerms at h
  refine wx_meti (cc := cX1_allTerms) (maxL := 1) (own := RX1) rfl (by decide) rfl (Nat.le_of_ble_eq_true rfl) (wC_ROok tS tP kS vS) ?_
  intro p e s m args below meth c A Q ls C Rt hP hD hS hl
  obtain ⟨⟨hx, hb, hml, hown, hts⟩, hA, hK, hRO, hro⟩ := id C
  have hl : lv_has ls 1 [(0, .ref (ad (cCo g)))] := hl
  obtain ⟨H, eH⟩ : ∃ z, z = s.heap := ⟨_, rfl⟩
  obtain ⟨locs, eL⟩ : ∃ z : List Loc, z = [] := ⟨_, rfl⟩
  rw [← eH] at hP
  have hS : va_S A s.heap H locs := by rw [eH, eL]; exact hS
  have goal : W p l e rmX1_allTerms s m args below meth c H locs 0 0 Q (F0 m 0 ls []) := by
    refine lv_aload_n hx hb dX1_allTerms_0 rfl (lv_at hl 0 rfl) ?_
    refine wx_get C hP (q := (cCo g)) (ci := 1) (lt_co hg) (eC_co hg _) (Cn := RX1) (T := TX1) (Nf := 5) rfl inX1_allTerms_X1 3 (by decide) (List.mem_of_getElem? (i := 1) rfl) (v := .int (σ (cCo g) 3)) rfl dX1_allTerms_1 ?_
    refine wx_ci C hD hS (va_runSN (As := [.int (σ (cCo g) 3)]) (rest := []) C.1 (mtX8_lowest (l := l) (D := D) (sz := H.size) h) ⟨va_cnB 1 hts ggX1_allTerms_X8_lowest rfl rfl rfl (ro_n3 hro) (hts (.initialized RX8) (List.mem_of_getElem? (i := 3) rfl)) nyX8_lowest.2 ⟨Nat.le_of_ble_eq_true rfl, Nat.le_of_ble_eq_true rfl⟩, hts (.static yX8_lowest) (List.mem_of_getElem? (i := 2) rfl), trivial⟩ (wx_ps C hP hD hS) rfl rfl hl.1 rfl (lv_room (Nat.le_of_ble_eq_true rfl)) dX1_allTerms_4 ⟨Nat.zero_le _, Nat.zero_le _⟩) (fun r4 σ4 H locs h hP hD hS => ?_)
    exact Rt _ _ _ _ _ _ h hP hD hS dX1_allTerms_7
  rw [eH, eL] at goal
  exact goal
abbrev rmX1_hasPlace : Room := { frames := 1, cells := 0, slots := 0, locals := 40 }
set_option maxRecDepth 20000 in
theorem inX1_hasPlace_X1 : ∀ w ∈ u_ws RX1 TX1 5, w ∈ wsX1_hasPlace := by decide +kernel
set_option maxRecDepth 100000 in
set_option maxHeartbeats 4000000 in
theorem mtX1_hasPlace {l : Launch} {D : va_G} {cI cB cS cR : ClassId} {ad : Nat → Nat} {tS tP : Nat} {kS vS : Nat → Nat} {sz : Nat} {g : Nat} {σ : wx_Z} {x1 : Int32} {K : Int32 → wx_Z → Prop} (hg : g < 10) (h : wpX1_hasPlace g σ x1 K) : Met l yX1_hasPlace wsX1_hasPlace rmX1_hasPlace (wx_Pre D [(cI, .int), (cB, .byte), (cS, .object RX5), (cR, .array .int)] (wC_RO tS tP kS vS) 58 (wC_E cI cB cS cR ad) ad σ sz [.ref (ad (cCo g)), .int x1]) (va_Qi K (wx_B D [(cI, .int), (cB, .byte), (cS, .object RX5), (cR, .array .int)] 58 (wC_E cI cB cS cR ad) ad (va_A (wx_w 58 (wC_E cI cB cS cR ad) ad σ) sz)) (va_A (wx_w 58 (wC_E cI cB cS cR ad) ad σ) sz)) 0 0 (va_A (wx_w 58 (wC_E cI cB cS cR ad) ad σ) sz) := by
  unfold wpX1_hasPlace at h
  refine wx_metz (cc := cX1_hasPlace) (maxL := 2) (own := RX1) rfl (by decide) rfl (Nat.le_of_ble_eq_true rfl) (wC_ROok tS tP kS vS) ?_
  intro p e s m args below meth c A Q ls C Rt hP hD hS hl
  obtain ⟨⟨hx, hb, hml, hown, hts⟩, hA, hK, hRO, hro⟩ := id C
  have hl : lv_has ls 2 [(0, .ref (ad (cCo g))), (1, .int x1)] := hl
  obtain ⟨H, eH⟩ : ∃ z, z = s.heap := ⟨_, rfl⟩
  obtain ⟨locs, eL⟩ : ∃ z : List Loc, z = [] := ⟨_, rfl⟩
  rw [← eH] at hP
  have hS : va_S A s.heap H locs := by rw [eH, eL]; exact hS
  have goal : W p l e rmX1_hasPlace s m args below meth c H locs 0 0 Q (F0 m 0 ls []) := by
    refine lv_iload_n hx hb dX1_hasPlace_0 rfl (lv_at hl 1 rfl) ?_
    refine lv_if_lt (tgt := 16) hx hb dX1_hasPlace_1 (by decide) (fun c1 => ?_) (fun c1 => ?_)
    · have h := h.1 c1
      refine lv_iconst (v := 0) hx hb dX1_hasPlace_16 (by decide) ?_
      exact Rt _ _ _ _ _ _ rfl h hP hD hS dX1_hasPlace_17
    · have h := h.2 c1
      refine lv_iload_n hx hb dX1_hasPlace_4 rfl (lv_at hl 1 rfl) ?_
      refine lv_aload_n hx hb dX1_hasPlace_5 rfl (lv_at hl 0 rfl) ?_
      refine wx_get C hP (q := (cCo g)) (ci := 1) (lt_co hg) (eC_co hg _) (Cn := RX1) (T := TX1) (Nf := 5) rfl inX1_hasPlace_X1 2 (by decide) (List.mem_of_getElem? (i := 1) rfl) (v := .int (σ (cCo g) 2)) rfl dX1_hasPlace_6 ?_
      refine lv_icmp_ge (tgt := 16) hx hb dX1_hasPlace_9 (by decide) (fun c9 => ?_) (fun c9 => ?_)
      · have h := h.1 c9
        refine lv_iconst (v := 0) hx hb dX1_hasPlace_16 (by decide) ?_
        exact Rt _ _ _ _ _ _ rfl h hP hD hS dX1_hasPlace_17
      · have h := h.2 c9
        refine lv_iconst (v := 1) hx hb dX1_hasPlace_12 (by decide) ?_
        refine lv_goto (tgt := 17) hx hb dX1_hasPlace_13 (by decide) ?_
        exact Rt _ _ _ _ _ _ rfl h hP hD hS dX1_hasPlace_17
  rw [eH, eL] at goal
  exact goal
abbrev rmX1_canBeWalked : Room := { frames := 1, cells := 0, slots := 0, locals := 40 }
set_option maxRecDepth 20000 in
theorem inX1_canBeWalked_X1 : ∀ w ∈ u_ws RX1 TX1 5, w ∈ wsX1_canBeWalked := by decide +kernel
set_option maxRecDepth 100000 in
set_option maxHeartbeats 4000000 in
theorem mtX1_canBeWalked {l : Launch} {D : va_G} {cI cB cS cR : ClassId} {ad : Nat → Nat} {tS tP : Nat} {kS vS : Nat → Nat} {sz : Nat} {g : Nat} {σ : wx_Z} {K : Int32 → wx_Z → Prop} (hg : g < 10) (h : wpX1_canBeWalked g σ K) : Met l yX1_canBeWalked wsX1_canBeWalked rmX1_canBeWalked (wx_Pre D [(cI, .int), (cB, .byte), (cS, .object RX5), (cR, .array .int)] (wC_RO tS tP kS vS) 58 (wC_E cI cB cS cR ad) ad σ sz [.ref (ad (cCo g))]) (va_Qi K (wx_B D [(cI, .int), (cB, .byte), (cS, .object RX5), (cR, .array .int)] 58 (wC_E cI cB cS cR ad) ad (va_A (wx_w 58 (wC_E cI cB cS cR ad) ad σ) sz)) (va_A (wx_w 58 (wC_E cI cB cS cR ad) ad σ) sz)) 0 0 (va_A (wx_w 58 (wC_E cI cB cS cR ad) ad σ) sz) := by
  unfold wpX1_canBeWalked at h
  refine wx_metz (cc := cX1_canBeWalked) (maxL := 1) (own := RX1) rfl (by decide) rfl (Nat.le_of_ble_eq_true rfl) (wC_ROok tS tP kS vS) ?_
  intro p e s m args below meth c A Q ls C Rt hP hD hS hl
  obtain ⟨⟨hx, hb, hml, hown, hts⟩, hA, hK, hRO, hro⟩ := id C
  have hl : lv_has ls 1 [(0, .ref (ad (cCo g)))] := hl
  obtain ⟨H, eH⟩ : ∃ z, z = s.heap := ⟨_, rfl⟩
  obtain ⟨locs, eL⟩ : ∃ z : List Loc, z = [] := ⟨_, rfl⟩
  rw [← eH] at hP
  have hS : va_S A s.heap H locs := by rw [eH, eL]; exact hS
  have goal : W p l e rmX1_canBeWalked s m args below meth c H locs 0 0 Q (F0 m 0 ls []) := by
    refine lv_aload_n hx hb dX1_canBeWalked_0 rfl (lv_at hl 0 rfl) ?_
    refine wx_get C hP (q := (cCo g)) (ci := 1) (lt_co hg) (eC_co hg _) (Cn := RX1) (T := TX1) (Nf := 5) rfl inX1_canBeWalked_X1 3 (by decide) (List.mem_of_getElem? (i := 1) rfl) (v := .int (σ (cCo g) 3)) rfl dX1_canBeWalked_1 ?_
    refine lv_bipush (v := 16) hx hb dX1_canBeWalked_4 (by decide) ?_
    refine lv_icmp_gt (tgt := 13) hx hb dX1_canBeWalked_6 (by decide) (fun c6 => ?_) (fun c6 => ?_)
    · have h := h.1 c6
      refine lv_iconst (v := 0) hx hb dX1_canBeWalked_13 (by decide) ?_
      exact Rt _ _ _ _ _ _ rfl h hP hD hS dX1_canBeWalked_14
    · have h := h.2 c6
      refine lv_iconst (v := 1) hx hb dX1_canBeWalked_9 (by decide) ?_
      refine lv_goto (tgt := 14) hx hb dX1_canBeWalked_10 (by decide) ?_
      exact Rt _ _ _ _ _ _ rfl h hP hD hS dX1_canBeWalked_14
  rw [eH, eL] at goal
  exact goal
abbrev rmX1_wordOfTerm : Room := { frames := 2, cells := 0, slots := 0, locals := 63 }
set_option maxRecDepth 20000 in
theorem inX1_wordOfTerm_X1 : ∀ w ∈ u_ws RX1 TX1 5, w ∈ wsX1_wordOfTerm := by decide +kernel
set_option maxRecDepth 100000 in
set_option maxHeartbeats 4000000 in
theorem mtX1_wordOfTerm {l : Launch} {D : va_G} {cI cB cS cR : ClassId} {ad : Nat → Nat} {tS tP : Nat} {kS vS : Nat → Nat} {sz : Nat} {g : Nat} {σ : wx_Z} {x1 : Int32} {K : Int32 → wx_Z → Prop} (hg : g < 10) (h : wpX1_wordOfTerm g σ x1 K) : Met l yX1_wordOfTerm wsX1_wordOfTerm rmX1_wordOfTerm (wx_Pre D [(cI, .int), (cB, .byte), (cS, .object RX5), (cR, .array .int)] (wC_RO tS tP kS vS) 58 (wC_E cI cB cS cR ad) ad σ sz [.ref (ad (cCo g)), .int x1]) (va_Qi K (wx_B D [(cI, .int), (cB, .byte), (cS, .object RX5), (cR, .array .int)] 58 (wC_E cI cB cS cR ad) ad (va_A (wx_w 58 (wC_E cI cB cS cR ad) ad σ) sz)) (va_A (wx_w 58 (wC_E cI cB cS cR ad) ad σ) sz)) 0 0 (va_A (wx_w 58 (wC_E cI cB cS cR ad) ad σ) sz) := by
  unfold wpX1_wordOfTerm at h
  refine wx_meti (cc := cX1_wordOfTerm) (maxL := 2) (own := RX1) rfl (by decide) rfl (Nat.le_of_ble_eq_true rfl) (wC_ROok tS tP kS vS) ?_
  intro p e s m args below meth c A Q ls C Rt hP hD hS hl
  obtain ⟨⟨hx, hb, hml, hown, hts⟩, hA, hK, hRO, hro⟩ := id C
  have hl : lv_has ls 2 [(0, .ref (ad (cCo g))), (1, .int x1)] := hl
  obtain ⟨H, eH⟩ : ∃ z, z = s.heap := ⟨_, rfl⟩
  obtain ⟨locs, eL⟩ : ∃ z : List Loc, z = [] := ⟨_, rfl⟩
  rw [← eH] at hP
  have hS : va_S A s.heap H locs := by rw [eH, eL]; exact hS
  have goal : W p l e rmX1_wordOfTerm s m args below meth c H locs 0 0 Q (F0 m 0 ls []) := by
    refine lv_aload_n hx hb dX1_wordOfTerm_0 rfl (lv_at hl 0 rfl) ?_
    refine lv_iconst (v := 1) hx hb dX1_wordOfTerm_1 (by decide) ?_
    refine lv_aload_n hx hb dX1_wordOfTerm_2 rfl (lv_at hl 0 rfl) ?_
    refine wx_get C hP (q := (cCo g)) (ci := 1) (lt_co hg) (eC_co hg _) (Cn := RX1) (T := TX1) (Nf := 5) rfl inX1_wordOfTerm_X1 4 (by decide) (List.mem_of_getElem? (i := 1) rfl) (v := .ref (ad (cTe g))) rfl dX1_wordOfTerm_3 ?_
    refine lv_iload_n hx hb dX1_wordOfTerm_6 rfl (lv_at hl 1 rfl) ?_
    refine wx_ild C hP (q := (cTe g)) (lt_te hg) (eC_te hg) 0 rfl h.1 dX1_wordOfTerm_7 ?_
    have h := h.2
    refine lv_ishl hx hb dX1_wordOfTerm_8 ?_
    refine wx_ci C hD hS (va_runV (As := [.int (1 <<< ((σ (cTe g) (Int32.toNatClampNeg x1)) &&& 31))]) (rest := []) C.1 (mtX1_summed (l := l) (D := D) (sz := H.size) hg h) (cwV 1 hts gX1_wordOfTerm_X1_summed rfl rfl rfl nyX1_summed ⟨Nat.le_of_ble_eq_true rfl, Nat.le_of_ble_eq_true rfl⟩) (wx_pv C hP hD hS (q := (cCo g)) (ci := 1) (lt_co hg) (eC_co hg _) rfl) rfl rfl hl.1 rfl (lv_room (Nat.le_of_ble_eq_true rfl)) dX1_wordOfTerm_9 ⟨Nat.zero_le _, Nat.zero_le _⟩) (fun r9 σ9 H locs h hP hD hS => ?_)
    exact Rt _ _ _ _ _ _ h hP hD hS dX1_wordOfTerm_12
  rw [eH, eL] at goal
  exact goal
abbrev rmX1_wordOf : Room := { frames := 2, cells := 0, slots := 0, locals := 63 }
set_option maxRecDepth 20000 in
theorem inX1_wordOf_X1 : ∀ w ∈ u_ws RX1 TX1 5, w ∈ wsX1_wordOf := by decide +kernel
set_option maxRecDepth 100000 in
set_option maxHeartbeats 4000000 in
theorem bX1_wordOf_4 {p : Program} {l : Launch} {e : Env} {s : State} {m : MethodId} {args : Array Value} {below : List Frame} {meth : Method} {c : Code} {A : Nat → Prop} {Q : State → Prop} {D : va_G} {cI cB cS cR : ClassId} {ad : Nat → Nat} {tS tP : Nat} {kS vS : Nat → Nat} {g : Nat} {K : Int32 → wx_Z → Prop} (C : wx_C p s m args c cX1_wordOf 4 RX1 wsX1_wordOf D [(cI, .int), (cB, .byte), (cS, .object RX5), (cR, .array .int)] (wC_RO tS tP kS vS) A) (Rt : wx_Ri p l e rmX1_wordOf s m args below meth c cX1_wordOf D 58 (wC_E cI cB cS cR ad) ad A K Q) (hg : g < 10) : ∀ (n : Nat) (σ : wx_Z) (x1 : Int32) (x2 : Int32) (x3 : Int32), wpX1_wordOf_4 g K n σ x1 x2 x3 → ∀ (H : Heap) (locs : List Loc) (ls : Array Slot), va_P D vwCl (wx_w 58 (wC_E cI cB cS cR ad) ad σ) H → va_D A (wx_w 58 (wC_E cI cB cS cR ad) ad σ) → va_S A s.heap H locs → lv_has ls 4 [(0, .ref (ad (cCo g))), (1, .int x1), (2, .int x2), (3, .int x3)] → W p l e rmX1_wordOf s m args below meth c H locs 0 0 Q (F0 m 4 ls []) := by
  obtain ⟨⟨hx, hb, hml, hown, hts⟩, hA, hK, hRO, hro⟩ := id C
  intro n
  induction n with
  | zero => intro σ x1 x2 x3 h; exact h.elim
  | succ n ih =>
    intro σ x1 x2 x3 h H locs ls hP hD hS hl
    unfold wpX1_wordOf_4 at h
    refine lv_iload_n hx hb dX1_wordOf_4 rfl (lv_at hl 3 rfl) ?_
    refine lv_aload_n hx hb dX1_wordOf_5 rfl (lv_at hl 0 rfl) ?_
    refine wx_get C hP (q := (cCo g)) (ci := 1) (lt_co hg) (eC_co hg _) (Cn := RX1) (T := TX1) (Nf := 5) rfl inX1_wordOf_X1 3 (by decide) (List.mem_of_getElem? (i := 1) rfl) (v := .int (σ (cCo g) 3)) rfl dX1_wordOf_6 ?_
    refine lv_icmp_ge (tgt := 33) hx hb dX1_wordOf_9 (by decide) (fun c9 => ?_) (fun c9 => ?_)
    · have h := h.1 c9
      refine lv_aload_n hx hb dX1_wordOf_33 rfl (lv_at hl 0 rfl) ?_
      refine lv_iload_n hx hb dX1_wordOf_34 rfl (lv_at hl 2 rfl) ?_
      refine wx_ci C hD hS (va_runV (As := [.int x2]) (rest := []) C.1 (mtX1_summed (l := l) (D := D) (sz := H.size) hg h) (cwV 1 hts gX1_wordOf_X1_summed rfl rfl rfl nyX1_summed ⟨Nat.le_of_ble_eq_true rfl, Nat.le_of_ble_eq_true rfl⟩) (wx_pv C hP hD hS (q := (cCo g)) (ci := 1) (lt_co hg) (eC_co hg _) rfl) rfl rfl hl.1 rfl (lv_room (Nat.le_of_ble_eq_true rfl)) dX1_wordOf_35 ⟨Nat.zero_le _, Nat.zero_le _⟩) (fun r35 σ35 H locs h hP hD hS => ?_)
      exact Rt _ _ _ _ _ _ h hP hD hS dX1_wordOf_38
    · have h := h.2 c9
      refine lv_iload_n hx hb dX1_wordOf_12 rfl (lv_at hl 2 rfl) ?_
      refine lv_iload_n hx hb dX1_wordOf_13 rfl (lv_at hl 1 rfl) ?_
      refine lv_iload_n hx hb dX1_wordOf_14 rfl (lv_at hl 3 rfl) ?_
      refine lv_iushr (v := wx_us x1 x3) hx hb dX1_wordOf_15 rfl ?_
      refine lv_iconst (v := 1) hx hb dX1_wordOf_16 (by decide) ?_
      refine lv_iand hx hb dX1_wordOf_17 ?_
      refine lv_aload_n hx hb dX1_wordOf_18 rfl (lv_at hl 0 rfl) ?_
      refine wx_get C hP (q := (cCo g)) (ci := 1) (lt_co hg) (eC_co hg _) (Cn := RX1) (T := TX1) (Nf := 5) rfl inX1_wordOf_X1 4 (by decide) (List.mem_of_getElem? (i := 2) rfl) (v := .ref (ad (cTe g))) rfl dX1_wordOf_19 ?_
      refine lv_iload_n hx hb dX1_wordOf_22 rfl (lv_at hl 3 rfl) ?_
      refine wx_ild C hP (q := (cTe g)) (lt_te hg) (eC_te hg) 0 rfl h.1 dX1_wordOf_23 ?_
      have h := h.2
      refine lv_ishl hx hb dX1_wordOf_24 ?_
      refine lv_ior hx hb dX1_wordOf_25 ?_
      refine lv_topi (fun t26 e_t26 => ?_)
      have h := h t26 e_t26
      refine lv_istore_n (lv' := [(2, .int t26), (0, .ref (ad (cCo g))), (1, .int x1), (3, .int x3)]) hx hb dX1_wordOf_26 rfl hl (by decide) rfl (fun ls hl => ?_)
      obtain ⟨t27, e_t27⟩ : ∃ y : Int32, y = x3 + 1 := ⟨_, rfl⟩
      have h := h t27 e_t27
      refine lv_iinc (v := t27) (lv' := [(3, .int t27), (2, .int t26), (0, .ref (ad (cCo g))), (1, .int x1)]) hx hb dX1_wordOf_27 hl (k := 3) rfl (by rw [e_t27]; rfl) (by decide) rfl (fun ls hl => ?_)
      refine lv_goto (tgt := 4) hx hb dX1_wordOf_30 (by decide) ?_
      exact ih σ x1 t26 t27  h _ _ _ hP hD hS (lv_sub hl [2, 3, 1, 0] rfl)
set_option maxRecDepth 100000 in
set_option maxHeartbeats 4000000 in
theorem mtX1_wordOf {l : Launch} {D : va_G} {cI cB cS cR : ClassId} {ad : Nat → Nat} {tS tP : Nat} {kS vS : Nat → Nat} {sz : Nat} {g : Nat} {σ : wx_Z} {x1 : Int32} {K : Int32 → wx_Z → Prop} (hg : g < 10) (h : wpX1_wordOf g σ x1 K) : Met l yX1_wordOf wsX1_wordOf rmX1_wordOf (wx_Pre D [(cI, .int), (cB, .byte), (cS, .object RX5), (cR, .array .int)] (wC_RO tS tP kS vS) 58 (wC_E cI cB cS cR ad) ad σ sz [.ref (ad (cCo g)), .int x1]) (va_Qi K (wx_B D [(cI, .int), (cB, .byte), (cS, .object RX5), (cR, .array .int)] 58 (wC_E cI cB cS cR ad) ad (va_A (wx_w 58 (wC_E cI cB cS cR ad) ad σ) sz)) (va_A (wx_w 58 (wC_E cI cB cS cR ad) ad σ) sz)) 0 0 (va_A (wx_w 58 (wC_E cI cB cS cR ad) ad σ) sz) := by
  unfold wpX1_wordOf at h
  refine wx_meti (cc := cX1_wordOf) (maxL := 4) (own := RX1) rfl (by decide) rfl (Nat.le_of_ble_eq_true rfl) (wC_ROok tS tP kS vS) ?_
  intro p e s m args below meth c A Q ls C Rt hP hD hS hl
  obtain ⟨⟨hx, hb, hml, hown, hts⟩, hA, hK, hRO, hro⟩ := id C
  have hl : lv_has ls 4 [(0, .ref (ad (cCo g))), (1, .int x1)] := hl
  obtain ⟨H, eH⟩ : ∃ z, z = s.heap := ⟨_, rfl⟩
  obtain ⟨locs, eL⟩ : ∃ z : List Loc, z = [] := ⟨_, rfl⟩
  rw [← eH] at hP
  have hS : va_S A s.heap H locs := by rw [eH, eL]; exact hS
  have goal : W p l e rmX1_wordOf s m args below meth c H locs 0 0 Q (F0 m 0 ls []) := by
    refine lv_iconst (v := 0) hx hb dX1_wordOf_0 (by decide) ?_
    refine lv_istore_n (lv' := [(2, .int 0), (0, .ref (ad (cCo g))), (1, .int x1)]) hx hb dX1_wordOf_1 rfl hl (by decide) rfl (fun ls hl => ?_)
    refine lv_iconst (v := 0) hx hb dX1_wordOf_2 (by decide) ?_
    refine lv_istore_n (lv' := [(3, .int 0), (2, .int 0), (0, .ref (ad (cCo g))), (1, .int x1)]) hx hb dX1_wordOf_3 rfl hl (by decide) rfl (fun ls hl => ?_)
    obtain ⟨n4, h⟩ := h
    exact bX1_wordOf_4 C Rt hg n4 σ x1 0 0  h _ _ _ hP hD hS (lv_sub hl [2, 3, 1, 0] rfl)
  rw [eH, eL] at goal
  exact goal
abbrev rmX1_termPlaces : Room := { frames := 1, cells := 0, slots := 0, locals := 40 }
set_option maxRecDepth 20000 in
theorem inX1_termPlaces_X1 : ∀ w ∈ u_ws RX1 TX1 5, w ∈ wsX1_termPlaces := by decide +kernel
set_option maxRecDepth 100000 in
set_option maxHeartbeats 4000000 in
theorem bX1_termPlaces_4 {p : Program} {l : Launch} {e : Env} {s : State} {m : MethodId} {args : Array Value} {below : List Frame} {meth : Method} {c : Code} {A : Nat → Prop} {Q : State → Prop} {D : va_G} {cI cB cS cR : ClassId} {ad : Nat → Nat} {tS tP : Nat} {kS vS : Nat → Nat} {g : Nat} {K : Int32 → wx_Z → Prop} (C : wx_C p s m args c cX1_termPlaces 3 RX1 wsX1_termPlaces D [(cI, .int), (cB, .byte), (cS, .object RX5), (cR, .array .int)] (wC_RO tS tP kS vS) A) (Rt : wx_Ri p l e rmX1_termPlaces s m args below meth c cX1_termPlaces D 58 (wC_E cI cB cS cR ad) ad A K Q) (hg : g < 10) : ∀ (n : Nat) (σ : wx_Z) (x1 : Int32) (x2 : Int32), wpX1_termPlaces_4 g K n σ x1 x2 → ∀ (H : Heap) (locs : List Loc) (ls : Array Slot), va_P D vwCl (wx_w 58 (wC_E cI cB cS cR ad) ad σ) H → va_D A (wx_w 58 (wC_E cI cB cS cR ad) ad σ) → va_S A s.heap H locs → lv_has ls 3 [(0, .ref (ad (cCo g))), (1, .int x1), (2, .int x2)] → W p l e rmX1_termPlaces s m args below meth c H locs 0 0 Q (F0 m 4 ls []) := by
  obtain ⟨⟨hx, hb, hml, hown, hts⟩, hA, hK, hRO, hro⟩ := id C
  intro n
  induction n with
  | zero => intro σ x1 x2 h; exact h.elim
  | succ n ih =>
    intro σ x1 x2 h H locs ls hP hD hS hl
    unfold wpX1_termPlaces_4 at h
    refine lv_iload_n hx hb dX1_termPlaces_4 rfl (lv_at hl 2 rfl) ?_
    refine lv_aload_n hx hb dX1_termPlaces_5 rfl (lv_at hl 0 rfl) ?_
    refine wx_get C hP (q := (cCo g)) (ci := 1) (lt_co hg) (eC_co hg _) (Cn := RX1) (T := TX1) (Nf := 5) rfl inX1_termPlaces_X1 3 (by decide) (List.mem_of_getElem? (i := 1) rfl) (v := .int (σ (cCo g) 3)) rfl dX1_termPlaces_6 ?_
    refine lv_icmp_ge (tgt := 29) hx hb dX1_termPlaces_9 (by decide) (fun c9 => ?_) (fun c9 => ?_)
    · have h := h.1 c9
      refine lv_iload_n hx hb dX1_termPlaces_29 rfl (lv_at hl 1 rfl) ?_
      exact Rt _ _ _ _ _ _ h hP hD hS dX1_termPlaces_30
    · have h := h.2 c9
      refine lv_iload_n hx hb dX1_termPlaces_12 rfl (lv_at hl 1 rfl) ?_
      refine lv_iconst (v := 1) hx hb dX1_termPlaces_13 (by decide) ?_
      refine lv_aload_n hx hb dX1_termPlaces_14 rfl (lv_at hl 0 rfl) ?_
      refine wx_get C hP (q := (cCo g)) (ci := 1) (lt_co hg) (eC_co hg _) (Cn := RX1) (T := TX1) (Nf := 5) rfl inX1_termPlaces_X1 4 (by decide) (List.mem_of_getElem? (i := 2) rfl) (v := .ref (ad (cTe g))) rfl dX1_termPlaces_15 ?_
      refine lv_iload_n hx hb dX1_termPlaces_18 rfl (lv_at hl 2 rfl) ?_
      refine wx_ild C hP (q := (cTe g)) (lt_te hg) (eC_te hg) 0 rfl h.1 dX1_termPlaces_19 ?_
      have h := h.2
      refine lv_ishl hx hb dX1_termPlaces_20 ?_
      refine lv_ior hx hb dX1_termPlaces_21 ?_
      refine lv_topi (fun t22 e_t22 => ?_)
      have h := h t22 e_t22
      refine lv_istore_n (lv' := [(1, .int t22), (0, .ref (ad (cCo g))), (2, .int x2)]) hx hb dX1_termPlaces_22 rfl hl (by decide) rfl (fun ls hl => ?_)
      obtain ⟨t23, e_t23⟩ : ∃ y : Int32, y = x2 + 1 := ⟨_, rfl⟩
      have h := h t23 e_t23
      refine lv_iinc (v := t23) (lv' := [(2, .int t23), (1, .int t22), (0, .ref (ad (cCo g)))]) hx hb dX1_termPlaces_23 hl (k := 2) rfl (by rw [e_t23]; rfl) (by decide) rfl (fun ls hl => ?_)
      refine lv_goto (tgt := 4) hx hb dX1_termPlaces_26 (by decide) ?_
      exact ih σ t22 t23  h _ _ _ hP hD hS (lv_sub hl [2, 1, 0] rfl)
set_option maxRecDepth 100000 in
set_option maxHeartbeats 4000000 in
theorem mtX1_termPlaces {l : Launch} {D : va_G} {cI cB cS cR : ClassId} {ad : Nat → Nat} {tS tP : Nat} {kS vS : Nat → Nat} {sz : Nat} {g : Nat} {σ : wx_Z} {K : Int32 → wx_Z → Prop} (hg : g < 10) (h : wpX1_termPlaces g σ K) : Met l yX1_termPlaces wsX1_termPlaces rmX1_termPlaces (wx_Pre D [(cI, .int), (cB, .byte), (cS, .object RX5), (cR, .array .int)] (wC_RO tS tP kS vS) 58 (wC_E cI cB cS cR ad) ad σ sz [.ref (ad (cCo g))]) (va_Qi K (wx_B D [(cI, .int), (cB, .byte), (cS, .object RX5), (cR, .array .int)] 58 (wC_E cI cB cS cR ad) ad (va_A (wx_w 58 (wC_E cI cB cS cR ad) ad σ) sz)) (va_A (wx_w 58 (wC_E cI cB cS cR ad) ad σ) sz)) 0 0 (va_A (wx_w 58 (wC_E cI cB cS cR ad) ad σ) sz) := by
  unfold wpX1_termPlaces at h
  refine wx_meti (cc := cX1_termPlaces) (maxL := 3) (own := RX1) rfl (by decide) rfl (Nat.le_of_ble_eq_true rfl) (wC_ROok tS tP kS vS) ?_
  intro p e s m args below meth c A Q ls C Rt hP hD hS hl
  obtain ⟨⟨hx, hb, hml, hown, hts⟩, hA, hK, hRO, hro⟩ := id C
  have hl : lv_has ls 3 [(0, .ref (ad (cCo g)))] := hl
  obtain ⟨H, eH⟩ : ∃ z, z = s.heap := ⟨_, rfl⟩
  obtain ⟨locs, eL⟩ : ∃ z : List Loc, z = [] := ⟨_, rfl⟩
  rw [← eH] at hP
  have hS : va_S A s.heap H locs := by rw [eH, eL]; exact hS
  have goal : W p l e rmX1_termPlaces s m args below meth c H locs 0 0 Q (F0 m 0 ls []) := by
    refine lv_iconst (v := 0) hx hb dX1_termPlaces_0 (by decide) ?_
    refine lv_istore_n (lv' := [(1, .int 0), (0, .ref (ad (cCo g)))]) hx hb dX1_termPlaces_1 rfl hl (by decide) rfl (fun ls hl => ?_)
    refine lv_iconst (v := 0) hx hb dX1_termPlaces_2 (by decide) ?_
    refine lv_istore_n (lv' := [(2, .int 0), (1, .int 0), (0, .ref (ad (cCo g)))]) hx hb dX1_termPlaces_3 rfl hl (by decide) rfl (fun ls hl => ?_)
    obtain ⟨n4, h⟩ := h
    exact bX1_termPlaces_4 C Rt hg n4 σ 0 0  h _ _ _ hP hD hS (lv_sub hl [2, 1, 0] rfl)
  rw [eH, eL] at goal
  exact goal
abbrev rmX1_setAt : Room := { frames := 1, cells := 0, slots := 0, locals := 40 }
set_option maxRecDepth 20000 in
theorem inX1_setAt_X1 : ∀ w ∈ u_ws RX1 TX1 5, w ∈ wsX1_setAt := by decide +kernel
set_option maxRecDepth 100000 in
set_option maxHeartbeats 4000000 in
theorem bX1_setAt_13 {p : Program} {l : Launch} {e : Env} {s : State} {m : MethodId} {args : Array Value} {below : List Frame} {meth : Method} {c : Code} {A : Nat → Prop} {Q : State → Prop} {D : va_G} {cI cB cS cR : ClassId} {ad : Nat → Nat} {tS tP : Nat} {kS vS : Nat → Nat} {g : Nat} {K : Int32 → wx_Z → Prop} (C : wx_C p s m args c cX1_setAt 7 RX1 wsX1_setAt D [(cI, .int), (cB, .byte), (cS, .object RX5), (cR, .array .int)] (wC_RO tS tP kS vS) A) (Rt : wx_Ri p l e rmX1_setAt s m args below meth c cX1_setAt D 58 (wC_E cI cB cS cR ad) ad A K Q) (hg : g < 10) : ∀ (n : Nat) (σ : wx_Z) (x1 : Int32) (x2 : Int32) (x4 : Int32) (x5 : Int32), wpX1_setAt_13 g K n σ x1 x2 x4 x5 → ∀ (H : Heap) (locs : List Loc) (ls : Array Slot), va_P D vwCl (wx_w 58 (wC_E cI cB cS cR ad) ad σ) H → va_D A (wx_w 58 (wC_E cI cB cS cR ad) ad σ) → va_S A s.heap H locs → lv_has ls 7 [(0, .ref (ad (cCo g))), (1, .int x1), (2, .int x2), (3, .ref tS), (4, .int x4), (5, .int x5)] → W p l e rmX1_setAt s m args below meth c H locs 0 0 Q (F0 m 13 ls []) := by
  obtain ⟨⟨hx, hb, hml, hown, hts⟩, hA, hK, hRO, hro⟩ := id C
  intro n
  induction n with
  | zero => intro σ x1 x2 x4 x5 h; exact h.elim
  | succ n ih =>
    intro σ x1 x2 x4 x5 h H locs ls hP hD hS hl
    unfold wpX1_setAt_13 at h
    refine lv_iload hx hb dX1_setAt_13 (lv_at hl 5 rfl) ?_
    refine lv_iload hx hb dX1_setAt_15 (lv_at hl 4 rfl) ?_
    refine lv_icmp_ge (tgt := 52) hx hb dX1_setAt_17 (by decide) (fun c17 => ?_) (fun c17 => ?_)
    · have h := h.1 c17
      refine lv_iconst (v := 0) hx hb dX1_setAt_52 (by decide) ?_
      exact Rt _ _ _ _ _ _ h hP hD hS dX1_setAt_53
    · have h := h.2 c17
      refine lv_aload_n hx hb dX1_setAt_20 rfl (lv_at hl 3 rfl) ?_
      refine lv_iload hx hb dX1_setAt_21 (lv_at hl 5 rfl) ?_
      refine va_ti hx hb (ro_tS hro) hS h.1 (v := .int (wC_S (Int32.toNatClampNeg x5))) rfl dX1_setAt_23 ?_
      have h := h.2
      refine lv_istore (lv' := [(6, .int (wC_S (Int32.toNatClampNeg x5))), (0, .ref (ad (cCo g))), (1, .int x1), (2, .int x2), (3, .ref tS), (4, .int x4), (5, .int x5)]) hx hb dX1_setAt_24 hl (by decide) rfl (fun ls hl => ?_)
      refine lv_iload hx hb dX1_setAt_26 (lv_at hl 0 rfl) ?_
      refine lv_aload_n hx hb dX1_setAt_28 rfl (lv_at hl 1 rfl) ?_
      refine wx_get C hP (q := (cCo g)) (ci := 1) (lt_co hg) (eC_co hg _) (Cn := RX1) (T := TX1) (Nf := 5) rfl inX1_setAt_X1 2 (by decide) (List.mem_of_getElem? (i := 1) rfl) (v := .int (σ (cCo g) 2)) rfl dX1_setAt_29 ?_
      refine lv_icmp_ge (tgt := 46) hx hb dX1_setAt_32 (by decide) (fun c32 => ?_) (fun c32 => ?_)
      · have h := h.1 c32
        obtain ⟨t46, e_t46⟩ : ∃ y : Int32, y = x5 + 1 := ⟨_, rfl⟩
        have h := h t46 e_t46
        refine lv_iinc (v := t46) (lv' := [(5, .int t46), (6, .int (wC_S (Int32.toNatClampNeg x5))), (0, .ref (ad (cCo g))), (1, .int x1), (2, .int x2), (3, .ref tS), (4, .int x4)]) hx hb dX1_setAt_46 hl (k := 6) rfl (by rw [e_t46]; rfl) (by decide) rfl (fun ls hl => ?_)
        refine lv_goto (tgt := 13) hx hb dX1_setAt_49 (by decide) ?_
        exact ih σ x1 x2 x4 t46  h _ _ _ hP hD hS (lv_sub hl [2, 3, 4, 5, 6, 0] rfl)
      · have h := h.2 c32
        refine lv_iload_n hx hb dX1_setAt_35 rfl (lv_at hl 3 rfl) ?_
        refine lv_iload_n hx hb dX1_setAt_36 rfl (lv_at hl 2 rfl) ?_
        refine lv_icmp_ne (tgt := 43) hx hb dX1_setAt_37 (by decide) (fun c37 => ?_) (fun c37 => ?_)
        · have h := h.1 c37
          obtain ⟨t43, e_t43⟩ : ∃ y : Int32, y = x2 + 1 := ⟨_, rfl⟩
          have h := h t43 e_t43
          refine lv_iinc (v := t43) (lv' := [(2, .int t43), (6, .int (wC_S (Int32.toNatClampNeg x5))), (0, .ref (ad (cCo g))), (1, .int x1), (3, .ref tS), (4, .int x4), (5, .int x5)]) hx hb dX1_setAt_43 hl (k := 3) rfl (by rw [e_t43]; rfl) (by decide) rfl (fun ls hl => ?_)
          obtain ⟨t46_1, e_t46_1⟩ : ∃ y : Int32, y = x5 + 1 := ⟨_, rfl⟩
          have h := h t46_1 e_t46_1
          refine lv_iinc (v := t46_1) (lv' := [(5, .int t46_1), (2, .int t43), (6, .int (wC_S (Int32.toNatClampNeg x5))), (0, .ref (ad (cCo g))), (1, .int x1), (3, .ref tS), (4, .int x4)]) hx hb dX1_setAt_46 hl (k := 6) rfl (by rw [e_t46_1]; rfl) (by decide) rfl (fun ls hl => ?_)
          refine lv_goto (tgt := 13) hx hb dX1_setAt_49 (by decide) ?_
          exact ih σ x1 t43 x4 t46_1  h _ _ _ hP hD hS (lv_sub hl [3, 4, 1, 5, 6, 0] rfl)
        · have h := h.2 c37
          refine lv_iload hx hb dX1_setAt_40 (lv_at hl 0 rfl) ?_
          exact Rt _ _ _ _ _ _ h hP hD hS dX1_setAt_42
set_option maxRecDepth 100000 in
set_option maxHeartbeats 4000000 in
theorem mtX1_setAt {l : Launch} {D : va_G} {cI cB cS cR : ClassId} {ad : Nat → Nat} {tS tP : Nat} {kS vS : Nat → Nat} {sz : Nat} {g : Nat} {σ : wx_Z} {x1 : Int32} {K : Int32 → wx_Z → Prop} (hg : g < 10) (h : wpX1_setAt g σ x1 K) : Met l yX1_setAt wsX1_setAt rmX1_setAt (wx_Pre D [(cI, .int), (cB, .byte), (cS, .object RX5), (cR, .array .int)] (wC_RO tS tP kS vS) 58 (wC_E cI cB cS cR ad) ad σ sz [.ref (ad (cCo g)), .int x1]) (va_Qi K (wx_B D [(cI, .int), (cB, .byte), (cS, .object RX5), (cR, .array .int)] 58 (wC_E cI cB cS cR ad) ad (va_A (wx_w 58 (wC_E cI cB cS cR ad) ad σ) sz)) (va_A (wx_w 58 (wC_E cI cB cS cR ad) ad σ) sz)) 0 0 (va_A (wx_w 58 (wC_E cI cB cS cR ad) ad σ) sz) := by
  unfold wpX1_setAt at h
  refine wx_meti (cc := cX1_setAt) (maxL := 7) (own := RX1) rfl (by decide) rfl (Nat.le_of_ble_eq_true rfl) (wC_ROok tS tP kS vS) ?_
  intro p e s m args below meth c A Q ls C Rt hP hD hS hl
  obtain ⟨⟨hx, hb, hml, hown, hts⟩, hA, hK, hRO, hro⟩ := id C
  have hl : lv_has ls 7 [(0, .ref (ad (cCo g))), (1, .int x1)] := hl
  obtain ⟨H, eH⟩ : ∃ z, z = s.heap := ⟨_, rfl⟩
  obtain ⟨locs, eL⟩ : ∃ z : List Loc, z = [] := ⟨_, rfl⟩
  rw [← eH] at hP
  have hS : va_S A s.heap H locs := by rw [eH, eL]; exact hS
  have goal : W p l e rmX1_setAt s m args below meth c H locs 0 0 Q (F0 m 0 ls []) := by
    refine lv_iconst (v := 0) hx hb dX1_setAt_0 (by decide) ?_
    refine lv_istore_n (lv' := [(2, .int 0), (0, .ref (ad (cCo g))), (1, .int x1)]) hx hb dX1_setAt_1 rfl hl (by decide) rfl (fun ls hl => ?_)
    refine va_getsN hx hb (ro_zS hro) hS hown (ro_n1 hro) (fun _ h9 => h9) dX1_setAt_2 ?_
    refine lv_astore_n (lv' := [(3, .ref tS), (2, .int 0), (0, .ref (ad (cCo g))), (1, .int x1)]) hx hb dX1_setAt_5 rfl hl (by decide) rfl (fun ls hl => ?_)
    refine lv_aload_n hx hb dX1_setAt_6 rfl (lv_at hl 0 rfl) ?_
    refine va_tlen hx hb (ro_tS hro) hS (v := 32) (by decide) dX1_setAt_7 ?_
    refine lv_istore (lv' := [(4, .int 32), (3, .ref tS), (2, .int 0), (0, .ref (ad (cCo g))), (1, .int x1)]) hx hb dX1_setAt_8 hl (by decide) rfl (fun ls hl => ?_)
    refine lv_iconst (v := 0) hx hb dX1_setAt_10 (by decide) ?_
    refine lv_istore (lv' := [(5, .int 0), (4, .int 32), (3, .ref tS), (2, .int 0), (0, .ref (ad (cCo g))), (1, .int x1)]) hx hb dX1_setAt_11 hl (by decide) rfl (fun ls hl => ?_)
    obtain ⟨n13, h⟩ := h
    exact bX1_setAt_13 C Rt hg n13 σ x1 0 32 0  h _ _ _ hP hD hS (lv_sub hl [4, 5, 3, 2, 1, 0] rfl)
  rw [eH, eL] at goal
  exact goal
abbrev rmX2_allAlike : Room := { frames := 2, cells := 0, slots := 0, locals := 60 }
set_option maxRecDepth 20000 in
theorem inX2_allAlike_X2 : ∀ w ∈ u_ws RX2 TX2 1, w ∈ wsX2_allAlike := by decide +kernel
set_option maxRecDepth 100000 in
set_option maxHeartbeats 4000000 in
theorem bX2_allAlike_9 {p : Program} {l : Launch} {e : Env} {s : State} {m : MethodId} {args : Array Value} {below : List Frame} {meth : Method} {c : Code} {A : Nat → Prop} {Q : State → Prop} {D : va_G} {cI cB cS cR : ClassId} {ad : Nat → Nat} {tS tP : Nat} {kS vS : Nat → Nat} {K : Int32 → wx_Z → Prop} (C : wx_C p s m args c cX2_allAlike 5 RX2 wsX2_allAlike D [(cI, .int), (cB, .byte), (cS, .object RX5), (cR, .array .int)] (wC_RO tS tP kS vS) A) (Rt : wx_Ri p l e rmX2_allAlike s m args below meth c cX2_allAlike D 58 (wC_E cI cB cS cR ad) ad A K Q) : ∀ (n : Nat) (σ : wx_Z) (x1 : Int32) (x2 : Int32) (x3 : Int32) (x4 : Int32), wpX2_allAlike_9 K n σ x1 x2 x3 x4 → ∀ (H : Heap) (locs : List Loc) (ls : Array Slot), va_P D vwCl (wx_w 58 (wC_E cI cB cS cR ad) ad σ) H → va_D A (wx_w 58 (wC_E cI cB cS cR ad) ad σ) → va_S A s.heap H locs → lv_has ls 5 [(0, .ref (ad 46)), (1, .int x1), (2, .int x2), (3, .int x3), (4, .int x4)] → W p l e rmX2_allAlike s m args below meth c H locs 0 0 Q (F0 m 9 ls []) := by
  obtain ⟨⟨hx, hb, hml, hown, hts⟩, hA, hK, hRO, hro⟩ := id C
  intro n
  induction n with
  | zero => intro σ x1 x2 x3 x4 h; exact h.elim
  | succ n ih =>
    intro σ x1 x2 x3 x4 h H locs ls hP hD hS hl
    unfold wpX2_allAlike_9 at h
    refine lv_iload hx hb dX2_allAlike_9 (lv_at hl 4 rfl) ?_
    refine lv_iload_n hx hb dX2_allAlike_11 rfl (lv_at hl 2 rfl) ?_
    refine lv_icmp_ge (tgt := 33) hx hb dX2_allAlike_12 (by decide) (fun c12 => ?_) (fun c12 => ?_)
    · have h := h.1 c12
      refine lv_iload_n hx hb dX2_allAlike_33 rfl (lv_at hl 3 rfl) ?_
      refine lv_if_lt (tgt := 41) hx hb dX2_allAlike_34 (by decide) (fun c34 => ?_) (fun c34 => ?_)
      · have h := h.1 c34
        refine lv_iload_n hx hb dX2_allAlike_41 rfl (lv_at hl 2 rfl) ?_
        refine wx_ci C hD hS (va_runSN (As := [.int x2]) (rest := []) C.1 (mtX8_lowest (l := l) (D := D) (sz := H.size) h) ⟨va_cnB 1 hts ggX2_allAlike_X8_lowest rfl rfl rfl (ro_n6 hro) (hts (.initialized RX8) (List.mem_of_getElem? (i := 3) rfl)) nyX8_lowest.2 ⟨Nat.le_of_ble_eq_true rfl, Nat.le_of_ble_eq_true rfl⟩, hts (.static yX8_lowest) (List.mem_of_getElem? (i := 2) rfl), trivial⟩ (wx_ps C hP hD hS) rfl rfl hl.1 rfl (lv_room (Nat.le_of_ble_eq_true rfl)) dX2_allAlike_42 ⟨Nat.zero_le _, Nat.zero_le _⟩) (fun r42 σ42 H locs h hP hD hS => ?_)
        exact Rt _ _ _ _ _ _ h hP hD hS dX2_allAlike_45
      · have h := h.2 c34
        refine lv_iconst (v := 0) hx hb dX2_allAlike_37 (by decide) ?_
        refine lv_goto (tgt := 45) hx hb dX2_allAlike_38 (by decide) ?_
        exact Rt _ _ _ _ _ _ h hP hD hS dX2_allAlike_45
    · have h := h.2 c12
      refine lv_iload_n hx hb dX2_allAlike_15 rfl (lv_at hl 3 rfl) ?_
      refine lv_aload_n hx hb dX2_allAlike_16 rfl (lv_at hl 0 rfl) ?_
      refine wx_get C hP (q := 46) (ci := 2) (Nat.le_of_ble_eq_true rfl) (eC_46 _) (Cn := RX2) (T := TX2) (Nf := 1) rfl inX2_allAlike_X2 0 (by decide) (List.mem_of_getElem? (i := 1) rfl) (v := .ref (ad 47)) rfl dX2_allAlike_17 ?_
      refine lv_iload_n hx hb dX2_allAlike_20 rfl (lv_at hl 1 rfl) ?_
      have v21 := h.1
      have h := h.2
      refine wx_ald C hP (q := 47) (Nat.le_of_ble_eq_true rfl) (eC_47 _) 3 rfl rfl v21 (a := ad (48 + (Int32.toNatClampNeg x1))) rfl dX2_allAlike_21 ?_
      refine lv_iload hx hb dX2_allAlike_22 (lv_at hl 4 rfl) ?_
      refine wx_ild C hP (q := (48 + (Int32.toNatClampNeg x1))) (lt_ro (vp_lt v21)) (eC_ro (vp_lt v21)) 0 rfl h.1 dX2_allAlike_24 ?_
      have h := h.2
      refine lv_iadd hx hb dX2_allAlike_25 ?_
      refine lv_topi (fun t26 e_t26 => ?_)
      have h := h t26 e_t26
      refine lv_istore_n (lv' := [(3, .int t26), (0, .ref (ad 46)), (1, .int x1), (2, .int x2), (4, .int x4)]) hx hb dX2_allAlike_26 rfl hl (by decide) rfl (fun ls hl => ?_)
      obtain ⟨t27, e_t27⟩ : ∃ y : Int32, y = x4 + 1 := ⟨_, rfl⟩
      have h := h t27 e_t27
      refine lv_iinc (v := t27) (lv' := [(4, .int t27), (3, .int t26), (0, .ref (ad 46)), (1, .int x1), (2, .int x2)]) hx hb dX2_allAlike_27 hl (k := 4) rfl (by rw [e_t27]; rfl) (by decide) rfl (fun ls hl => ?_)
      refine lv_goto (tgt := 9) hx hb dX2_allAlike_30 (by decide) ?_
      exact ih σ x1 x2 t26 t27  h _ _ _ hP hD hS (lv_sub hl [2, 3, 4, 1, 0] rfl)
set_option maxRecDepth 100000 in
set_option maxHeartbeats 4000000 in
theorem mtX2_allAlike {l : Launch} {D : va_G} {cI cB cS cR : ClassId} {ad : Nat → Nat} {tS tP : Nat} {kS vS : Nat → Nat} {sz : Nat} {σ : wx_Z} {x1 : Int32} {K : Int32 → wx_Z → Prop} (h : wpX2_allAlike σ x1 K) : Met l yX2_allAlike wsX2_allAlike rmX2_allAlike (wx_Pre D [(cI, .int), (cB, .byte), (cS, .object RX5), (cR, .array .int)] (wC_RO tS tP kS vS) 58 (wC_E cI cB cS cR ad) ad σ sz [.ref (ad 46), .int x1]) (va_Qi K (wx_B D [(cI, .int), (cB, .byte), (cS, .object RX5), (cR, .array .int)] 58 (wC_E cI cB cS cR ad) ad (va_A (wx_w 58 (wC_E cI cB cS cR ad) ad σ) sz)) (va_A (wx_w 58 (wC_E cI cB cS cR ad) ad σ) sz)) 0 0 (va_A (wx_w 58 (wC_E cI cB cS cR ad) ad σ) sz) := by
  unfold wpX2_allAlike at h
  refine wx_meti (cc := cX2_allAlike) (maxL := 5) (own := RX2) rfl (by decide) rfl (Nat.le_of_ble_eq_true rfl) (wC_ROok tS tP kS vS) ?_
  intro p e s m args below meth c A Q ls C Rt hP hD hS hl
  obtain ⟨⟨hx, hb, hml, hown, hts⟩, hA, hK, hRO, hro⟩ := id C
  have hl : lv_has ls 5 [(0, .ref (ad 46)), (1, .int x1)] := hl
  obtain ⟨H, eH⟩ : ∃ z, z = s.heap := ⟨_, rfl⟩
  obtain ⟨locs, eL⟩ : ∃ z : List Loc, z = [] := ⟨_, rfl⟩
  rw [← eH] at hP
  have hS : va_S A s.heap H locs := by rw [eH, eL]; exact hS
  have goal : W p l e rmX2_allAlike s m args below meth c H locs 0 0 Q (F0 m 0 ls []) := by
    refine lv_iconst (v := 1) hx hb dX2_allAlike_0 (by decide) ?_
    refine lv_iload_n hx hb dX2_allAlike_1 rfl (lv_at hl 1 rfl) ?_
    refine lv_ishl hx hb dX2_allAlike_2 ?_
    refine lv_topi (fun t3 e_t3 => ?_)
    have h := h t3 e_t3
    refine lv_istore_n (lv' := [(2, .int t3), (0, .ref (ad 46)), (1, .int x1)]) hx hb dX2_allAlike_3 rfl hl (by decide) rfl (fun ls hl => ?_)
    refine lv_iconst (v := 0) hx hb dX2_allAlike_4 (by decide) ?_
    refine lv_istore_n (lv' := [(3, .int 0), (2, .int t3), (0, .ref (ad 46)), (1, .int x1)]) hx hb dX2_allAlike_5 rfl hl (by decide) rfl (fun ls hl => ?_)
    refine lv_iconst (v := 0) hx hb dX2_allAlike_6 (by decide) ?_
    refine lv_istore (lv' := [(4, .int 0), (3, .int 0), (2, .int t3), (0, .ref (ad 46)), (1, .int x1)]) hx hb dX2_allAlike_7 hl (by decide) rfl (fun ls hl => ?_)
    obtain ⟨n9, h⟩ := h
    exact bX2_allAlike_9 C Rt n9 σ x1 t3 0 0  h _ _ _ hP hD hS (lv_sub hl [3, 4, 2, 1, 0] rfl)
  rw [eH, eL] at goal
  exact goal
abbrev rmX2_eachAlone : Room := { frames := 1, cells := 0, slots := 0, locals := 40 }
set_option maxRecDepth 20000 in
theorem inX2_eachAlone_X2 : ∀ w ∈ u_ws RX2 TX2 1, w ∈ wsX2_eachAlone := by decide +kernel
set_option maxRecDepth 100000 in
set_option maxHeartbeats 4000000 in
theorem bX2_eachAlone_4 {p : Program} {l : Launch} {e : Env} {s : State} {m : MethodId} {args : Array Value} {below : List Frame} {meth : Method} {c : Code} {A : Nat → Prop} {Q : State → Prop} {D : va_G} {cI cB cS cR : ClassId} {ad : Nat → Nat} {tS tP : Nat} {kS vS : Nat → Nat} {K : Int32 → wx_Z → Prop} (C : wx_C p s m args c cX2_eachAlone 4 RX2 wsX2_eachAlone D [(cI, .int), (cB, .byte), (cS, .object RX5), (cR, .array .int)] (wC_RO tS tP kS vS) A) (Rt : wx_Ri p l e rmX2_eachAlone s m args below meth c cX2_eachAlone D 58 (wC_E cI cB cS cR ad) ad A K Q) : ∀ (n : Nat) (σ : wx_Z) (x1 : Int32) (x2 : Int32) (x3 : Int32), wpX2_eachAlone_4 K n σ x1 x2 x3 → ∀ (H : Heap) (locs : List Loc) (ls : Array Slot), va_P D vwCl (wx_w 58 (wC_E cI cB cS cR ad) ad σ) H → va_D A (wx_w 58 (wC_E cI cB cS cR ad) ad σ) → va_S A s.heap H locs → lv_has ls 4 [(0, .ref (ad 46)), (1, .int x1), (2, .int x2), (3, .int x3)] → W p l e rmX2_eachAlone s m args below meth c H locs 0 0 Q (F0 m 4 ls []) := by
  obtain ⟨⟨hx, hb, hml, hown, hts⟩, hA, hK, hRO, hro⟩ := id C
  intro n
  induction n with
  | zero => intro σ x1 x2 x3 h; exact h.elim
  | succ n ih =>
    intro σ x1 x2 x3 h H locs ls hP hD hS hl
    unfold wpX2_eachAlone_4 at h
    refine lv_iload_n hx hb dX2_eachAlone_4 rfl (lv_at hl 3 rfl) ?_
    refine lv_iconst (v := 1) hx hb dX2_eachAlone_5 (by decide) ?_
    refine lv_iload_n hx hb dX2_eachAlone_6 rfl (lv_at hl 1 rfl) ?_
    refine lv_ishl hx hb dX2_eachAlone_7 ?_
    refine lv_icmp_ge (tgt := 34) hx hb dX2_eachAlone_8 (by decide) (fun c8 => ?_) (fun c8 => ?_)
    · have h := h.1 c8
      refine lv_iload_n hx hb dX2_eachAlone_34 rfl (lv_at hl 2 rfl) ?_
      exact Rt _ _ _ _ _ _ h hP hD hS dX2_eachAlone_35
    · have h := h.2 c8
      refine lv_aload_n hx hb dX2_eachAlone_11 rfl (lv_at hl 0 rfl) ?_
      refine wx_get C hP (q := 46) (ci := 2) (Nat.le_of_ble_eq_true rfl) (eC_46 _) (Cn := RX2) (T := TX2) (Nf := 1) rfl inX2_eachAlone_X2 0 (by decide) (List.mem_of_getElem? (i := 1) rfl) (v := .ref (ad 47)) rfl dX2_eachAlone_12 ?_
      refine lv_iload_n hx hb dX2_eachAlone_15 rfl (lv_at hl 1 rfl) ?_
      have v16 := h.1
      have h := h.2
      refine wx_ald C hP (q := 47) (Nat.le_of_ble_eq_true rfl) (eC_47 _) 3 rfl rfl v16 (a := ad (48 + (Int32.toNatClampNeg x1))) rfl dX2_eachAlone_16 ?_
      refine lv_iload_n hx hb dX2_eachAlone_17 rfl (lv_at hl 3 rfl) ?_
      refine wx_ild C hP (q := (48 + (Int32.toNatClampNeg x1))) (lt_ro (vp_lt v16)) (eC_ro (vp_lt v16)) 0 rfl h.1 dX2_eachAlone_18 ?_
      have h := h.2
      refine lv_if_ge (tgt := 28) hx hb dX2_eachAlone_19 (by decide) (fun c19 => ?_) (fun c19 => ?_)
      · have h := h.1 c19
        obtain ⟨t28, e_t28⟩ : ∃ y : Int32, y = x3 + 1 := ⟨_, rfl⟩
        have h := h t28 e_t28
        refine lv_iinc (v := t28) (lv' := [(3, .int t28), (0, .ref (ad 46)), (1, .int x1), (2, .int x2)]) hx hb dX2_eachAlone_28 hl (k := 3) rfl (by rw [e_t28]; rfl) (by decide) rfl (fun ls hl => ?_)
        refine lv_goto (tgt := 4) hx hb dX2_eachAlone_31 (by decide) ?_
        exact ih σ x1 x2 t28  h _ _ _ hP hD hS (lv_sub hl [1, 2, 3, 0] rfl)
      · have h := h.2 c19
        refine lv_iload_n hx hb dX2_eachAlone_22 rfl (lv_at hl 2 rfl) ?_
        refine lv_iconst (v := 1) hx hb dX2_eachAlone_23 (by decide) ?_
        refine lv_iload_n hx hb dX2_eachAlone_24 rfl (lv_at hl 3 rfl) ?_
        refine lv_ishl hx hb dX2_eachAlone_25 ?_
        refine lv_ior hx hb dX2_eachAlone_26 ?_
        refine lv_topi (fun t27 e_t27 => ?_)
        have h := h t27 e_t27
        refine lv_istore_n (lv' := [(2, .int t27), (0, .ref (ad 46)), (1, .int x1), (3, .int x3)]) hx hb dX2_eachAlone_27 rfl hl (by decide) rfl (fun ls hl => ?_)
        obtain ⟨t28_1, e_t28_1⟩ : ∃ y : Int32, y = x3 + 1 := ⟨_, rfl⟩
        have h := h t28_1 e_t28_1
        refine lv_iinc (v := t28_1) (lv' := [(3, .int t28_1), (2, .int t27), (0, .ref (ad 46)), (1, .int x1)]) hx hb dX2_eachAlone_28 hl (k := 3) rfl (by rw [e_t28_1]; rfl) (by decide) rfl (fun ls hl => ?_)
        refine lv_goto (tgt := 4) hx hb dX2_eachAlone_31 (by decide) ?_
        exact ih σ x1 t27 t28_1  h _ _ _ hP hD hS (lv_sub hl [2, 3, 1, 0] rfl)
set_option maxRecDepth 100000 in
set_option maxHeartbeats 4000000 in
theorem mtX2_eachAlone {l : Launch} {D : va_G} {cI cB cS cR : ClassId} {ad : Nat → Nat} {tS tP : Nat} {kS vS : Nat → Nat} {sz : Nat} {σ : wx_Z} {x1 : Int32} {K : Int32 → wx_Z → Prop} (h : wpX2_eachAlone σ x1 K) : Met l yX2_eachAlone wsX2_eachAlone rmX2_eachAlone (wx_Pre D [(cI, .int), (cB, .byte), (cS, .object RX5), (cR, .array .int)] (wC_RO tS tP kS vS) 58 (wC_E cI cB cS cR ad) ad σ sz [.ref (ad 46), .int x1]) (va_Qi K (wx_B D [(cI, .int), (cB, .byte), (cS, .object RX5), (cR, .array .int)] 58 (wC_E cI cB cS cR ad) ad (va_A (wx_w 58 (wC_E cI cB cS cR ad) ad σ) sz)) (va_A (wx_w 58 (wC_E cI cB cS cR ad) ad σ) sz)) 0 0 (va_A (wx_w 58 (wC_E cI cB cS cR ad) ad σ) sz) := by
  unfold wpX2_eachAlone at h
  refine wx_meti (cc := cX2_eachAlone) (maxL := 4) (own := RX2) rfl (by decide) rfl (Nat.le_of_ble_eq_true rfl) (wC_ROok tS tP kS vS) ?_
  intro p e s m args below meth c A Q ls C Rt hP hD hS hl
  obtain ⟨⟨hx, hb, hml, hown, hts⟩, hA, hK, hRO, hro⟩ := id C
  have hl : lv_has ls 4 [(0, .ref (ad 46)), (1, .int x1)] := hl
  obtain ⟨H, eH⟩ : ∃ z, z = s.heap := ⟨_, rfl⟩
  obtain ⟨locs, eL⟩ : ∃ z : List Loc, z = [] := ⟨_, rfl⟩
  rw [← eH] at hP
  have hS : va_S A s.heap H locs := by rw [eH, eL]; exact hS
  have goal : W p l e rmX2_eachAlone s m args below meth c H locs 0 0 Q (F0 m 0 ls []) := by
    refine lv_iconst (v := 0) hx hb dX2_eachAlone_0 (by decide) ?_
    refine lv_istore_n (lv' := [(2, .int 0), (0, .ref (ad 46)), (1, .int x1)]) hx hb dX2_eachAlone_1 rfl hl (by decide) rfl (fun ls hl => ?_)
    refine lv_iconst (v := 0) hx hb dX2_eachAlone_2 (by decide) ?_
    refine lv_istore_n (lv' := [(3, .int 0), (2, .int 0), (0, .ref (ad 46)), (1, .int x1)]) hx hb dX2_eachAlone_3 rfl hl (by decide) rfl (fun ls hl => ?_)
    obtain ⟨n4, h⟩ := h
    exact bX2_eachAlone_4 C Rt n4 σ x1 0 0  h _ _ _ hP hD hS (lv_sub hl [2, 3, 1, 0] rfl)
  rw [eH, eL] at goal
  exact goal
abbrev rmX2_putLesser : Room := { frames := 1, cells := 0, slots := 0, locals := 40 }
set_option maxRecDepth 20000 in
theorem inX2_putLesser_X2 : ∀ w ∈ u_ws RX2 TX2 1, w ∈ wsX2_putLesser := by decide +kernel
set_option maxRecDepth 100000 in
set_option maxHeartbeats 4000000 in
theorem bX2_putLesser_79 {p : Program} {l : Launch} {e : Env} {s : State} {m : MethodId} {args : Array Value} {below : List Frame} {meth : Method} {c : Code} {A : Nat → Prop} {Q : State → Prop} {D : va_G} {cI cB cS cR : ClassId} {ad : Nat → Nat} {tS tP : Nat} {kS vS : Nat → Nat} {K : wx_Z → Prop} {C8 : wx_Z → Int32 → Int32 → Int32 → Prop} (C : wx_C p s m args c cX2_putLesser 7 RX2 wsX2_putLesser D [(cI, .int), (cB, .byte), (cS, .object RX5), (cR, .array .int)] (wC_RO tS tP kS vS) A) (Rt : wx_Rv p l e rmX2_putLesser s m args below meth c cX2_putLesser D 58 (wC_E cI cB cS cR ad) ad A K Q) (hC8 : ∀ (σ : wx_Z) (x1 : Int32) (x2 : Int32) (x3 : Int32), C8 σ x1 x2 x3 → ∀ (H : Heap) (locs : List Loc) (ls : Array Slot), va_P D vwCl (wx_w 58 (wC_E cI cB cS cR ad) ad σ) H → va_D A (wx_w 58 (wC_E cI cB cS cR ad) ad σ) → va_S A s.heap H locs → lv_has ls 7 [(0, .ref (ad 46)), (1, .int x1), (2, .int x2), (3, .int x3)] → W p l e rmX2_putLesser s m args below meth c H locs 0 0 Q (F0 m 8 ls [])) : ∀ (σ : wx_Z) (x1 : Int32) (x2 : Int32) (x3 : Int32) (x6 : Int32) (ks0 : Nat) (s1 : Int32) (s2 : Int32) (s3 : Int32) (hks0 : ks0 < 6), wpX2_putLesser_79 K C8 σ x1 x2 x3 x6 ks0 s1 s2 s3 → ∀ (H : Heap) (locs : List Loc) (ls : Array Slot), va_P D vwCl (wx_w 58 (wC_E cI cB cS cR ad) ad σ) H → va_D A (wx_w 58 (wC_E cI cB cS cR ad) ad σ) → va_S A s.heap H locs → lv_has ls 7 [(0, .ref (ad 46)), (1, .int x1), (2, .int x2), (3, .int x3), (6, .int x6)] → W p l e rmX2_putLesser s m args below meth c H locs 0 0 Q (F0 m 79 ls [.int s3, .int s2, .int s1, .ref (ad (48 + ks0))]) := by
  obtain ⟨⟨hx, hb, hml, hown, hts⟩, hA, hK, hRO, hro⟩ := id C
  intro σ x1 x2 x3 x6 ks0 s1 s2 s3 hks0 h H locs ls hP hD hS hl
  unfold wpX2_putLesser_79 at h
  refine lv_icmp_ne (tgt := 87) hx hb dX2_putLesser_79 (by decide) (fun c79 => ?_) (fun c79 => ?_)
  · have h := h.1 c79
    refine lv_iload hx hb dX2_putLesser_87 (lv_at hl 4 rfl) ?_
    refine lv_ineg hx hb dX2_putLesser_89 ?_
    refine wx_ist C hP hD hS (q := (48 + ks0)) (lt_ro hks0) (eC_ro hks0) 0 rfl h.1 dX2_putLesser_90 (fun H locs hP hD hS => ?_)
    generalize e_σ90 : wx_up σ (48 + ks0) (Int32.toNatClampNeg s1) (-x6) = σ90 at hP hD
    have h := h.2 σ90 e_σ90.symm
    obtain ⟨t91, e_t91⟩ : ∃ y : Int32, y = x3 + 1 := ⟨_, rfl⟩
    have h := h t91 e_t91
    refine lv_iinc (v := t91) (lv' := [(3, .int t91), (0, .ref (ad 46)), (1, .int x1), (2, .int x2), (6, .int x6)]) hx hb dX2_putLesser_91 hl (k := 3) rfl (by rw [e_t91]; rfl) (by decide) rfl (fun ls hl => ?_)
    refine lv_goto (tgt := 8) hx hb dX2_putLesser_94 (by decide) ?_
    exact hC8 σ90 x1 x2 t91  h _ _ _ hP hD hS (lv_sub hl [1, 2, 3, 0] rfl)
  · have h := h.2 c79
    refine lv_iload hx hb dX2_putLesser_82 (lv_at hl 4 rfl) ?_
    refine lv_goto (tgt := 90) hx hb dX2_putLesser_84 (by decide) ?_
    refine wx_ist C hP hD hS (q := (48 + ks0)) (lt_ro hks0) (eC_ro hks0) 0 rfl h.1 dX2_putLesser_90 (fun H locs hP hD hS => ?_)
    generalize e_σ90_1 : wx_up σ (48 + ks0) (Int32.toNatClampNeg s1) x6 = σ90_1 at hP hD
    have h := h.2 σ90_1 e_σ90_1.symm
    obtain ⟨t91_1, e_t91_1⟩ : ∃ y : Int32, y = x3 + 1 := ⟨_, rfl⟩
    have h := h t91_1 e_t91_1
    refine lv_iinc (v := t91_1) (lv' := [(3, .int t91_1), (0, .ref (ad 46)), (1, .int x1), (2, .int x2), (6, .int x6)]) hx hb dX2_putLesser_91 hl (k := 3) rfl (by rw [e_t91_1]; rfl) (by decide) rfl (fun ls hl => ?_)
    refine lv_goto (tgt := 8) hx hb dX2_putLesser_94 (by decide) ?_
    exact hC8 σ90_1 x1 x2 t91_1  h _ _ _ hP hD hS (lv_sub hl [1, 2, 3, 0] rfl)
set_option maxRecDepth 100000 in
set_option maxHeartbeats 4000000 in
theorem bX2_putLesser_69 {p : Program} {l : Launch} {e : Env} {s : State} {m : MethodId} {args : Array Value} {below : List Frame} {meth : Method} {c : Code} {A : Nat → Prop} {Q : State → Prop} {D : va_G} {cI cB cS cR : ClassId} {ad : Nat → Nat} {tS tP : Nat} {kS vS : Nat → Nat} {K : wx_Z → Prop} {C8 : wx_Z → Int32 → Int32 → Int32 → Prop} (C : wx_C p s m args c cX2_putLesser 7 RX2 wsX2_putLesser D [(cI, .int), (cB, .byte), (cS, .object RX5), (cR, .array .int)] (wC_RO tS tP kS vS) A) (Rt : wx_Rv p l e rmX2_putLesser s m args below meth c cX2_putLesser D 58 (wC_E cI cB cS cR ad) ad A K Q) (hC8 : ∀ (σ : wx_Z) (x1 : Int32) (x2 : Int32) (x3 : Int32), C8 σ x1 x2 x3 → ∀ (H : Heap) (locs : List Loc) (ls : Array Slot), va_P D vwCl (wx_w 58 (wC_E cI cB cS cR ad) ad σ) H → va_D A (wx_w 58 (wC_E cI cB cS cR ad) ad σ) → va_S A s.heap H locs → lv_has ls 7 [(0, .ref (ad 46)), (1, .int x1), (2, .int x2), (3, .int x3)] → W p l e rmX2_putLesser s m args below meth c H locs 0 0 Q (F0 m 8 ls [])) : ∀ (σ : wx_Z) (x1 : Int32) (x2 : Int32) (x3 : Int32) (x5 : Int32) (x6 : Int32) (ks0 : Nat) (s1 : Int32) (s2 : Int32) (hks0 : ks0 < 6), wpX2_putLesser_69 K C8 σ x1 x2 x3 x5 x6 ks0 s1 s2 → ∀ (H : Heap) (locs : List Loc) (ls : Array Slot), va_P D vwCl (wx_w 58 (wC_E cI cB cS cR ad) ad σ) H → va_D A (wx_w 58 (wC_E cI cB cS cR ad) ad σ) → va_S A s.heap H locs → lv_has ls 7 [(0, .ref (ad 46)), (1, .int x1), (2, .int x2), (3, .int x3), (5, .int x5), (6, .int x6)] → W p l e rmX2_putLesser s m args below meth c H locs 0 0 Q (F0 m 69 ls [.int s2, .int s1, .ref (ad (48 + ks0))]) := by
  obtain ⟨⟨hx, hb, hml, hown, hts⟩, hA, hK, hRO, hro⟩ := id C
  intro σ x1 x2 x3 x5 x6 ks0 s1 s2 hks0 h H locs ls hP hD hS hl
  unfold wpX2_putLesser_69 at h
  refine lv_iload hx hb dX2_putLesser_69 (lv_at hl 4 rfl) ?_
  refine lv_if_ge (tgt := 78) hx hb dX2_putLesser_71 (by decide) (fun c71 => ?_) (fun c71 => ?_)
  · have h := h.1 c71
    refine lv_iconst (v := 0) hx hb dX2_putLesser_78 (by decide) ?_
    exact bX2_putLesser_79 C Rt hC8 σ x1 x2 x3 x6 ks0 s1 s2 0 hks0 h _ _ _ hP hD hS (lv_sub hl [0, 1, 2, 3, 5] rfl)
  · have h := h.2 c71
    refine lv_iconst (v := 1) hx hb dX2_putLesser_74 (by decide) ?_
    refine lv_goto (tgt := 79) hx hb dX2_putLesser_75 (by decide) ?_
    exact bX2_putLesser_79 C Rt hC8 σ x1 x2 x3 x6 ks0 s1 s2 1 hks0 h _ _ _ hP hD hS (lv_sub hl [0, 1, 2, 3, 5] rfl)
set_option maxRecDepth 100000 in
set_option maxHeartbeats 4000000 in
theorem bX2_putLesser_8 {p : Program} {l : Launch} {e : Env} {s : State} {m : MethodId} {args : Array Value} {below : List Frame} {meth : Method} {c : Code} {A : Nat → Prop} {Q : State → Prop} {D : va_G} {cI cB cS cR : ClassId} {ad : Nat → Nat} {tS tP : Nat} {kS vS : Nat → Nat} {K : wx_Z → Prop} (C : wx_C p s m args c cX2_putLesser 7 RX2 wsX2_putLesser D [(cI, .int), (cB, .byte), (cS, .object RX5), (cR, .array .int)] (wC_RO tS tP kS vS) A) (Rt : wx_Rv p l e rmX2_putLesser s m args below meth c cX2_putLesser D 58 (wC_E cI cB cS cR ad) ad A K Q) : ∀ (n : Nat) (σ : wx_Z) (x1 : Int32) (x2 : Int32) (x3 : Int32), wpX2_putLesser_8 K n σ x1 x2 x3 → ∀ (H : Heap) (locs : List Loc) (ls : Array Slot), va_P D vwCl (wx_w 58 (wC_E cI cB cS cR ad) ad σ) H → va_D A (wx_w 58 (wC_E cI cB cS cR ad) ad σ) → va_S A s.heap H locs → lv_has ls 7 [(0, .ref (ad 46)), (1, .int x1), (2, .int x2), (3, .int x3)] → W p l e rmX2_putLesser s m args below meth c H locs 0 0 Q (F0 m 8 ls []) := by
  obtain ⟨⟨hx, hb, hml, hown, hts⟩, hA, hK, hRO, hro⟩ := id C
  intro n
  induction n with
  | zero => intro σ x1 x2 x3 h; exact h.elim
  | succ n ih =>
    intro σ x1 x2 x3 h H locs ls hP hD hS hl
    unfold wpX2_putLesser_8 at h
    refine lv_iload_n hx hb dX2_putLesser_8 rfl (lv_at hl 3 rfl) ?_
    refine lv_iload_n hx hb dX2_putLesser_9 rfl (lv_at hl 2 rfl) ?_
    refine lv_icmp_ge (tgt := 97) hx hb dX2_putLesser_10 (by decide) (fun c10 => ?_) (fun c10 => ?_)
    · have h := h.1 c10
      exact Rt _ _ _ _ _ h hP hD hS dX2_putLesser_97
    · have h := h.2 c10
      refine lv_aload_n hx hb dX2_putLesser_13 rfl (lv_at hl 0 rfl) ?_
      refine wx_get C hP (q := 46) (ci := 2) (Nat.le_of_ble_eq_true rfl) (eC_46 _) (Cn := RX2) (T := TX2) (Nf := 1) rfl inX2_putLesser_X2 0 (by decide) (List.mem_of_getElem? (i := 1) rfl) (v := .ref (ad 47)) rfl dX2_putLesser_14 ?_
      refine lv_iload_n hx hb dX2_putLesser_17 rfl (lv_at hl 1 rfl) ?_
      have v18 := h.1
      have h := h.2
      refine wx_ald C hP (q := 47) (Nat.le_of_ble_eq_true rfl) (eC_47 _) 3 rfl rfl v18 (a := ad (48 + (Int32.toNatClampNeg x1))) rfl dX2_putLesser_18 ?_
      refine lv_iload_n hx hb dX2_putLesser_19 rfl (lv_at hl 3 rfl) ?_
      refine wx_ild C hP (q := (48 + (Int32.toNatClampNeg x1))) (lt_ro (vp_lt v18)) (eC_ro (vp_lt v18)) 0 rfl h.1 dX2_putLesser_20 ?_
      have h := h.2
      refine lv_istore (lv' := [(4, .int (σ (48 + (Int32.toNatClampNeg x1)) (Int32.toNatClampNeg x3))), (0, .ref (ad 46)), (1, .int x1), (2, .int x2), (3, .int x3)]) hx hb dX2_putLesser_21 hl (by decide) rfl (fun ls hl => ?_)
      refine lv_aload_n hx hb dX2_putLesser_23 rfl (lv_at hl 1 rfl) ?_
      refine wx_get C hP (q := 46) (ci := 2) (Nat.le_of_ble_eq_true rfl) (eC_46 _) (Cn := RX2) (T := TX2) (Nf := 1) rfl inX2_putLesser_X2 0 (by decide) (List.mem_of_getElem? (i := 1) rfl) (v := .ref (ad 47)) rfl dX2_putLesser_24 ?_
      refine lv_iload_n hx hb dX2_putLesser_27 rfl (lv_at hl 2 rfl) ?_
      have v28 := h.1
      have h := h.2
      refine wx_ald C hP (q := 47) (Nat.le_of_ble_eq_true rfl) (eC_47 _) 3 rfl rfl v28 (a := ad (48 + (Int32.toNatClampNeg x1))) rfl dX2_putLesser_28 ?_
      refine lv_iload_n hx hb dX2_putLesser_29 rfl (lv_at hl 4 rfl) ?_
      refine lv_iload_n hx hb dX2_putLesser_30 rfl (lv_at hl 3 rfl) ?_
      refine lv_iadd hx hb dX2_putLesser_31 ?_
      refine wx_ild C hP (q := (48 + (Int32.toNatClampNeg x1))) (lt_ro (vp_lt v28)) (eC_ro (vp_lt v28)) 0 rfl h.1 dX2_putLesser_32 ?_
      have h := h.2
      refine lv_topi (fun t33 e_t33 => ?_)
      have h := h t33 e_t33
      refine lv_istore (lv' := [(5, .int t33), (4, .int (σ (48 + (Int32.toNatClampNeg x1)) (Int32.toNatClampNeg x3))), (0, .ref (ad 46)), (1, .int x1), (2, .int x2), (3, .int x3)]) hx hb dX2_putLesser_33 hl (by decide) rfl (fun ls hl => ?_)
      refine lv_iload hx hb dX2_putLesser_35 (lv_at hl 1 rfl) ?_
      refine va_mabs hx hb (hml.trans hl.1.symm) hown (hts (.methodLink RX2 56 Lib.Math.abs.name) (List.mem_of_getElem? (i := 2) rfl)) (hts (.static Lib.Math.abs.name) (List.mem_of_getElem? (i := 3) rfl)) (hts (.initialized "java/lang/Math") (List.mem_of_getElem? (i := 4) rfl)) (hts (.code Lib.Math.abs.name Lib.Math.abs.code 1 (some .int)) (List.mem_of_getElem? (i := 5) rfl)) (Nat.le_of_ble_eq_true rfl) (Nat.le_of_ble_eq_true rfl) (Nat.zero_le _) (Nat.zero_le _) dX2_putLesser_37 ?_
      refine lv_topi (fun t37 e_t37 => ?_)
      have h := h t37 e_t37
      refine lv_iload hx hb dX2_putLesser_40 (lv_at hl 0 rfl) ?_
      refine va_mabs hx hb (hml.trans hl.1.symm) hown (hts (.methodLink RX2 56 Lib.Math.abs.name) (List.mem_of_getElem? (i := 2) rfl)) (hts (.static Lib.Math.abs.name) (List.mem_of_getElem? (i := 3) rfl)) (hts (.initialized "java/lang/Math") (List.mem_of_getElem? (i := 4) rfl)) (hts (.code Lib.Math.abs.name Lib.Math.abs.code 1 (some .int)) (List.mem_of_getElem? (i := 5) rfl)) (Nat.le_of_ble_eq_true rfl) (Nat.le_of_ble_eq_true rfl) (Nat.zero_le _) (Nat.zero_le _) dX2_putLesser_42 ?_
      refine lv_topi (fun t42 e_t42 => ?_)
      have h := h t42 e_t42
      refine va_mmin hx hb (hml.trans hl.1.symm) hown (hts (.methodLink RX2 61 Lib.Math.min.name) (List.mem_of_getElem? (i := 6) rfl)) (hts (.static Lib.Math.min.name) (List.mem_of_getElem? (i := 7) rfl)) (hts (.initialized "java/lang/Math") (List.mem_of_getElem? (i := 4) rfl)) (hts (.code Lib.Math.min.name Lib.Math.min.code 2 (some .int)) (List.mem_of_getElem? (i := 8) rfl)) (Nat.le_of_ble_eq_true rfl) (Nat.le_of_ble_eq_true rfl) (Nat.zero_le _) (Nat.zero_le _) dX2_putLesser_45 ?_
      refine lv_topi (fun t45 e_t45 => ?_)
      have h := h t45 e_t45
      refine lv_istore (lv' := [(6, .int t45), (5, .int t33), (4, .int (σ (48 + (Int32.toNatClampNeg x1)) (Int32.toNatClampNeg x3))), (0, .ref (ad 46)), (1, .int x1), (2, .int x2), (3, .int x3)]) hx hb dX2_putLesser_48 hl (by decide) rfl (fun ls hl => ?_)
      refine lv_aload_n hx hb dX2_putLesser_50 rfl (lv_at hl 3 rfl) ?_
      refine wx_get C hP (q := 46) (ci := 2) (Nat.le_of_ble_eq_true rfl) (eC_46 _) (Cn := RX2) (T := TX2) (Nf := 1) rfl inX2_putLesser_X2 0 (by decide) (List.mem_of_getElem? (i := 1) rfl) (v := .ref (ad 47)) rfl dX2_putLesser_51 ?_
      refine lv_iload_n hx hb dX2_putLesser_54 rfl (lv_at hl 4 rfl) ?_
      refine lv_iconst (v := 1) hx hb dX2_putLesser_55 (by decide) ?_
      refine lv_isub hx hb dX2_putLesser_56 ?_
      have v57 := h.1
      have h := h.2
      refine wx_ald C hP (q := 47) (Nat.le_of_ble_eq_true rfl) (eC_47 _) 3 rfl rfl v57 (a := ad (48 + (Int32.toNatClampNeg (x1 - 1)))) rfl dX2_putLesser_57 ?_
      refine lv_iload_n hx hb dX2_putLesser_58 rfl (lv_at hl 6 rfl) ?_
      refine lv_iload hx hb dX2_putLesser_59 (lv_at hl 2 rfl) ?_
      refine lv_if_ge (tgt := 68) hx hb dX2_putLesser_61 (by decide) (fun c61 => ?_) (fun c61 => ?_)
      · have h := h.1 c61
        refine lv_iconst (v := 0) hx hb dX2_putLesser_68 (by decide) ?_
        exact bX2_putLesser_69 C Rt ih σ x1 x2 x3 t33 t45 (Int32.toNatClampNeg (x1 - 1)) x3 0 (vp_lt v57) h _ _ _ hP hD hS (lv_sub hl [3, 4, 5, 6, 1, 0] rfl)
      · have h := h.2 c61
        refine lv_iconst (v := 1) hx hb dX2_putLesser_64 (by decide) ?_
        refine lv_goto (tgt := 69) hx hb dX2_putLesser_65 (by decide) ?_
        exact bX2_putLesser_69 C Rt ih σ x1 x2 x3 t33 t45 (Int32.toNatClampNeg (x1 - 1)) x3 1 (vp_lt v57) h _ _ _ hP hD hS (lv_sub hl [3, 4, 5, 6, 1, 0] rfl)
set_option maxRecDepth 100000 in
set_option maxHeartbeats 4000000 in
theorem mtX2_putLesser {l : Launch} {D : va_G} {cI cB cS cR : ClassId} {ad : Nat → Nat} {tS tP : Nat} {kS vS : Nat → Nat} {sz : Nat} {σ : wx_Z} {x1 : Int32} {K : wx_Z → Prop} (h : wpX2_putLesser σ x1 K) : Met l yX2_putLesser wsX2_putLesser rmX2_putLesser (wx_Pre D [(cI, .int), (cB, .byte), (cS, .object RX5), (cR, .array .int)] (wC_RO tS tP kS vS) 58 (wC_E cI cB cS cR ad) ad σ sz [.ref (ad 46), .int x1]) (va_Qv K (wx_B D [(cI, .int), (cB, .byte), (cS, .object RX5), (cR, .array .int)] 58 (wC_E cI cB cS cR ad) ad (va_A (wx_w 58 (wC_E cI cB cS cR ad) ad σ) sz)) (va_A (wx_w 58 (wC_E cI cB cS cR ad) ad σ) sz)) 0 0 (va_A (wx_w 58 (wC_E cI cB cS cR ad) ad σ) sz) := by
  unfold wpX2_putLesser at h
  refine wx_metv (cc := cX2_putLesser) (maxL := 7) (own := RX2) rfl (by decide) rfl (Nat.le_of_ble_eq_true rfl) (wC_ROok tS tP kS vS) ?_
  intro p e s m args below meth c A Q ls C Rt hP hD hS hl
  obtain ⟨⟨hx, hb, hml, hown, hts⟩, hA, hK, hRO, hro⟩ := id C
  have hl : lv_has ls 7 [(0, .ref (ad 46)), (1, .int x1)] := hl
  obtain ⟨H, eH⟩ : ∃ z, z = s.heap := ⟨_, rfl⟩
  obtain ⟨locs, eL⟩ : ∃ z : List Loc, z = [] := ⟨_, rfl⟩
  rw [← eH] at hP
  have hS : va_S A s.heap H locs := by rw [eH, eL]; exact hS
  have goal : W p l e rmX2_putLesser s m args below meth c H locs 0 0 Q (F0 m 0 ls []) := by
    refine lv_iconst (v := 1) hx hb dX2_putLesser_0 (by decide) ?_
    refine lv_iload_n hx hb dX2_putLesser_1 rfl (lv_at hl 1 rfl) ?_
    refine lv_iconst (v := 1) hx hb dX2_putLesser_2 (by decide) ?_
    refine lv_isub hx hb dX2_putLesser_3 ?_
    refine lv_ishl hx hb dX2_putLesser_4 ?_
    refine lv_topi (fun t5 e_t5 => ?_)
    have h := h t5 e_t5
    refine lv_istore_n (lv' := [(2, .int t5), (0, .ref (ad 46)), (1, .int x1)]) hx hb dX2_putLesser_5 rfl hl (by decide) rfl (fun ls hl => ?_)
    refine lv_iconst (v := 0) hx hb dX2_putLesser_6 (by decide) ?_
    refine lv_istore_n (lv' := [(3, .int 0), (2, .int t5), (0, .ref (ad 46)), (1, .int x1)]) hx hb dX2_putLesser_7 rfl hl (by decide) rfl (fun ls hl => ?_)
    obtain ⟨n8, h⟩ := h
    exact bX2_putLesser_8 C Rt n8 σ x1 t5 0  h _ _ _ hP hD hS (lv_sub hl [2, 3, 1, 0] rfl)
  rw [eH, eL] at goal
  exact goal
abbrev rmX2_putTogether : Room := { frames := 1, cells := 0, slots := 0, locals := 40 }
set_option maxRecDepth 20000 in
theorem inX2_putTogether_X2 : ∀ w ∈ u_ws RX2 TX2 1, w ∈ wsX2_putTogether := by decide +kernel
set_option maxRecDepth 100000 in
set_option maxHeartbeats 4000000 in
theorem bX2_putTogether_65 {p : Program} {l : Launch} {e : Env} {s : State} {m : MethodId} {args : Array Value} {below : List Frame} {meth : Method} {c : Code} {A : Nat → Prop} {Q : State → Prop} {D : va_G} {cI cB cS cR : ClassId} {ad : Nat → Nat} {tS tP : Nat} {kS vS : Nat → Nat} {K : wx_Z → Prop} {C9 : wx_Z → Int32 → Int32 → Int32 → Int32 → Prop} (C : wx_C p s m args c cX2_putTogether 6 RX2 wsX2_putTogether D [(cI, .int), (cB, .byte), (cS, .object RX5), (cR, .array .int)] (wC_RO tS tP kS vS) A) (Rt : wx_Rv p l e rmX2_putTogether s m args below meth c cX2_putTogether D 58 (wC_E cI cB cS cR ad) ad A K Q) (hC9 : ∀ (σ : wx_Z) (x1 : Int32) (x2 : Int32) (x3 : Int32) (x4 : Int32), C9 σ x1 x2 x3 x4 → ∀ (H : Heap) (locs : List Loc) (ls : Array Slot), va_P D vwCl (wx_w 58 (wC_E cI cB cS cR ad) ad σ) H → va_D A (wx_w 58 (wC_E cI cB cS cR ad) ad σ) → va_S A s.heap H locs → lv_has ls 6 [(0, .ref (ad 46)), (1, .int x1), (2, .int x2), (3, .int x3), (4, .int x4)] → W p l e rmX2_putTogether s m args below meth c H locs 0 0 Q (F0 m 9 ls [])) : ∀ (σ : wx_Z) (x1 : Int32) (x2 : Int32) (x3 : Int32) (x4 : Int32) (ks0 : Nat) (s1 : Int32) (s2 : Int32) (s3 : Int32) (hks0 : ks0 < 6), wpX2_putTogether_65 K C9 σ x1 x2 x3 x4 ks0 s1 s2 s3 → ∀ (H : Heap) (locs : List Loc) (ls : Array Slot), va_P D vwCl (wx_w 58 (wC_E cI cB cS cR ad) ad σ) H → va_D A (wx_w 58 (wC_E cI cB cS cR ad) ad σ) → va_S A s.heap H locs → lv_has ls 6 [(0, .ref (ad 46)), (1, .int x1), (2, .int x2), (3, .int x3), (4, .int x4)] → W p l e rmX2_putTogether s m args below meth c H locs 0 0 Q (F0 m 65 ls [.int s3, .int s2, .int s1, .ref (ad (48 + ks0))]) := by
  obtain ⟨⟨hx, hb, hml, hown, hts⟩, hA, hK, hRO, hro⟩ := id C
  intro σ x1 x2 x3 x4 ks0 s1 s2 s3 hks0 h H locs ls hP hD hS hl
  unfold wpX2_putTogether_65 at h
  refine lv_iadd hx hb dX2_putTogether_65 ?_
  refine wx_ist C hP hD hS (q := (48 + ks0)) (lt_ro hks0) (eC_ro hks0) 0 rfl h.1 dX2_putTogether_66 (fun H locs hP hD hS => ?_)
  generalize e_σ66 : wx_up σ (48 + ks0) (Int32.toNatClampNeg s1) (s2 + s3) = σ66 at hP hD
  have h := h.2 σ66 e_σ66.symm
  obtain ⟨t67, e_t67⟩ : ∃ y : Int32, y = x4 + 1 := ⟨_, rfl⟩
  have h := h t67 e_t67
  refine lv_iinc (v := t67) (lv' := [(4, .int t67), (0, .ref (ad 46)), (1, .int x1), (2, .int x2), (3, .int x3)]) hx hb dX2_putTogether_67 hl (k := 4) rfl (by rw [e_t67]; rfl) (by decide) rfl (fun ls hl => ?_)
  refine lv_goto (tgt := 9) hx hb dX2_putTogether_70 (by decide) ?_
  exact hC9 σ66 x1 x2 x3 t67  h _ _ _ hP hD hS (lv_sub hl [1, 2, 3, 4, 0] rfl)
set_option maxRecDepth 100000 in
set_option maxHeartbeats 4000000 in
theorem bX2_putTogether_9 {p : Program} {l : Launch} {e : Env} {s : State} {m : MethodId} {args : Array Value} {below : List Frame} {meth : Method} {c : Code} {A : Nat → Prop} {Q : State → Prop} {D : va_G} {cI cB cS cR : ClassId} {ad : Nat → Nat} {tS tP : Nat} {kS vS : Nat → Nat} {K : wx_Z → Prop} (C : wx_C p s m args c cX2_putTogether 6 RX2 wsX2_putTogether D [(cI, .int), (cB, .byte), (cS, .object RX5), (cR, .array .int)] (wC_RO tS tP kS vS) A) (Rt : wx_Rv p l e rmX2_putTogether s m args below meth c cX2_putTogether D 58 (wC_E cI cB cS cR ad) ad A K Q) : ∀ (n : Nat) (σ : wx_Z) (x1 : Int32) (x2 : Int32) (x3 : Int32) (x4 : Int32), wpX2_putTogether_9 K n σ x1 x2 x3 x4 → ∀ (H : Heap) (locs : List Loc) (ls : Array Slot), va_P D vwCl (wx_w 58 (wC_E cI cB cS cR ad) ad σ) H → va_D A (wx_w 58 (wC_E cI cB cS cR ad) ad σ) → va_S A s.heap H locs → lv_has ls 6 [(0, .ref (ad 46)), (1, .int x1), (2, .int x2), (3, .int x3), (4, .int x4)] → W p l e rmX2_putTogether s m args below meth c H locs 0 0 Q (F0 m 9 ls []) := by
  obtain ⟨⟨hx, hb, hml, hown, hts⟩, hA, hK, hRO, hro⟩ := id C
  intro n
  induction n with
  | zero => intro σ x1 x2 x3 x4 h; exact h.elim
  | succ n ih =>
    intro σ x1 x2 x3 x4 h H locs ls hP hD hS hl
    unfold wpX2_putTogether_9 at h
    refine lv_iload hx hb dX2_putTogether_9 (lv_at hl 4 rfl) ?_
    refine lv_iload_n hx hb dX2_putTogether_11 rfl (lv_at hl 3 rfl) ?_
    refine lv_icmp_ge (tgt := 73) hx hb dX2_putTogether_12 (by decide) (fun c12 => ?_) (fun c12 => ?_)
    · have h := h.1 c12
      exact Rt _ _ _ _ _ h hP hD hS dX2_putTogether_73
    · have h := h.2 c12
      refine lv_aload_n hx hb dX2_putTogether_15 rfl (lv_at hl 0 rfl) ?_
      refine wx_get C hP (q := 46) (ci := 2) (Nat.le_of_ble_eq_true rfl) (eC_46 _) (Cn := RX2) (T := TX2) (Nf := 1) rfl inX2_putTogether_X2 0 (by decide) (List.mem_of_getElem? (i := 1) rfl) (v := .ref (ad 47)) rfl dX2_putTogether_16 ?_
      refine lv_iload_n hx hb dX2_putTogether_19 rfl (lv_at hl 1 rfl) ?_
      have v20 := h.1
      have h := h.2
      refine wx_ald C hP (q := 47) (Nat.le_of_ble_eq_true rfl) (eC_47 _) 3 rfl rfl v20 (a := ad (48 + (Int32.toNatClampNeg x1))) rfl dX2_putTogether_20 ?_
      refine lv_iload hx hb dX2_putTogether_21 (lv_at hl 4 rfl) ?_
      refine lv_iload_n hx hb dX2_putTogether_23 rfl (lv_at hl 3 rfl) ?_
      refine lv_iadd hx hb dX2_putTogether_24 ?_
      refine wx_ild C hP (q := (48 + (Int32.toNatClampNeg x1))) (lt_ro (vp_lt v20)) (eC_ro (vp_lt v20)) 0 rfl h.1 dX2_putTogether_25 ?_
      have h := h.2
      refine lv_topi (fun t26 e_t26 => ?_)
      have h := h t26 e_t26
      refine lv_istore (lv' := [(5, .int t26), (0, .ref (ad 46)), (1, .int x1), (2, .int x2), (3, .int x3), (4, .int x4)]) hx hb dX2_putTogether_26 hl (by decide) rfl (fun ls hl => ?_)
      refine lv_aload_n hx hb dX2_putTogether_28 rfl (lv_at hl 1 rfl) ?_
      refine wx_get C hP (q := 46) (ci := 2) (Nat.le_of_ble_eq_true rfl) (eC_46 _) (Cn := RX2) (T := TX2) (Nf := 1) rfl inX2_putTogether_X2 0 (by decide) (List.mem_of_getElem? (i := 1) rfl) (v := .ref (ad 47)) rfl dX2_putTogether_29 ?_
      refine lv_iload_n hx hb dX2_putTogether_32 rfl (lv_at hl 2 rfl) ?_
      refine lv_iconst (v := 1) hx hb dX2_putTogether_33 (by decide) ?_
      refine lv_isub hx hb dX2_putTogether_34 ?_
      have v35 := h.1
      have h := h.2
      refine wx_ald C hP (q := 47) (Nat.le_of_ble_eq_true rfl) (eC_47 _) 3 rfl rfl v35 (a := ad (48 + (Int32.toNatClampNeg (x1 - 1)))) rfl dX2_putTogether_35 ?_
      refine lv_iload hx hb dX2_putTogether_36 (lv_at hl 5 rfl) ?_
      refine lv_aload_n hx hb dX2_putTogether_38 rfl (lv_at hl 1 rfl) ?_
      refine wx_get C hP (q := 46) (ci := 2) (Nat.le_of_ble_eq_true rfl) (eC_46 _) (Cn := RX2) (T := TX2) (Nf := 1) rfl inX2_putTogether_X2 0 (by decide) (List.mem_of_getElem? (i := 1) rfl) (v := .ref (ad 47)) rfl dX2_putTogether_39 ?_
      refine lv_iload_n hx hb dX2_putTogether_42 rfl (lv_at hl 2 rfl) ?_
      have v43 := h.1
      have h := h.2
      refine wx_ald C hP (q := 47) (Nat.le_of_ble_eq_true rfl) (eC_47 _) 3 rfl rfl v43 (a := ad (48 + (Int32.toNatClampNeg x1))) rfl dX2_putTogether_43 ?_
      refine lv_iload hx hb dX2_putTogether_44 (lv_at hl 5 rfl) ?_
      refine wx_ild C hP (q := (48 + (Int32.toNatClampNeg x1))) (lt_ro (vp_lt v43)) (eC_ro (vp_lt v43)) 0 rfl h.1 dX2_putTogether_46 ?_
      have h := h.2
      refine lv_iload_n hx hb dX2_putTogether_47 rfl (lv_at hl 3 rfl) ?_
      refine lv_iload hx hb dX2_putTogether_48 (lv_at hl 5 rfl) ?_
      refine lv_iushr (v := wx_us x2 x4) hx hb dX2_putTogether_50 rfl ?_
      refine lv_iconst (v := 1) hx hb dX2_putTogether_51 (by decide) ?_
      refine lv_iand hx hb dX2_putTogether_52 ?_
      refine lv_iconst (v := 1) hx hb dX2_putTogether_53 (by decide) ?_
      refine lv_icmp_ne (tgt := 63) hx hb dX2_putTogether_54 (by decide) (fun c54 => ?_) (fun c54 => ?_)
      · have h := h.1 c54
        refine lv_iload hx hb dX2_putTogether_63 (lv_at hl 0 rfl) ?_
        exact bX2_putTogether_65 C Rt ih σ x1 x2 x3 x4 (Int32.toNatClampNeg (x1 - 1)) x4 (σ (48 + (Int32.toNatClampNeg x1)) (Int32.toNatClampNeg x4)) t26 (vp_lt v35) h _ _ _ hP hD hS (lv_sub hl [1, 2, 3, 4, 5] rfl)
      · have h := h.2 c54
        refine lv_iload hx hb dX2_putTogether_57 (lv_at hl 0 rfl) ?_
        refine lv_ineg hx hb dX2_putTogether_59 ?_
        refine lv_goto (tgt := 65) hx hb dX2_putTogether_60 (by decide) ?_
        exact bX2_putTogether_65 C Rt ih σ x1 x2 x3 x4 (Int32.toNatClampNeg (x1 - 1)) x4 (σ (48 + (Int32.toNatClampNeg x1)) (Int32.toNatClampNeg x4)) (-t26) (vp_lt v35) h _ _ _ hP hD hS (lv_sub hl [1, 2, 3, 4, 5] rfl)
set_option maxRecDepth 100000 in
set_option maxHeartbeats 4000000 in
theorem mtX2_putTogether {l : Launch} {D : va_G} {cI cB cS cR : ClassId} {ad : Nat → Nat} {tS tP : Nat} {kS vS : Nat → Nat} {sz : Nat} {σ : wx_Z} {x1 : Int32} {x2 : Int32} {K : wx_Z → Prop} (h : wpX2_putTogether σ x1 x2 K) : Met l yX2_putTogether wsX2_putTogether rmX2_putTogether (wx_Pre D [(cI, .int), (cB, .byte), (cS, .object RX5), (cR, .array .int)] (wC_RO tS tP kS vS) 58 (wC_E cI cB cS cR ad) ad σ sz [.ref (ad 46), .int x1, .int x2]) (va_Qv K (wx_B D [(cI, .int), (cB, .byte), (cS, .object RX5), (cR, .array .int)] 58 (wC_E cI cB cS cR ad) ad (va_A (wx_w 58 (wC_E cI cB cS cR ad) ad σ) sz)) (va_A (wx_w 58 (wC_E cI cB cS cR ad) ad σ) sz)) 0 0 (va_A (wx_w 58 (wC_E cI cB cS cR ad) ad σ) sz) := by
  unfold wpX2_putTogether at h
  refine wx_metv (cc := cX2_putTogether) (maxL := 6) (own := RX2) rfl (by decide) rfl (Nat.le_of_ble_eq_true rfl) (wC_ROok tS tP kS vS) ?_
  intro p e s m args below meth c A Q ls C Rt hP hD hS hl
  obtain ⟨⟨hx, hb, hml, hown, hts⟩, hA, hK, hRO, hro⟩ := id C
  have hl : lv_has ls 6 [(0, .ref (ad 46)), (1, .int x1), (2, .int x2)] := hl
  obtain ⟨H, eH⟩ : ∃ z, z = s.heap := ⟨_, rfl⟩
  obtain ⟨locs, eL⟩ : ∃ z : List Loc, z = [] := ⟨_, rfl⟩
  rw [← eH] at hP
  have hS : va_S A s.heap H locs := by rw [eH, eL]; exact hS
  have goal : W p l e rmX2_putTogether s m args below meth c H locs 0 0 Q (F0 m 0 ls []) := by
    refine lv_iconst (v := 1) hx hb dX2_putTogether_0 (by decide) ?_
    refine lv_iload_n hx hb dX2_putTogether_1 rfl (lv_at hl 1 rfl) ?_
    refine lv_iconst (v := 1) hx hb dX2_putTogether_2 (by decide) ?_
    refine lv_isub hx hb dX2_putTogether_3 ?_
    refine lv_ishl hx hb dX2_putTogether_4 ?_
    refine lv_topi (fun t5 e_t5 => ?_)
    have h := h t5 e_t5
    refine lv_istore_n (lv' := [(3, .int t5), (0, .ref (ad 46)), (1, .int x1), (2, .int x2)]) hx hb dX2_putTogether_5 rfl hl (by decide) rfl (fun ls hl => ?_)
    refine lv_iconst (v := 0) hx hb dX2_putTogether_6 (by decide) ?_
    refine lv_istore (lv' := [(4, .int 0), (3, .int t5), (0, .ref (ad 46)), (1, .int x1), (2, .int x2)]) hx hb dX2_putTogether_7 hl (by decide) rfl (fun ls hl => ?_)
    obtain ⟨n9, h⟩ := h
    exact bX2_putTogether_9 C Rt n9 σ x1 x2 t5 0  h _ _ _ hP hD hS (lv_sub hl [2, 3, 4, 1, 0] rfl)
  rw [eH, eL] at goal
  exact goal
abbrev rmX2_wordFor (d : Nat) : Room := { frames := 3 + d, cells := 0, slots := 0, locals := 84 + 24 * d }
theorem nyX2_allAlike : yX2_allAlike.cls = RX2 ∧ yX2_allAlike.cls ≠ "java/lang/invoke/MethodHandle" ∧ yX2_allAlike.cls ≠ "java/lang/invoke/VarHandle" ∧ (parseMethodDescriptor yX2_allAlike.desc).map (fun d => d.parameters.length) = some 1 := by decide +kernel
theorem nyX2_eachAlone : yX2_eachAlone.cls = RX2 ∧ yX2_eachAlone.cls ≠ "java/lang/invoke/MethodHandle" ∧ yX2_eachAlone.cls ≠ "java/lang/invoke/VarHandle" ∧ (parseMethodDescriptor yX2_eachAlone.desc).map (fun d => d.parameters.length) = some 1 := by decide +kernel
theorem nyX2_putLesser : yX2_putLesser.cls = RX2 ∧ yX2_putLesser.cls ≠ "java/lang/invoke/MethodHandle" ∧ yX2_putLesser.cls ≠ "java/lang/invoke/VarHandle" ∧ (parseMethodDescriptor yX2_putLesser.desc).map (fun d => d.parameters.length) = some 1 := by decide +kernel
theorem nyX2_putTogether : yX2_putTogether.cls = RX2 ∧ yX2_putTogether.cls ≠ "java/lang/invoke/MethodHandle" ∧ yX2_putTogether.cls ≠ "java/lang/invoke/VarHandle" ∧ (parseMethodDescriptor yX2_putTogether.desc).map (fun d => d.parameters.length) = some 2 := by decide +kernel
theorem nyX2_wordFor : yX2_wordFor.cls = RX2 ∧ yX2_wordFor.cls ≠ "java/lang/invoke/MethodHandle" ∧ yX2_wordFor.cls ≠ "java/lang/invoke/VarHandle" ∧ (parseMethodDescriptor yX2_wordFor.desc).map (fun d => d.parameters.length) = some 2 := by decide +kernel
set_option maxRecDepth 100000 in
set_option maxHeartbeats 4000000 in
theorem mtX2_wordFor {l : Launch} {D : va_G} {cI cB cS cR : ClassId} {ad : Nat → Nat} {tS tP : Nat} {kS vS : Nat → Nat} : ∀ (d : Nat) {sz : Nat} {σ : wx_Z} {x1 : Int32} {x2 : Int32} {K : Int32 → wx_Z → Prop}, wpX2_wordFor d σ x1 x2 K → Met l yX2_wordFor wsX2_wordFor (rmX2_wordFor d) (wx_Pre D [(cI, .int), (cB, .byte), (cS, .object RX5), (cR, .array .int)] (wC_RO tS tP kS vS) 58 (wC_E cI cB cS cR ad) ad σ sz [.ref (ad 46), .int x1, .int x2]) (va_Qi K (wx_B D [(cI, .int), (cB, .byte), (cS, .object RX5), (cR, .array .int)] 58 (wC_E cI cB cS cR ad) ad (va_A (wx_w 58 (wC_E cI cB cS cR ad) ad σ) sz)) (va_A (wx_w 58 (wC_E cI cB cS cR ad) ad σ) sz)) 0 0 (va_A (wx_w 58 (wC_E cI cB cS cR ad) ad σ) sz) := by
  intro d
  induction d with
  | zero => intro sz σ x1 x2 K h; exact h.elim
  | succ d ih =>
    intro sz σ x1 x2 K h
    unfold wpX2_wordFor at h
    refine wx_meti (cc := cX2_wordFor) (maxL := 5) (own := RX2) rfl (by decide) rfl (Nat.le_of_ble_eq_true rfl) (wC_ROok tS tP kS vS) ?_
    intro p e s m args below meth c A Q ls C Rt hP hD hS hl
    obtain ⟨⟨hx, hb, hml, hown, hts⟩, hA, hK, hRO, hro⟩ := id C
    have hl : lv_has ls 5 [(0, .ref (ad 46)), (1, .int x1), (2, .int x2)] := hl
    obtain ⟨H, eH⟩ : ∃ z, z = s.heap := ⟨_, rfl⟩
    obtain ⟨locs, eL⟩ : ∃ z : List Loc, z = [] := ⟨_, rfl⟩
    rw [← eH] at hP
    have hS : va_S A s.heap H locs := by rw [eH, eL]; exact hS
    have goal : W p l e (rmX2_wordFor (d + 1)) s m args below meth c H locs 0 0 Q (F0 m 0 ls []) := by
      refine lv_iload_n hx hb dX2_wordFor_0 rfl (lv_at hl 1 rfl) ?_
      refine lv_if_gt (tgt := 10) hx hb dX2_wordFor_1 (by decide) (fun c1 => ?_) (fun c1 => ?_)
      · have h := h.1 c1
        refine lv_iload_n hx hb dX2_wordFor_10 rfl (lv_at hl 1 rfl) ?_
        refine lv_iload_n hx hb dX2_wordFor_11 rfl (lv_at hl 2 rfl) ?_
        refine lv_icmp_lt (tgt := 21) hx hb dX2_wordFor_12 (by decide) (fun c12 => ?_) (fun c12 => ?_)
        · have h := h.1 c12
          refine lv_aload_n hx hb dX2_wordFor_21 rfl (lv_at hl 0 rfl) ?_
          refine lv_iload_n hx hb dX2_wordFor_22 rfl (lv_at hl 2 rfl) ?_
          refine wx_cv C hD hS (va_runV (As := [.int x2]) (rest := []) C.1 (mtX2_putLesser (l := l) (D := D) (sz := H.size) h) (cwV 1 hts gX2_wordFor_X2_putLesser rfl rfl rfl nyX2_putLesser ⟨by simp only [rmX2_putLesser, rmX2_wordFor]; omega, by simp only [rmX2_putLesser, rmX2_wordFor]; omega⟩) (wx_pv C hP hD hS (q := 46) (ci := 2) (Nat.le_of_ble_eq_true rfl) (eC_46 _) rfl) rfl rfl hl.1 rfl (lv_room (Nat.le_of_ble_eq_true rfl)) dX2_wordFor_23 ⟨Nat.zero_le _, Nat.zero_le _⟩) (fun σ23 H locs h hP hD hS => ?_)
          refine lv_aload_n hx hb dX2_wordFor_26 rfl (lv_at hl 0 rfl) ?_
          refine lv_iload_n hx hb dX2_wordFor_27 rfl (lv_at hl 1 rfl) ?_
          refine lv_iconst (v := 1) hx hb dX2_wordFor_28 (by decide) ?_
          refine lv_isub hx hb dX2_wordFor_29 ?_
          refine lv_iload_n hx hb dX2_wordFor_30 rfl (lv_at hl 2 rfl) ?_
          refine lv_iconst (v := 1) hx hb dX2_wordFor_31 (by decide) ?_
          refine lv_isub hx hb dX2_wordFor_32 ?_
          refine wx_ci C hD hS (va_runV (As := [.int (x1 - 1), .int (x2 - 1)]) (rest := []) C.1 (ih (sz := H.size) h) (cwV 2 hts gX2_wordFor_X2_wordFor rfl rfl rfl nyX2_wordFor ⟨by simp only [rmX2_wordFor, rmX2_wordFor]; omega, by simp only [rmX2_wordFor, rmX2_wordFor]; omega⟩) (wx_pv C hP hD hS (q := 46) (ci := 2) (Nat.le_of_ble_eq_true rfl) (eC_46 _) rfl) rfl rfl hl.1 rfl (lv_room (Nat.le_of_ble_eq_true rfl)) dX2_wordFor_33 ⟨Nat.zero_le _, Nat.zero_le _⟩) (fun r33 σ33 H locs h hP hD hS => ?_)
          refine lv_istore_n (lv' := [(3, .int r33), (0, .ref (ad 46)), (1, .int x1), (2, .int x2)]) hx hb dX2_wordFor_36 rfl hl (by decide) rfl (fun ls hl => ?_)
          refine lv_aload_n hx hb dX2_wordFor_37 rfl (lv_at hl 1 rfl) ?_
          refine lv_iload_n hx hb dX2_wordFor_38 rfl (lv_at hl 3 rfl) ?_
          refine lv_iload_n hx hb dX2_wordFor_39 rfl (lv_at hl 0 rfl) ?_
          refine wx_cv C hD hS (va_runV (As := [.int x2, .int r33]) (rest := []) C.1 (mtX2_putTogether (l := l) (D := D) (sz := H.size) h) (cwV 2 hts gX2_wordFor_X2_putTogether rfl rfl rfl nyX2_putTogether ⟨by simp only [rmX2_putTogether, rmX2_wordFor]; omega, by simp only [rmX2_putTogether, rmX2_wordFor]; omega⟩) (wx_pv C hP hD hS (q := 46) (ci := 2) (Nat.le_of_ble_eq_true rfl) (eC_46 _) rfl) rfl rfl hl.1 rfl (lv_room (Nat.le_of_ble_eq_true rfl)) dX2_wordFor_40 ⟨Nat.zero_le _, Nat.zero_le _⟩) (fun σ40 H locs h hP hD hS => ?_)
          refine lv_aload_n hx hb dX2_wordFor_43 rfl (lv_at hl 1 rfl) ?_
          refine lv_iload_n hx hb dX2_wordFor_44 rfl (lv_at hl 2 rfl) ?_
          refine lv_iload_n hx hb dX2_wordFor_45 rfl (lv_at hl 3 rfl) ?_
          refine lv_iconst (v := 1) hx hb dX2_wordFor_46 (by decide) ?_
          refine lv_isub hx hb dX2_wordFor_47 ?_
          refine wx_ci C hD hS (va_runV (As := [.int x1, .int (x2 - 1)]) (rest := []) C.1 (ih (sz := H.size) h) (cwV 2 hts gX2_wordFor_X2_wordFor rfl rfl rfl nyX2_wordFor ⟨by simp only [rmX2_wordFor, rmX2_wordFor]; omega, by simp only [rmX2_wordFor, rmX2_wordFor]; omega⟩) (wx_pv C hP hD hS (q := 46) (ci := 2) (Nat.le_of_ble_eq_true rfl) (eC_46 _) rfl) rfl rfl hl.1 rfl (lv_room (Nat.le_of_ble_eq_true rfl)) dX2_wordFor_48 ⟨Nat.zero_le _, Nat.zero_le _⟩) (fun r48 σ48 H locs h hP hD hS => ?_)
          refine lv_istore (lv' := [(4, .int r48), (3, .int r33), (0, .ref (ad 46)), (1, .int x1), (2, .int x2)]) hx hb dX2_wordFor_51 hl (by decide) rfl (fun ls hl => ?_)
          refine lv_iload hx hb dX2_wordFor_53 (lv_at hl 0 rfl) ?_
          refine lv_iload hx hb dX2_wordFor_55 (lv_at hl 0 rfl) ?_
          refine lv_iload_n hx hb dX2_wordFor_57 rfl (lv_at hl 1 rfl) ?_
          refine lv_ixor hx hb dX2_wordFor_58 ?_
          refine lv_iconst (v := 1) hx hb dX2_wordFor_59 (by decide) ?_
          refine lv_iload_n hx hb dX2_wordFor_60 rfl (lv_at hl 4 rfl) ?_
          refine lv_iconst (v := 1) hx hb dX2_wordFor_61 (by decide) ?_
          refine lv_isub hx hb dX2_wordFor_62 ?_
          refine lv_ishl hx hb dX2_wordFor_63 ?_
          refine lv_ishl hx hb dX2_wordFor_64 ?_
          refine lv_ior hx hb dX2_wordFor_65 ?_
          exact Rt _ _ _ _ _ _ h hP hD hS dX2_wordFor_66
        · have h := h.2 c12
          refine lv_aload_n hx hb dX2_wordFor_15 rfl (lv_at hl 0 rfl) ?_
          refine lv_iload_n hx hb dX2_wordFor_16 rfl (lv_at hl 2 rfl) ?_
          refine wx_ci C hD hS (va_runV (As := [.int x2]) (rest := []) C.1 (mtX2_eachAlone (l := l) (D := D) (sz := H.size) h) (cwV 1 hts gX2_wordFor_X2_eachAlone rfl rfl rfl nyX2_eachAlone ⟨by simp only [rmX2_eachAlone, rmX2_wordFor]; omega, by simp only [rmX2_eachAlone, rmX2_wordFor]; omega⟩) (wx_pv C hP hD hS (q := 46) (ci := 2) (Nat.le_of_ble_eq_true rfl) (eC_46 _) rfl) rfl rfl hl.1 rfl (lv_room (Nat.le_of_ble_eq_true rfl)) dX2_wordFor_17 ⟨Nat.zero_le _, Nat.zero_le _⟩) (fun r17 σ17 H locs h hP hD hS => ?_)
          exact Rt _ _ _ _ _ _ h hP hD hS dX2_wordFor_20
      · have h := h.2 c1
        refine lv_aload_n hx hb dX2_wordFor_4 rfl (lv_at hl 0 rfl) ?_
        refine lv_iload_n hx hb dX2_wordFor_5 rfl (lv_at hl 2 rfl) ?_
        refine wx_ci C hD hS (va_runV (As := [.int x2]) (rest := []) C.1 (mtX2_allAlike (l := l) (D := D) (sz := H.size) h) (cwV 1 hts gX2_wordFor_X2_allAlike rfl rfl rfl nyX2_allAlike ⟨by simp only [rmX2_allAlike, rmX2_wordFor]; omega, by simp only [rmX2_allAlike, rmX2_wordFor]; omega⟩) (wx_pv C hP hD hS (q := 46) (ci := 2) (Nat.le_of_ble_eq_true rfl) (eC_46 _) rfl) rfl rfl hl.1 rfl (lv_room (Nat.le_of_ble_eq_true rfl)) dX2_wordFor_6 ⟨Nat.zero_le _, Nat.zero_le _⟩) (fun r6 σ6 H locs h hP hD hS => ?_)
        exact Rt _ _ _ _ _ _ h hP hD hS dX2_wordFor_9
    rw [eH, eL] at goal
    exact goal
abbrev rmX2_solve : Room := { frames := 10, cells := 0, slots := 0, locals := 252 }
set_option maxRecDepth 20000 in
theorem inX2_solve_X1 : ∀ w ∈ u_ws RX1 TX1 5, w ∈ wsX2_solve := by decide +kernel
set_option maxRecDepth 20000 in
theorem inX2_solve_X2 : ∀ w ∈ u_ws RX2 TX2 1, w ∈ wsX2_solve := by decide +kernel
set_option maxRecDepth 100000 in
set_option maxHeartbeats 4000000 in
theorem mtX2_solve {l : Launch} {D : va_G} {cI cB cS cR : ClassId} {ad : Nat → Nat} {tS tP : Nat} {kS vS : Nat → Nat} {sz : Nat} {g : Nat} {σ : wx_Z} {K : Int32 → wx_Z → Prop} (hg : g < 10) (h : wpX2_solve g σ K) : Met l yX2_solve wsX2_solve rmX2_solve (wx_Pre D [(cI, .int), (cB, .byte), (cS, .object RX5), (cR, .array .int)] (wC_RO tS tP kS vS) 58 (wC_E cI cB cS cR ad) ad σ sz [.ref (ad 46), .ref (ad (cCo g)), .ref (ad (cSo g))]) (va_Qi K (wx_B D [(cI, .int), (cB, .byte), (cS, .object RX5), (cR, .array .int)] 58 (wC_E cI cB cS cR ad) ad (va_A (wx_w 58 (wC_E cI cB cS cR ad) ad σ) sz)) (va_A (wx_w 58 (wC_E cI cB cS cR ad) ad σ) sz)) 0 0 (va_A (wx_w 58 (wC_E cI cB cS cR ad) ad σ) sz) := by
  unfold wpX2_solve at h
  refine wx_meti (cc := cX2_solve) (maxL := 3) (own := RX2) rfl (by decide) rfl (Nat.le_of_ble_eq_true rfl) (wC_ROok tS tP kS vS) ?_
  intro p e s m args below meth c A Q ls C Rt hP hD hS hl
  obtain ⟨⟨hx, hb, hml, hown, hts⟩, hA, hK, hRO, hro⟩ := id C
  have hl : lv_has ls 3 [(0, .ref (ad 46)), (1, .ref (ad (cCo g))), (2, .ref (ad (cSo g)))] := hl
  obtain ⟨H, eH⟩ : ∃ z, z = s.heap := ⟨_, rfl⟩
  obtain ⟨locs, eL⟩ : ∃ z : List Loc, z = [] := ⟨_, rfl⟩
  rw [← eH] at hP
  have hS : va_S A s.heap H locs := by rw [eH, eL]; exact hS
  have goal : W p l e rmX2_solve s m args below meth c H locs 0 0 Q (F0 m 0 ls []) := by
    refine lv_aload_n hx hb dX2_solve_0 rfl (lv_at hl 2 rfl) ?_
    refine lv_iconst (v := 0) hx hb dX2_solve_1 (by decide) ?_
    refine lv_aload_n hx hb dX2_solve_2 rfl (lv_at hl 0 rfl) ?_
    refine wx_get C hP (q := 46) (ci := 2) (Nat.le_of_ble_eq_true rfl) (eC_46 _) (Cn := RX2) (T := TX2) (Nf := 1) rfl inX2_solve_X2 0 (by decide) (List.mem_of_getElem? (i := 1) rfl) (v := .ref (ad 47)) rfl dX2_solve_3 ?_
    refine lv_aload_n hx hb dX2_solve_6 rfl (lv_at hl 1 rfl) ?_
    refine wx_get C hP (q := (cCo g)) (ci := 1) (lt_co hg) (eC_co hg _) (Cn := RX1) (T := TX1) (Nf := 5) rfl inX2_solve_X1 1 (by decide) (List.mem_of_getElem? (i := 2) rfl) (v := .int (σ (cCo g) 1)) rfl dX2_solve_7 ?_
    have v10 := h.1
    have h := h.2
    refine wx_ald C hP (q := 47) (Nat.le_of_ble_eq_true rfl) (eC_47 _) 3 rfl rfl v10 (a := ad (48 + (Int32.toNatClampNeg (σ (cCo g) 1)))) rfl dX2_solve_10 ?_
    refine lv_iconst (v := 0) hx hb dX2_solve_11 (by decide) ?_
    refine lv_aload_n hx hb dX2_solve_12 rfl (lv_at hl 1 rfl) ?_
    refine wx_get C hP (q := (cCo g)) (ci := 1) (lt_co hg) (eC_co hg _) (Cn := RX1) (T := TX1) (Nf := 5) rfl inX2_solve_X1 2 (by decide) (List.mem_of_getElem? (i := 3) rfl) (v := .int (σ (cCo g) 2)) rfl dX2_solve_13 ?_
    refine wx_cpy C hP hD hS hl.1 (List.mem_of_getElem? (i := 4) rfl) (List.mem_of_getElem? (i := 5) rfl) (List.mem_of_getElem? (i := 6) rfl) (List.mem_of_getElem? (i := 7) rfl) (q0 := (cSo g)) (q1 := (48 + (Int32.toNatClampNeg (σ (cCo g) 1)))) (lt_so hg) (lt_ro (vp_lt v10)) (eC_so hg) (eC_ro (vp_lt v10)) 0 rfl h.1 (Nat.le_of_ble_eq_true rfl) (Nat.le_of_ble_eq_true rfl) dX2_solve_16 (fun H locs hP hD hS => ?_)
    generalize e_σ16 : va_up σ (48 + (Int32.toNatClampNeg (σ (cCo g) 1))) (va_cpy (σ (cSo g)) (σ (48 + (Int32.toNatClampNeg (σ (cCo g) 1)))) (Int32.toNatClampNeg (0 : Int32)) (Int32.toNatClampNeg (0 : Int32)) (Int32.toNatClampNeg (σ (cCo g) 2))) = σ16 at hP hD
    have h := h.2 σ16 e_σ16.symm
    refine lv_aload_n hx hb dX2_solve_19 rfl (lv_at hl 0 rfl) ?_
    refine lv_aload_n hx hb dX2_solve_20 rfl (lv_at hl 1 rfl) ?_
    refine wx_get C hP (q := (cCo g)) (ci := 1) (lt_co hg) (eC_co hg _) (Cn := RX1) (T := TX1) (Nf := 5) rfl inX2_solve_X1 0 (by decide) (List.mem_of_getElem? (i := 8) rfl) (v := .int (σ16 (cCo g) 0)) rfl dX2_solve_21 ?_
    refine lv_aload_n hx hb dX2_solve_24 rfl (lv_at hl 1 rfl) ?_
    refine wx_get C hP (q := (cCo g)) (ci := 1) (lt_co hg) (eC_co hg _) (Cn := RX1) (T := TX1) (Nf := 5) rfl inX2_solve_X1 1 (by decide) (List.mem_of_getElem? (i := 2) rfl) (v := .int (σ16 (cCo g) 1)) rfl dX2_solve_25 ?_
    refine wx_ci C hD hS (va_runV (As := [.int (σ16 (cCo g) 0), .int (σ16 (cCo g) 1)]) (rest := []) C.1 (mtX2_wordFor (l := l) (D := D) (sz := H.size) 6 h) (cwV 2 hts gX2_solve_X2_wordFor rfl rfl rfl nyX2_wordFor ⟨Nat.le_of_ble_eq_true rfl, Nat.le_of_ble_eq_true rfl⟩) (wx_pv C hP hD hS (q := 46) (ci := 2) (Nat.le_of_ble_eq_true rfl) (eC_46 _) rfl) rfl rfl hl.1 rfl (lv_room (Nat.le_of_ble_eq_true rfl)) dX2_solve_28 ⟨Nat.zero_le _, Nat.zero_le _⟩) (fun r28 σ28 H locs h hP hD hS => ?_)
    exact Rt _ _ _ _ _ _ h hP hD hS dX2_solve_31
  rw [eH, eL] at goal
  exact goal
abbrev rmX3_weigh : Room := { frames := 2, cells := 0, slots := 0, locals := 61 }
set_option maxRecDepth 20000 in
theorem inX3_weigh_X3 : ∀ w ∈ u_ws RX3 TX3 1, w ∈ wsX3_weigh := by decide +kernel
theorem nyJ6_numberOfTrailingZeros_0f7a4 : yJ6_numberOfTrailingZeros_0f7a4.cls = RJ6 ∧ yJ6_numberOfTrailingZeros_0f7a4.cls ≠ "java/lang/invoke/MethodHandle" ∧ yJ6_numberOfTrailingZeros_0f7a4.cls ≠ "java/lang/invoke/VarHandle" ∧ (parseMethodDescriptor yJ6_numberOfTrailingZeros_0f7a4.desc).map (fun d => d.parameters.length) = some 1 := by decide +kernel
set_option maxRecDepth 100000 in
set_option maxHeartbeats 4000000 in
theorem bX3_weigh_57 {p : Program} {l : Launch} {e : Env} {s : State} {m : MethodId} {args : Array Value} {below : List Frame} {meth : Method} {c : Code} {A : Nat → Prop} {Q : State → Prop} {D : va_G} {cI cB cS cR : ClassId} {ad : Nat → Nat} {tS tP : Nat} {kS vS : Nat → Nat} {g : Nat} {K : wx_Z → Prop} {C2 : wx_Z → Int32 → Prop} (C : wx_C p s m args c cX3_weigh 6 RX3 wsX3_weigh D [(cI, .int), (cB, .byte), (cS, .object RX5), (cR, .array .int)] (wC_RO tS tP kS vS) A) (Rt : wx_Rv p l e rmX3_weigh s m args below meth c cX3_weigh D 58 (wC_E cI cB cS cR ad) ad A K Q) (hg : g < 10) (hC2 : ∀ (σ : wx_Z) (x2 : Int32), C2 σ x2 → ∀ (H : Heap) (locs : List Loc) (ls : Array Slot), va_P D vwCl (wx_w 58 (wC_E cI cB cS cR ad) ad σ) H → va_D A (wx_w 58 (wC_E cI cB cS cR ad) ad σ) → va_S A s.heap H locs → lv_has ls 6 [(0, .ref (ad 54)), (1, .ref (ad (cSo g))), (2, .int x2)] → W p l e rmX3_weigh s m args below meth c H locs 0 0 Q (F0 m 2 ls [])) : ∀ (n : Nat) (σ : wx_Z) (x2 : Int32) (x3 : Int32) (x4 : Int32), wpX3_weigh_57 g K C2 n σ x2 x3 x4 → ∀ (H : Heap) (locs : List Loc) (ls : Array Slot), va_P D vwCl (wx_w 58 (wC_E cI cB cS cR ad) ad σ) H → va_D A (wx_w 58 (wC_E cI cB cS cR ad) ad σ) → va_S A s.heap H locs → lv_has ls 6 [(0, .ref (ad 54)), (1, .ref (ad (cSo g))), (2, .int x2), (3, .int x3), (4, .int x4)] → W p l e rmX3_weigh s m args below meth c H locs 0 0 Q (F0 m 57 ls []) := by
  obtain ⟨⟨hx, hb, hml, hown, hts⟩, hA, hK, hRO, hro⟩ := id C
  intro n
  induction n with
  | zero => intro σ x2 x3 x4 h; exact h.elim
  | succ n ih =>
    intro σ x2 x3 x4 h H locs ls hP hD hS hl
    unfold wpX3_weigh_57 at h
    refine lv_iload hx hb dX3_weigh_57 (lv_at hl 4 rfl) ?_
    refine lv_sipush (v := 256) hx hb dX3_weigh_59 (by decide) ?_
    refine lv_icmp_ge (tgt := 116) hx hb dX3_weigh_62 (by decide) (fun c62 => ?_) (fun c62 => ?_)
    · have h := h.1 c62
      obtain ⟨t116, e_t116⟩ : ∃ y : Int32, y = x2 + 1 := ⟨_, rfl⟩
      have h := h t116 e_t116
      refine lv_iinc (v := t116) (lv' := [(2, .int t116), (0, .ref (ad 54)), (1, .ref (ad (cSo g))), (3, .int x3), (4, .int x4)]) hx hb dX3_weigh_116 hl (k := 2) rfl (by rw [e_t116]; rfl) (by decide) rfl (fun ls hl => ?_)
      refine lv_goto (tgt := 2) hx hb dX3_weigh_119 (by decide) ?_
      exact hC2 σ t116  h _ _ _ hP hD hS (lv_sub hl [1, 2, 0] rfl)
    · have h := h.2 c62
      refine lv_iload hx hb dX3_weigh_65 (lv_at hl 4 rfl) ?_
      refine wx_ci C hD hS (va_runS (As := [.int x4]) (rest := []) C.1 (mtJ6_numberOfTrailingZeros_0f7a4 (l := l) (D := D) (sz := H.size) h) (va_cwS 1 hts gX3_weigh_J6_numberOfTrailingZeros_0f7a4 rfl rfl rfl nyJ6_numberOfTrailingZeros_0f7a4.2 ⟨Nat.le_of_ble_eq_true rfl, Nat.le_of_ble_eq_true rfl⟩) (wx_ps C hP hD hS) rfl rfl hl.1 rfl (lv_room (Nat.le_of_ble_eq_true rfl)) dX3_weigh_67 ⟨Nat.zero_le _, Nat.zero_le _⟩) (fun r67 σ67 H locs h hP hD hS => ?_)
      refine lv_bipush (v := 7) hx hb dX3_weigh_70 (by decide) ?_
      refine lv_iand hx hb dX3_weigh_72 ?_
      refine lv_topi (fun t73 e_t73 => ?_)
      have h := h t73 e_t73
      refine lv_istore (lv' := [(5, .int t73), (0, .ref (ad 54)), (1, .ref (ad (cSo g))), (2, .int x2), (3, .int x3), (4, .int x4)]) hx hb dX3_weigh_73 hl (by decide) rfl (fun ls hl => ?_)
      refine lv_aload_n hx hb dX3_weigh_75 rfl (lv_at hl 1 rfl) ?_
      refine wx_get C hP (q := 54) (ci := 3) (Nat.le_of_ble_eq_true rfl) (eC_54 _) (Cn := RX3) (T := TX3) (Nf := 1) rfl inX3_weigh_X3 0 (by decide) (List.mem_of_getElem? (i := 1) rfl) (v := .ref (ad 55)) rfl dX3_weigh_76 ?_
      refine lv_iload_n hx hb dX3_weigh_79 rfl (lv_at hl 4 rfl) ?_
      refine lv_iload hx hb dX3_weigh_80 (lv_at hl 5 rfl) ?_
      refine lv_iadd hx hb dX3_weigh_82 ?_
      refine lv_aload_n hx hb dX3_weigh_83 rfl (lv_at hl 1 rfl) ?_
      refine wx_get C hP (q := 54) (ci := 3) (Nat.le_of_ble_eq_true rfl) (eC_54 _) (Cn := RX3) (T := TX3) (Nf := 1) rfl inX3_weigh_X3 0 (by decide) (List.mem_of_getElem? (i := 1) rfl) (v := .ref (ad 55)) rfl dX3_weigh_84 ?_
      refine lv_iload_n hx hb dX3_weigh_87 rfl (lv_at hl 4 rfl) ?_
      refine lv_iload hx hb dX3_weigh_88 (lv_at hl 5 rfl) ?_
      refine lv_iload hx hb dX3_weigh_90 (lv_at hl 5 rfl) ?_
      refine lv_iconst (v := 1) hx hb dX3_weigh_92 (by decide) ?_
      refine lv_isub hx hb dX3_weigh_93 ?_
      refine lv_iand hx hb dX3_weigh_94 ?_
      refine lv_iadd hx hb dX3_weigh_95 ?_
      refine wx_ild C hP (q := 55) (Nat.le_of_ble_eq_true rfl) eC_55 0 rfl h.1 dX3_weigh_96 ?_
      have h := h.2
      refine lv_iconst (v := 2) hx hb dX3_weigh_97 (by decide) ?_
      refine lv_aload_n hx hb dX3_weigh_98 rfl (lv_at hl 2 rfl) ?_
      refine lv_bipush (v := 8) hx hb dX3_weigh_99 (by decide) ?_
      refine lv_iload_n hx hb dX3_weigh_101 rfl (lv_at hl 3 rfl) ?_
      refine lv_imul hx hb dX3_weigh_102 ?_
      refine lv_iload hx hb dX3_weigh_103 (lv_at hl 0 rfl) ?_
      refine lv_iadd hx hb dX3_weigh_105 ?_
      refine wx_ild C hP (q := (cSo g)) (lt_so hg) (eC_so hg) 0 rfl h.1 dX3_weigh_106 ?_
      have h := h.2
      refine lv_imul hx hb dX3_weigh_107 ?_
      refine lv_isub hx hb dX3_weigh_108 ?_
      refine wx_ist C hP hD hS (q := 55) (Nat.le_of_ble_eq_true rfl) eC_55 0 rfl h.1 dX3_weigh_109 (fun H locs hP hD hS => ?_)
      generalize e_σ109 : wx_up σ67 55 (Int32.toNatClampNeg (x3 + x4)) ((σ67 55 (Int32.toNatClampNeg (x3 + (x4 &&& (x4 - 1))))) - (2 * (σ67 (cSo g) (Int32.toNatClampNeg ((8 * x2) + t73))))) = σ109 at hP hD
      have h := h.2 σ109 e_σ109.symm
      obtain ⟨t110, e_t110⟩ : ∃ y : Int32, y = x4 + 1 := ⟨_, rfl⟩
      have h := h t110 e_t110
      refine lv_iinc (v := t110) (lv' := [(4, .int t110), (5, .int t73), (0, .ref (ad 54)), (1, .ref (ad (cSo g))), (2, .int x2), (3, .int x3)]) hx hb dX3_weigh_110 hl (k := 5) rfl (by rw [e_t110]; rfl) (by decide) rfl (fun ls hl => ?_)
      refine lv_goto (tgt := 57) hx hb dX3_weigh_113 (by decide) ?_
      exact ih σ109 x2 x3 t110  h _ _ _ hP hD hS (lv_sub hl [2, 3, 4, 5, 0] rfl)
set_option maxRecDepth 100000 in
set_option maxHeartbeats 4000000 in
theorem bX3_weigh_23 {p : Program} {l : Launch} {e : Env} {s : State} {m : MethodId} {args : Array Value} {below : List Frame} {meth : Method} {c : Code} {A : Nat → Prop} {Q : State → Prop} {D : va_G} {cI cB cS cR : ClassId} {ad : Nat → Nat} {tS tP : Nat} {kS vS : Nat → Nat} {g : Nat} {K : wx_Z → Prop} {C2 : wx_Z → Int32 → Prop} (C : wx_C p s m args c cX3_weigh 6 RX3 wsX3_weigh D [(cI, .int), (cB, .byte), (cS, .object RX5), (cR, .array .int)] (wC_RO tS tP kS vS) A) (Rt : wx_Rv p l e rmX3_weigh s m args below meth c cX3_weigh D 58 (wC_E cI cB cS cR ad) ad A K Q) (hg : g < 10) (hC2 : ∀ (σ : wx_Z) (x2 : Int32), C2 σ x2 → ∀ (H : Heap) (locs : List Loc) (ls : Array Slot), va_P D vwCl (wx_w 58 (wC_E cI cB cS cR ad) ad σ) H → va_D A (wx_w 58 (wC_E cI cB cS cR ad) ad σ) → va_S A s.heap H locs → lv_has ls 6 [(0, .ref (ad 54)), (1, .ref (ad (cSo g))), (2, .int x2)] → W p l e rmX3_weigh s m args below meth c H locs 0 0 Q (F0 m 2 ls [])) : ∀ (n : Nat) (σ : wx_Z) (x2 : Int32) (x3 : Int32) (x4 : Int32), wpX3_weigh_23 g K C2 n σ x2 x3 x4 → ∀ (H : Heap) (locs : List Loc) (ls : Array Slot), va_P D vwCl (wx_w 58 (wC_E cI cB cS cR ad) ad σ) H → va_D A (wx_w 58 (wC_E cI cB cS cR ad) ad σ) → va_S A s.heap H locs → lv_has ls 6 [(0, .ref (ad 54)), (1, .ref (ad (cSo g))), (2, .int x2), (3, .int x3), (4, .int x4)] → W p l e rmX3_weigh s m args below meth c H locs 0 0 Q (F0 m 23 ls []) := by
  obtain ⟨⟨hx, hb, hml, hown, hts⟩, hA, hK, hRO, hro⟩ := id C
  intro n
  induction n with
  | zero => intro σ x2 x3 x4 h; exact h.elim
  | succ n ih =>
    intro σ x2 x3 x4 h H locs ls hP hD hS hl
    unfold wpX3_weigh_23 at h
    refine lv_iload hx hb dX3_weigh_23 (lv_at hl 4 rfl) ?_
    refine lv_bipush (v := 8) hx hb dX3_weigh_25 (by decide) ?_
    refine lv_icmp_ge (tgt := 54) hx hb dX3_weigh_27 (by decide) (fun c27 => ?_) (fun c27 => ?_)
    · have h := h.1 c27
      refine lv_iconst (v := 1) hx hb dX3_weigh_54 (by decide) ?_
      refine lv_istore (lv' := [(4, .int 1), (0, .ref (ad 54)), (1, .ref (ad (cSo g))), (2, .int x2), (3, .int x3)]) hx hb dX3_weigh_55 hl (by decide) rfl (fun ls hl => ?_)
      obtain ⟨n57, h⟩ := h
      exact bX3_weigh_57 C Rt hg hC2 n57 σ x2 x3 1  h _ _ _ hP hD hS (lv_sub hl [1, 2, 3, 4, 0] rfl)
    · have h := h.2 c27
      refine lv_aload_n hx hb dX3_weigh_30 rfl (lv_at hl 0 rfl) ?_
      refine wx_get C hP (q := 54) (ci := 3) (Nat.le_of_ble_eq_true rfl) (eC_54 _) (Cn := RX3) (T := TX3) (Nf := 1) rfl inX3_weigh_X3 0 (by decide) (List.mem_of_getElem? (i := 1) rfl) (v := .ref (ad 55)) rfl dX3_weigh_31 ?_
      refine lv_iload_n hx hb dX3_weigh_34 rfl (lv_at hl 3 rfl) ?_
      refine lv_dup2_11 hx hb dX3_weigh_35 rfl rfl ?_
      refine wx_ild C hP (q := 55) (Nat.le_of_ble_eq_true rfl) eC_55 0 rfl h.1 dX3_weigh_36 ?_
      have h := h.2
      refine lv_aload_n hx hb dX3_weigh_37 rfl (lv_at hl 1 rfl) ?_
      refine lv_bipush (v := 8) hx hb dX3_weigh_38 (by decide) ?_
      refine lv_iload_n hx hb dX3_weigh_40 rfl (lv_at hl 2 rfl) ?_
      refine lv_imul hx hb dX3_weigh_41 ?_
      refine lv_iload hx hb dX3_weigh_42 (lv_at hl 4 rfl) ?_
      refine lv_iadd hx hb dX3_weigh_44 ?_
      refine wx_ild C hP (q := (cSo g)) (lt_so hg) (eC_so hg) 0 rfl h.1 dX3_weigh_45 ?_
      have h := h.2
      refine lv_iadd hx hb dX3_weigh_46 ?_
      refine wx_ist C hP hD hS (q := 55) (Nat.le_of_ble_eq_true rfl) eC_55 0 rfl h.1 dX3_weigh_47 (fun H locs hP hD hS => ?_)
      generalize e_σ47 : wx_up σ 55 (Int32.toNatClampNeg x3) ((σ 55 (Int32.toNatClampNeg x3)) + (σ (cSo g) (Int32.toNatClampNeg ((8 * x2) + x4)))) = σ47 at hP hD
      have h := h.2 σ47 e_σ47.symm
      obtain ⟨t48, e_t48⟩ : ∃ y : Int32, y = x4 + 1 := ⟨_, rfl⟩
      have h := h t48 e_t48
      refine lv_iinc (v := t48) (lv' := [(4, .int t48), (0, .ref (ad 54)), (1, .ref (ad (cSo g))), (2, .int x2), (3, .int x3)]) hx hb dX3_weigh_48 hl (k := 4) rfl (by rw [e_t48]; rfl) (by decide) rfl (fun ls hl => ?_)
      refine lv_goto (tgt := 23) hx hb dX3_weigh_51 (by decide) ?_
      exact ih σ47 x2 x3 t48  h _ _ _ hP hD hS (lv_sub hl [1, 2, 3, 4, 0] rfl)
set_option maxRecDepth 100000 in
set_option maxHeartbeats 4000000 in
theorem bX3_weigh_2 {p : Program} {l : Launch} {e : Env} {s : State} {m : MethodId} {args : Array Value} {below : List Frame} {meth : Method} {c : Code} {A : Nat → Prop} {Q : State → Prop} {D : va_G} {cI cB cS cR : ClassId} {ad : Nat → Nat} {tS tP : Nat} {kS vS : Nat → Nat} {g : Nat} {K : wx_Z → Prop} (C : wx_C p s m args c cX3_weigh 6 RX3 wsX3_weigh D [(cI, .int), (cB, .byte), (cS, .object RX5), (cR, .array .int)] (wC_RO tS tP kS vS) A) (Rt : wx_Rv p l e rmX3_weigh s m args below meth c cX3_weigh D 58 (wC_E cI cB cS cR ad) ad A K Q) (hg : g < 10) : ∀ (n : Nat) (σ : wx_Z) (x2 : Int32), wpX3_weigh_2 g K n σ x2 → ∀ (H : Heap) (locs : List Loc) (ls : Array Slot), va_P D vwCl (wx_w 58 (wC_E cI cB cS cR ad) ad σ) H → va_D A (wx_w 58 (wC_E cI cB cS cR ad) ad σ) → va_S A s.heap H locs → lv_has ls 6 [(0, .ref (ad 54)), (1, .ref (ad (cSo g))), (2, .int x2)] → W p l e rmX3_weigh s m args below meth c H locs 0 0 Q (F0 m 2 ls []) := by
  obtain ⟨⟨hx, hb, hml, hown, hts⟩, hA, hK, hRO, hro⟩ := id C
  intro n
  induction n with
  | zero => intro σ x2 h; exact h.elim
  | succ n ih =>
    intro σ x2 h H locs ls hP hD hS hl
    unfold wpX3_weigh_2 at h
    refine lv_iload_n hx hb dX3_weigh_2 rfl (lv_at hl 2 rfl) ?_
    refine lv_iconst (v := 4) hx hb dX3_weigh_3 (by decide) ?_
    refine lv_icmp_ge (tgt := 122) hx hb dX3_weigh_4 (by decide) (fun c4 => ?_) (fun c4 => ?_)
    · have h := h.1 c4
      exact Rt _ _ _ _ _ h hP hD hS dX3_weigh_122
    · have h := h.2 c4
      refine lv_iload_n hx hb dX3_weigh_7 rfl (lv_at hl 2 rfl) ?_
      refine lv_sipush (v := 256) hx hb dX3_weigh_8 (by decide) ?_
      refine lv_imul hx hb dX3_weigh_11 ?_
      refine lv_topi (fun t12 e_t12 => ?_)
      have h := h t12 e_t12
      refine lv_istore_n (lv' := [(3, .int t12), (0, .ref (ad 54)), (1, .ref (ad (cSo g))), (2, .int x2)]) hx hb dX3_weigh_12 rfl hl (by decide) rfl (fun ls hl => ?_)
      refine lv_aload_n hx hb dX3_weigh_13 rfl (lv_at hl 1 rfl) ?_
      refine wx_get C hP (q := 54) (ci := 3) (Nat.le_of_ble_eq_true rfl) (eC_54 _) (Cn := RX3) (T := TX3) (Nf := 1) rfl inX3_weigh_X3 0 (by decide) (List.mem_of_getElem? (i := 1) rfl) (v := .ref (ad 55)) rfl dX3_weigh_14 ?_
      refine lv_iload_n hx hb dX3_weigh_17 rfl (lv_at hl 0 rfl) ?_
      refine lv_iconst (v := 0) hx hb dX3_weigh_18 (by decide) ?_
      refine wx_ist C hP hD hS (q := 55) (Nat.le_of_ble_eq_true rfl) eC_55 0 rfl h.1 dX3_weigh_19 (fun H locs hP hD hS => ?_)
      generalize e_σ19 : wx_up σ 55 (Int32.toNatClampNeg t12) 0 = σ19 at hP hD
      have h := h.2 σ19 e_σ19.symm
      refine lv_iconst (v := 0) hx hb dX3_weigh_20 (by decide) ?_
      refine lv_istore (lv' := [(4, .int 0), (3, .int t12), (0, .ref (ad 54)), (1, .ref (ad (cSo g))), (2, .int x2)]) hx hb dX3_weigh_21 hl (by decide) rfl (fun ls hl => ?_)
      obtain ⟨n23, h⟩ := h
      exact bX3_weigh_23 C Rt hg ih n23 σ19 x2 t12 0  h _ _ _ hP hD hS (lv_sub hl [2, 3, 4, 1, 0] rfl)
set_option maxRecDepth 100000 in
set_option maxHeartbeats 4000000 in
theorem mtX3_weigh {l : Launch} {D : va_G} {cI cB cS cR : ClassId} {ad : Nat → Nat} {tS tP : Nat} {kS vS : Nat → Nat} {sz : Nat} {g : Nat} {σ : wx_Z} {K : wx_Z → Prop} (hg : g < 10) (h : wpX3_weigh g σ K) : Met l yX3_weigh wsX3_weigh rmX3_weigh (wx_Pre D [(cI, .int), (cB, .byte), (cS, .object RX5), (cR, .array .int)] (wC_RO tS tP kS vS) 58 (wC_E cI cB cS cR ad) ad σ sz [.ref (ad 54), .ref (ad (cSo g))]) (va_Qv K (wx_B D [(cI, .int), (cB, .byte), (cS, .object RX5), (cR, .array .int)] 58 (wC_E cI cB cS cR ad) ad (va_A (wx_w 58 (wC_E cI cB cS cR ad) ad σ) sz)) (va_A (wx_w 58 (wC_E cI cB cS cR ad) ad σ) sz)) 0 0 (va_A (wx_w 58 (wC_E cI cB cS cR ad) ad σ) sz) := by
  unfold wpX3_weigh at h
  refine wx_metv (cc := cX3_weigh) (maxL := 6) (own := RX3) rfl (by decide) rfl (Nat.le_of_ble_eq_true rfl) (wC_ROok tS tP kS vS) ?_
  intro p e s m args below meth c A Q ls C Rt hP hD hS hl
  obtain ⟨⟨hx, hb, hml, hown, hts⟩, hA, hK, hRO, hro⟩ := id C
  have hl : lv_has ls 6 [(0, .ref (ad 54)), (1, .ref (ad (cSo g)))] := hl
  obtain ⟨H, eH⟩ : ∃ z, z = s.heap := ⟨_, rfl⟩
  obtain ⟨locs, eL⟩ : ∃ z : List Loc, z = [] := ⟨_, rfl⟩
  rw [← eH] at hP
  have hS : va_S A s.heap H locs := by rw [eH, eL]; exact hS
  have goal : W p l e rmX3_weigh s m args below meth c H locs 0 0 Q (F0 m 0 ls []) := by
    refine lv_iconst (v := 0) hx hb dX3_weigh_0 (by decide) ?_
    refine lv_istore_n (lv' := [(2, .int 0), (0, .ref (ad 54)), (1, .ref (ad (cSo g)))]) hx hb dX3_weigh_1 rfl hl (by decide) rfl (fun ls hl => ?_)
    obtain ⟨n2, h⟩ := h
    exact bX3_weigh_2 C Rt hg n2 σ 0  h _ _ _ hP hD hS (lv_sub hl [1, 2, 0] rfl)
  rw [eH, eL] at goal
  exact goal
abbrev rmX3_sumFor : Room := { frames := 1, cells := 0, slots := 0, locals := 40 }
set_option maxRecDepth 20000 in
theorem inX3_sumFor_X3 : ∀ w ∈ u_ws RX3 TX3 1, w ∈ wsX3_sumFor := by decide +kernel
set_option maxRecDepth 100000 in
set_option maxHeartbeats 4000000 in
theorem mtX3_sumFor {l : Launch} {D : va_G} {cI cB cS cR : ClassId} {ad : Nat → Nat} {tS tP : Nat} {kS vS : Nat → Nat} {sz : Nat} {σ : wx_Z} {x1 : Int32} {K : Int32 → wx_Z → Prop} (h : wpX3_sumFor σ x1 K) : Met l yX3_sumFor wsX3_sumFor rmX3_sumFor (wx_Pre D [(cI, .int), (cB, .byte), (cS, .object RX5), (cR, .array .int)] (wC_RO tS tP kS vS) 58 (wC_E cI cB cS cR ad) ad σ sz [.ref (ad 54), .int x1]) (va_Qi K (wx_B D [(cI, .int), (cB, .byte), (cS, .object RX5), (cR, .array .int)] 58 (wC_E cI cB cS cR ad) ad (va_A (wx_w 58 (wC_E cI cB cS cR ad) ad σ) sz)) (va_A (wx_w 58 (wC_E cI cB cS cR ad) ad σ) sz)) 0 0 (va_A (wx_w 58 (wC_E cI cB cS cR ad) ad σ) sz) := by
  unfold wpX3_sumFor at h
  refine wx_meti (cc := cX3_sumFor) (maxL := 2) (own := RX3) rfl (by decide) rfl (Nat.le_of_ble_eq_true rfl) (wC_ROok tS tP kS vS) ?_
  intro p e s m args below meth c A Q ls C Rt hP hD hS hl
  obtain ⟨⟨hx, hb, hml, hown, hts⟩, hA, hK, hRO, hro⟩ := id C
  have hl : lv_has ls 2 [(0, .ref (ad 54)), (1, .int x1)] := hl
  obtain ⟨H, eH⟩ : ∃ z, z = s.heap := ⟨_, rfl⟩
  obtain ⟨locs, eL⟩ : ∃ z : List Loc, z = [] := ⟨_, rfl⟩
  rw [← eH] at hP
  have hS : va_S A s.heap H locs := by rw [eH, eL]; exact hS
  have goal : W p l e rmX3_sumFor s m args below meth c H locs 0 0 Q (F0 m 0 ls []) := by
    refine lv_aload_n hx hb dX3_sumFor_0 rfl (lv_at hl 0 rfl) ?_
    refine wx_get C hP (q := 54) (ci := 3) (Nat.le_of_ble_eq_true rfl) (eC_54 _) (Cn := RX3) (T := TX3) (Nf := 1) rfl inX3_sumFor_X3 0 (by decide) (List.mem_of_getElem? (i := 1) rfl) (v := .ref (ad 55)) rfl dX3_sumFor_1 ?_
    refine lv_iload_n hx hb dX3_sumFor_4 rfl (lv_at hl 1 rfl) ?_
    refine lv_sipush (v := 255) hx hb dX3_sumFor_5 (by decide) ?_
    refine lv_iand hx hb dX3_sumFor_8 ?_
    refine wx_ild C hP (q := 55) (Nat.le_of_ble_eq_true rfl) eC_55 0 rfl h.1 dX3_sumFor_9 ?_
    have h := h.2
    refine lv_aload_n hx hb dX3_sumFor_10 rfl (lv_at hl 0 rfl) ?_
    refine wx_get C hP (q := 54) (ci := 3) (Nat.le_of_ble_eq_true rfl) (eC_54 _) (Cn := RX3) (T := TX3) (Nf := 1) rfl inX3_sumFor_X3 0 (by decide) (List.mem_of_getElem? (i := 1) rfl) (v := .ref (ad 55)) rfl dX3_sumFor_11 ?_
    refine lv_sipush (v := 256) hx hb dX3_sumFor_14 (by decide) ?_
    refine lv_iload_n hx hb dX3_sumFor_17 rfl (lv_at hl 1 rfl) ?_
    refine lv_bipush (v := 8) hx hb dX3_sumFor_18 (by decide) ?_
    refine lv_iushr (v := wx_us x1 8) hx hb dX3_sumFor_20 rfl ?_
    refine lv_sipush (v := 255) hx hb dX3_sumFor_21 (by decide) ?_
    refine lv_iand hx hb dX3_sumFor_24 ?_
    refine lv_iadd hx hb dX3_sumFor_25 ?_
    refine wx_ild C hP (q := 55) (Nat.le_of_ble_eq_true rfl) eC_55 0 rfl h.1 dX3_sumFor_26 ?_
    have h := h.2
    refine lv_iadd hx hb dX3_sumFor_27 ?_
    refine lv_aload_n hx hb dX3_sumFor_28 rfl (lv_at hl 0 rfl) ?_
    refine wx_get C hP (q := 54) (ci := 3) (Nat.le_of_ble_eq_true rfl) (eC_54 _) (Cn := RX3) (T := TX3) (Nf := 1) rfl inX3_sumFor_X3 0 (by decide) (List.mem_of_getElem? (i := 1) rfl) (v := .ref (ad 55)) rfl dX3_sumFor_29 ?_
    refine lv_sipush (v := 512) hx hb dX3_sumFor_32 (by decide) ?_
    refine lv_iload_n hx hb dX3_sumFor_35 rfl (lv_at hl 1 rfl) ?_
    refine lv_bipush (v := 16) hx hb dX3_sumFor_36 (by decide) ?_
    refine lv_iushr (v := wx_us x1 16) hx hb dX3_sumFor_38 rfl ?_
    refine lv_sipush (v := 255) hx hb dX3_sumFor_39 (by decide) ?_
    refine lv_iand hx hb dX3_sumFor_42 ?_
    refine lv_iadd hx hb dX3_sumFor_43 ?_
    refine wx_ild C hP (q := 55) (Nat.le_of_ble_eq_true rfl) eC_55 0 rfl h.1 dX3_sumFor_44 ?_
    have h := h.2
    refine lv_iadd hx hb dX3_sumFor_45 ?_
    refine lv_aload_n hx hb dX3_sumFor_46 rfl (lv_at hl 0 rfl) ?_
    refine wx_get C hP (q := 54) (ci := 3) (Nat.le_of_ble_eq_true rfl) (eC_54 _) (Cn := RX3) (T := TX3) (Nf := 1) rfl inX3_sumFor_X3 0 (by decide) (List.mem_of_getElem? (i := 1) rfl) (v := .ref (ad 55)) rfl dX3_sumFor_47 ?_
    refine lv_sipush (v := 768) hx hb dX3_sumFor_50 (by decide) ?_
    refine lv_iload_n hx hb dX3_sumFor_53 rfl (lv_at hl 1 rfl) ?_
    refine lv_bipush (v := 24) hx hb dX3_sumFor_54 (by decide) ?_
    refine lv_iushr (v := wx_us x1 24) hx hb dX3_sumFor_56 rfl ?_
    refine lv_iadd hx hb dX3_sumFor_57 ?_
    refine wx_ild C hP (q := 55) (Nat.le_of_ble_eq_true rfl) eC_55 0 rfl h.1 dX3_sumFor_58 ?_
    have h := h.2
    refine lv_iadd hx hb dX3_sumFor_59 ?_
    exact Rt _ _ _ _ _ _ h hP hD hS dX3_sumFor_60
  rw [eH, eL] at goal
  exact goal

/-! ===== PlusCodes() ===== -/
def hW (h0 : Nat) (u : ClassId × Nat × (Nat → Nat)) (cI : ClassId) : va_W := (h0, .inr (2, [.ref u.2.1])) :: (u.2.1, .inl (u.1, 6, .inr (.inr (.inr (.inr (fun i => some (u.2.2 i))))))) :: (List.range 6).map (fun i => (u.2.2 i, .inl (cI, 32, .inl (fun _ => 0))))
def wI_N (U : State) : Prop := va_Nw (.methodLinkNest RX8 9 yX5_init RX8) U ∧ va_Nw (.methodLinkNest RX5 11 yX1_init RX8) U ∧ va_Nw (.methodLinkNest RX4 17 yX5_init RX8) U ∧ va_Nw (.methodLinkNest RX8 28 yX6_init RX8) U ∧ va_Nw (.methodLinkNest RX8 35 yX0_init RX8) U ∧ va_Nw (.methodLinkNest RX8 42 yX2_init RX8) U ∧ va_Nw (.methodLinkNest RX8 49 yX3_init RX8) U ∧ va_Nw (.methodLinkNest RX8 56 yX7_init RX8) U ∧ va_AO RX5 U
theorem wI_Nwarm {s U : State} (hW : s.WarmedH U.vm) (h : wI_N s) : wI_N U := by
  obtain ⟨h1, h2, h3, h4, h5, h6, h7, h8, h9⟩ := h
  exact ⟨h1.warmM hW, h2.warmM hW, h3.warmM hW, h4.warmM hW, h5.warmM hW, h6.warmM hW, h7.warmM hW, h8.warmM hW, h9.moved hW.alike⟩
theorem wI_Ncall {U : State} {g : JFrame} {mk : MethodId} {a : Array Value} (h : wI_N U) : wI_N (U.calling g mk a) := by
  obtain ⟨h1, h2, h3, h4, h5, h6, h7, h8, h9⟩ := h
  exact ⟨va_Nw.same rfl rfl h1, va_Nw.same rfl rfl h2, va_Nw.same rfl rfl h3, va_Nw.same rfl rfl h4, va_Nw.same rfl rfl h5, va_Nw.same rfl rfl h6, va_Nw.same rfl rfl h7, va_Nw.same rfl rfl h8, va_AO.moved (u := U) (Vm.Alike.refl U.vm) h9⟩
/-- what the constructor reads: all that is only read, what nest mates may call, AOA -/
def wI_RO (tS tP : Nat) (kS vS : Nat → Nat) (AO : State → Prop) (A : Nat → Prop) (U : State) (H : Heap) : Prop := wC_RO tS tP kS vS A U H ∧ wI_N U ∧ AO U
theorem wI_ROok {tS tP : Nat} {kS vS : Nat → Nat} {AO : State → Prop} (hAO : (∀ s U : State, s.vm.Alike U.vm → AO s → AO U)) : wx_RoT (wI_RO tS tP kS vS AO) := by
  have h := wC_ROok tS tP kS vS
  refine ⟨fun A A' s U H locs hr hS hAA hU hW => ⟨h.1 A A' s U H locs hr.1 hS hAA hU hW, wI_Nwarm hW hr.2.1, hAO s U hW.alike hr.2.2⟩, fun A U g mk a hr => ⟨h.2 A U g mk a hr.1, wI_Ncall hr.2.1, hAO U _ (Vm.Alike.refl U.vm) hr.2.2⟩⟩
def sZ : wx_Z := fun c k => if c = 43 then (if k = 3 then -1 else 0) else 0
def tW (h0 q : Nat) (cB : ClassId) : va_W := [(h0, .inr (6, [.ref q, .int 0, .int 0, .int (-1)])), (q, .inl (cB, 120, .inl (fun _ => 0)))]
def nW (h0 q : Nat) (cI : ClassId) : va_W := [(h0, .inr (3, [.ref q])), (q, .inl (cI, 1024, .inl (fun _ => 0)))]
def kW (h0 q : Nat) (cI : ClassId) : va_W := [(h0, .inr (7, [.ref q, .int 0, .int 0, .int 0, .int 0, .int 0])), (q, .inl (cI, 16, .inl (fun _ => 0)))]
def bW (h0 : Nat) : va_W := [(h0, .inr (0, [.int 0, .int 0, .int 0, .int 0, .int 0]))]
theorem at_ring {D : va_G} {cl : List vw_C} {W0 : va_W} {H : Heap} {k q n : Nat} {cA : ClassId} {f g : Nat → Option Nat} (hP : va_P D cl W0 H) (hk : W0[k]? = some (q, .inl (cA, n, .inr (.inr (.inr (.inr f)))))) (h : ∀ j, j < n → f j = g j) : va_at D cl (q, .inl (cA, n, .inr (.inr (.inr (.inr g))))) H := by
  have h2 : H[q]? = some (vp_cell cA (n, .inr (.inr (.inr (.inr f))))) := hP k _ hk
  show H[q]? = some (vp_cell cA (n, .inr (.inr (.inr (.inr g)))))
  rw [h2]
  refine congrArg some ?_
  rw [vp_cell_q, vp_cell_q]
  exact arrV_cong (fun j hj => by rw [h j hj])
theorem pl_inj : ∀ i, i < 58 → ∀ j, j < 58 → ([0, 1, 4, 2, 3, 5, 8, 6, 7, 11, 14, 12, 13, 15, 18, 16, 17, 19, 22, 20, 21, 23, 26, 24, 25, 27, 30, 28, 29, 31, 34, 32, 33, 35, 38, 36, 37, 39, 42, 40, 41, 9, 10, 43, 44, 45, 46, 47, 48, 49, 50, 51, 52, 53, 54, 55, 56, 57] : List Nat).getD i 0 = ([0, 1, 4, 2, 3, 5, 8, 6, 7, 11, 14, 12, 13, 15, 18, 16, 17, 19, 22, 20, 21, 23, 26, 24, 25, 27, 30, 28, 29, 31, 34, 32, 33, 35, 38, 36, 37, 39, 42, 40, 41, 9, 10, 43, 44, 45, 46, 47, 48, 49, 50, 51, 52, 53, 54, 55, 56, 57] : List Nat).getD j 0 → i = j := by decide +kernel
theorem ct_start {p : Program} {l : Launch} {e : Env} {R : Room} {s : State} {m : MethodId} {args : Array Value} {below : List Frame} {meth : Method} {c : Code} {H : Heap} {locs : List Loc} {Q : State → Prop} {cells slots pc : Nat} {D : va_G} {tys : List (ClassId × FieldType)} {A : Nat → Prop} {N : Nat} {E : Nat → (Nat → Int32) → va_E} {ad : Nat → Nat} {σ : wx_Z} {ls : Array Slot} {rest : List Value} (hA : ∀ q : Nat, s.heap.size ≤ q → A q) (hD : va_D A (wx_w N E ad σ)) (hS : va_S A s.heap H locs) {K' : wx_Z → Prop} {a : Array Value} {st0 : List Value} (hr : va_Run p l e R s m args below meth c H locs cells slots 0 0 (F0 m pc ls st0) rest (va_Qv K' (wx_B D tys N E ad (va_A (wx_w N E ad σ) H.size)) (va_A (wx_w N E ad σ) H.size) a) (va_A (wx_w N E ad σ) H.size))
    (kk : ∀ (σ' : wx_Z) (H1 : Heap) (locs1 : List Loc), K' σ' → va_P D vwCl (wx_w N E ad σ') H1 → va_D A (wx_w N E ad σ') → va_S A s.heap H1 locs1 → W p l e R s m args below meth c H1 locs1 (cells + 0) (slots + 0) Q (F0 m (pc + 3) ls rest)) : W p l e R s m args below meth c H locs cells slots Q (F0 m pc ls st0) := by
  have hF := wx_free hD hS hA
  refine va_callv hr hS (fun q _ h => hF q h) hF (fun u t H1 locs1 ht hvm hw hB hz1 hk1 hS1 => ?_)
  obtain ⟨hP1, hK1, hD1⟩ := hB
  rw [ht] at hP1
  exact kk u H1 locs1 hw hP1 (hD1.weaken (fun _ q _ h => hF q.1 h)) hS1
set_option maxHeartbeats 8000000 in
set_option maxRecDepth 100000 in
theorem ctX8 (l : Launch) (D : va_G) (cI cB : ClassId) (tS tP : Nat) (kS vS : Nat → Nat) (AO : State → Prop) (hAO : ∀ s U : State, s.vm.Alike U.vm → AO s → AO U) (hX2 : ∀ (h0 sz : Nat), Met l yX2_init wsX2_init ({ frames := 1, cells := 7, slots := 198, locals := 12 }) (ct_Pre D [(cI, .int), (cB, .byte)] (wI_RO tS tP kS vS AO) [(h0, .inr (2, [.null]))] sz [.ref h0]) (va_Qv (fun _ : ClassId × Nat × (Nat → Nat) => True) (ct_B D (fun u => [(cI, .int), (cB, .byte), (u.1, .array .int)]) (fun u => hW h0 u cI) (va_A [(h0, .inr (2, [.null]))] sz)) (va_A [(h0, .inr (2, [.null]))] sz)) 7 198 (va_A [(h0, .inr (2, [.null]))] sz)) (h0 sz : Nat) : Met l yX8_init wsX8_init ({ frames := 4, cells := 57, slots := 2106, locals := 200 }) (ct_Pre D [(cI, .int), (cB, .byte)] (wI_RO tS tP kS vS AO) [(h0, .inr (8, [.null, .null, .null, .null, .null, .null, .null, .null, .int 0, .int 0, .int 0]))] sz [.ref h0]) (va_Qv (fun u : ClassId × ClassId × (Nat → Nat) × wx_Z => u.2.2.1 0 = h0 ∧ fr (gl 0) sZ u.2.2.2 ∧ ST u.2.2.2 0 1 3 ∧ u.2.2.2 (cSt 0) 2 = 0 ∧ ∀ i, i < 32 → u.2.2.2 (cSo 0) i = 0) (ct_B D (fun u => [(cI, .int), (cB, .byte), (u.1, .object RX5), (u.2.1, .array .int)]) (fun u => wx_w 58 (wC_E cI cB u.1 u.2.1 u.2.2.1) u.2.2.1 u.2.2.2) (va_A [(h0, .inr (8, [.null, .null, .null, .null, .null, .null, .null, .null, .int 0, .int 0, .int 0]))] sz)) (va_A [(h0, .inr (8, [.null, .null, .null, .null, .null, .null, .null, .null, .int 0, .int 0, .int 0]))] sz)) 57 2106 (va_A [(h0, .inr (8, [.null, .null, .null, .null, .null, .null, .null, .null, .int 0, .int 0, .int 0]))] sz) := by
  refine ct_met (cc := cX8_init) (maxL := 1) rfl rfl (by decide) rfl (Nat.le_of_ble_eq_true rfl) ?_
  intro p e s m args below meth c A Q ls S hin hA hro hK ret hP hD hS hl
  obtain ⟨hx, hb, hml, hown, hts⟩ := id S
  have hRO := wI_ROok (tS := tS) (tP := tP) (kS := kS) (vS := vS) hAO
  obtain ⟨n1, n2, n3, n4, n5, n6, n7, n8, n9⟩ := id hro.2.1
  have hl : lv_has ls 1 [(0, .ref h0)] := hl
  refine lv_aload_n hx hb dX8_init_0 rfl (lv_at hl 0 rfl) ?_
  refine W.objInit hx hb hown (hts (.methodLink RX8 1 objectInit) (by decide +kernel)) (hts (.instanceMethod objectInit) (by decide +kernel)) (hts (.code objectInit ⟨#[0xb1]⟩ 1 none) (by decide +kernel)) rfl (by rw [hml]; exact hl.1) rfl dX8_init_1 (Nat.le_of_ble_eq_true rfl) (Nat.le_of_ble_eq_true rfl) ?_
  refine W.eq (g2 := F0 m 4 ls []) rfl ?_
  refine lv_aload_n hx hb dX8_init_4 rfl (lv_at hl 0 rfl) ?_
  refine va_new (ci := 5) (fs := [.null, .null, .int 0]) (C := RX5) (T := TX5) (N := 3) hx hb hts (by decide +kernel) tyX5 tyX5_ok hown (hts (.classLink RX8 7 RX5) (by decide +kernel)) (hts (.instantiable RX5 3) (by decide +kernel)) (hts (.initialized RX5) (by decide +kernel)) hK hP hD hS hA rfl (fun j hj => by rcases (show j = 0 ∨ j = 1 ∨ j = 2 by omega) with rfl | rfl | rfl <;> rfl) (Nat.le_of_ble_eq_true rfl) (Nat.le_of_ble_eq_true rfl) dX8_init_5 (fun q0 H hP hD hS => ?_)
  refine lv_dup hx hb dX8_init_8 rfl ?_
  refine ct_cv (X := (h0, .inr (8, [.null, .null, .null, .null, .null, .null, .null, .null, .int 0, .int 0, .int 0])) :: []) hA hP hD hS (va_runIN (As := []) (rest := [.ref q0, .ref h0]) S (ctX5 l D cI cB hRO (fun A U H h => h.2.1.2.1) q0 H.size) ⟨va_cnB 0 hts gX8_init_X5_init_n9 rfl rfl rfl n1 (hts (.initialized RX5) (by decide +kernel)) (by decide +kernel) ⟨Nat.le_of_ble_eq_true rfl, Nat.le_of_ble_eq_true rfl⟩, rfl, hts (.instanceMethod yX5_init) (by decide +kernel)⟩ (ct_pre (X := (h0, .inr (8, [.null, .null, .null, .null, .null, .null, .null, .null, .int 0, .int 0, .int 0])) :: []) hRO hro hA hK hP hD hS) rfl rfl hl.1 rfl (lv_room (Nat.le_of_ble_eq_true rfl)) dX8_init_9 ⟨Nat.le_of_ble_eq_true rfl, Nat.le_of_ble_eq_true rfl⟩) (fun u0 H locs _ hK0 hP hD hS => ?_)
  have hP : va_P D vwCl ((h0, .inr (8, [.null, .null, .null, .null, .null, .null, .null, .null, .int 0, .int 0, .int 0])) :: sW q0 u0 cI : va_W) H := hP
  have hD : va_D A ((h0, .inr (8, [.null, .null, .null, .null, .null, .null, .null, .null, .int 0, .int 0, .int 0])) :: sW q0 u0 cI : va_W) := hD
  refine va_putF (D := D) (ci := 8) (v := .ref q0) (ty := .object "PlusCodes$State") (C := RX8) (T := TX8) (N := 11) hx hb hts (by decide +kernel) tyX8 tyX8_ok nmX8 hown hK hP hD hS 0 rfl rfl 0 (by decide) (hts (.fieldLink RX8 10 "PlusCodes" "live" "LPlusCodes$State;") (by decide +kernel)) (fun _ h9 => h9) rfl hin rfl (by decide +kernel) rfl rfl (Nat.le_of_ble_eq_true rfl) dX8_init_12 (fun H locs hP hD hS => ?_)
  have hP : va_P D vwCl ((h0, .inr (8, [.ref q0, .null, .null, .null, .null, .null, .null, .null, .int 0, .int 0, .int 0])) :: sW q0 u0 cI : va_W) H := hP
  have hD : va_D A ((h0, .inr (8, [.ref q0, .null, .null, .null, .null, .null, .null, .null, .int 0, .int 0, .int 0])) :: sW q0 u0 cI : va_W) := hD
  refine lv_aload_n hx hb dX8_init_15 rfl (lv_at hl 0 rfl) ?_
  refine va_new (ci := 5) (fs := [.null, .null, .int 0]) (C := RX5) (T := TX5) (N := 3) hx hb hts (by decide +kernel) tyX5 tyX5_ok hown (hts (.classLink RX8 7 RX5) (by decide +kernel)) (hts (.instantiable RX5 3) (by decide +kernel)) (hts (.initialized RX5) (by decide +kernel)) hK hP hD hS hA rfl (fun j hj => by rcases (show j = 0 ∨ j = 1 ∨ j = 2 by omega) with rfl | rfl | rfl <;> rfl) (Nat.le_of_ble_eq_true rfl) (Nat.le_of_ble_eq_true rfl) dX8_init_16 (fun q1 H hP hD hS => ?_)
  refine lv_dup hx hb dX8_init_19 rfl ?_
  refine ct_cv (X := (h0, .inr (8, [.ref q0, .null, .null, .null, .null, .null, .null, .null, .int 0, .int 0, .int 0])) :: sW q0 u0 cI) hA hP hD hS (va_runIN (As := []) (rest := [.ref q1, .ref h0]) S (ctX5 l D cI cB hRO (fun A U H h => h.2.1.2.1) q1 H.size) ⟨va_cnB 0 hts gX8_init_X5_init_n9 rfl rfl rfl n1 (hts (.initialized RX5) (by decide +kernel)) (by decide +kernel) ⟨Nat.le_of_ble_eq_true rfl, Nat.le_of_ble_eq_true rfl⟩, rfl, hts (.instanceMethod yX5_init) (by decide +kernel)⟩ (ct_pre (X := (h0, .inr (8, [.ref q0, .null, .null, .null, .null, .null, .null, .null, .int 0, .int 0, .int 0])) :: sW q0 u0 cI) hRO hro hA hK hP hD hS) rfl rfl hl.1 rfl (lv_room (Nat.le_of_ble_eq_true rfl)) dX8_init_20 ⟨Nat.le_of_ble_eq_true rfl, Nat.le_of_ble_eq_true rfl⟩) (fun u1 H locs _ hK1 hP hD hS => ?_)
  have hP : va_P D vwCl ((h0, .inr (8, [.ref q0, .null, .null, .null, .null, .null, .null, .null, .int 0, .int 0, .int 0])) :: (sW q0 u0 cI ++ sW q1 u1 cI) : va_W) H := hP
  have hD : va_D A ((h0, .inr (8, [.ref q0, .null, .null, .null, .null, .null, .null, .null, .int 0, .int 0, .int 0])) :: (sW q0 u0 cI ++ sW q1 u1 cI) : va_W) := hD
  refine va_putF (D := D) (ci := 8) (v := .ref q1) (ty := .object "PlusCodes$State") (C := RX8) (T := TX8) (N := 11) hx hb hts (by decide +kernel) tyX8 tyX8_ok nmX8 hown hK hP hD hS 0 rfl rfl 1 (by decide) (hts (.fieldLink RX8 16 "PlusCodes" "before" "LPlusCodes$State;") (by decide +kernel)) (fun _ h9 => h9) rfl hin rfl (by decide +kernel) rfl rfl (Nat.le_of_ble_eq_true rfl) dX8_init_23 (fun H locs hP hD hS => ?_)
  have hP : va_P D vwCl ((h0, .inr (8, [.ref q0, .ref q1, .null, .null, .null, .null, .null, .null, .int 0, .int 0, .int 0])) :: (sW q0 u0 cI ++ sW q1 u1 cI) : va_W) H := hP
  have hD : va_D A ((h0, .inr (8, [.ref q0, .ref q1, .null, .null, .null, .null, .null, .null, .int 0, .int 0, .int 0])) :: (sW q0 u0 cI ++ sW q1 u1 cI) : va_W) := hD
  refine lv_aload_n hx hb dX8_init_26 rfl (lv_at hl 0 rfl) ?_
  refine va_new (ci := 4) (fs := [.null, .int 0, .int 0]) (C := RX4) (T := TX4) (N := 3) hx hb hts (by decide +kernel) tyX4 tyX4_ok hown (hts (.classLink RX8 19 RX4) (by decide +kernel)) (hts (.instantiable RX4 3) (by decide +kernel)) (hts (.initialized RX4) (by decide +kernel)) hK hP hD hS hA rfl (fun j hj => by rcases (show j = 0 ∨ j = 1 ∨ j = 2 by omega) with rfl | rfl | rfl <;> rfl) (Nat.le_of_ble_eq_true rfl) (Nat.le_of_ble_eq_true rfl) dX8_init_27 (fun q2 H hP hD hS => ?_)
  refine lv_dup hx hb dX8_init_30 rfl ?_
  refine ct_cv (X := (h0, .inr (8, [.ref q0, .ref q1, .null, .null, .null, .null, .null, .null, .int 0, .int 0, .int 0])) :: (sW q0 u0 cI ++ sW q1 u1 cI)) hA hP hD hS (va_runI (As := []) (rest := [.ref q2, .ref h0]) S (ctX4 l D cI cB hRO (fun A U H h => ⟨h.2.1.2.1, h.2.1.2.2.1, h.2.1.2.2.2.2.2.2.2.2⟩) q2 H.size) (cwI 0 hts gX8_init_X4_init rfl rfl rfl (hts (.initialized RX4) (by decide +kernel)) (hts (.methodLink RX8 21 yX4_init) (by decide +kernel)) (hts (.instanceMethod yX4_init) (by decide +kernel)) rfl (by decide +kernel) ⟨Nat.le_of_ble_eq_true rfl, Nat.le_of_ble_eq_true rfl⟩) (ct_pre (X := (h0, .inr (8, [.ref q0, .ref q1, .null, .null, .null, .null, .null, .null, .int 0, .int 0, .int 0])) :: (sW q0 u0 cI ++ sW q1 u1 cI)) hRO hro hA hK hP hD hS) rfl rfl hl.1 rfl (lv_room (Nat.le_of_ble_eq_true rfl)) dX8_init_31 ⟨Nat.le_of_ble_eq_true rfl, Nat.le_of_ble_eq_true rfl⟩) (fun u2 H locs _ hK2 hP hD hS => ?_)
  obtain ⟨cS, r, a⟩ := u2
  have hP : va_P D vwCl ((h0, .inr (8, [.ref q0, .ref q1, .null, .null, .null, .null, .null, .null, .int 0, .int 0, .int 0])) :: ((sW q0 u0 cI ++ sW q1 u1 cI) ++ pW q2 r a cI cS) : va_W) H := hP
  have hD : va_D A ((h0, .inr (8, [.ref q0, .ref q1, .null, .null, .null, .null, .null, .null, .int 0, .int 0, .int 0])) :: ((sW q0 u0 cI ++ sW q1 u1 cI) ++ pW q2 r a cI cS) : va_W) := hD
  refine va_putF (D := D) (ci := 8) (v := .ref q2) (ty := .object "PlusCodes$Past") (C := RX8) (T := TX8) (N := 11) hx hb hts (by decide +kernel) tyX8 tyX8_ok nmX8 hown hK hP hD hS 0 rfl rfl 2 (by decide) (hts (.fieldLink RX8 22 "PlusCodes" "past" "LPlusCodes$Past;") (by decide +kernel)) (fun _ h9 => h9) rfl hin rfl (by decide +kernel) rfl rfl (Nat.le_of_ble_eq_true rfl) dX8_init_34 (fun H locs hP hD hS => ?_)
  have hP : va_P D vwCl ((h0, .inr (8, [.ref q0, .ref q1, .ref q2, .null, .null, .null, .null, .null, .int 0, .int 0, .int 0])) :: ((sW q0 u0 cI ++ sW q1 u1 cI) ++ pW q2 r a cI cS) : va_W) H := hP
  have hD : va_D A ((h0, .inr (8, [.ref q0, .ref q1, .ref q2, .null, .null, .null, .null, .null, .int 0, .int 0, .int 0])) :: ((sW q0 u0 cI ++ sW q1 u1 cI) ++ pW q2 r a cI cS) : va_W) := hD
  refine lv_aload_n hx hb dX8_init_37 rfl (lv_at hl 0 rfl) ?_
  refine va_new (ci := 6) (fs := [.null, .int 0, .int 0, .int 0]) (C := RX6) (T := TX6) (N := 4) hx hb hts (by decide +kernel) tyX6 tyX6_ok hown (hts (.classLink RX8 26 RX6) (by decide +kernel)) (hts (.instantiable RX6 4) (by decide +kernel)) (hts (.initialized RX6) (by decide +kernel)) hK hP hD hS hA rfl (fun j hj => by rcases (show j = 0 ∨ j = 1 ∨ j = 2 ∨ j = 3 by omega) with rfl | rfl | rfl | rfl <;> rfl) (Nat.le_of_ble_eq_true rfl) (Nat.le_of_ble_eq_true rfl) dX8_init_38 (fun q3 H hP hD hS => ?_)
  refine lv_dup hx hb dX8_init_41 rfl ?_
  refine ct_cv (X := (h0, .inr (8, [.ref q0, .ref q1, .ref q2, .null, .null, .null, .null, .null, .int 0, .int 0, .int 0])) :: ((sW q0 u0 cI ++ sW q1 u1 cI) ++ pW q2 r a cI cS)) hA hP hD hS (va_runIN (As := []) (rest := [.ref q3, .ref h0]) S (ctX6 l D cI cB (wI_RO tS tP kS vS AO) q3 H.size) ⟨va_cnB 0 hts gX8_init_X6_init_n28 rfl rfl rfl n4 (hts (.initialized RX6) (by decide +kernel)) (by decide +kernel) ⟨Nat.le_of_ble_eq_true rfl, Nat.le_of_ble_eq_true rfl⟩, rfl, hts (.instanceMethod yX6_init) (by decide +kernel)⟩ (ct_pre (X := (h0, .inr (8, [.ref q0, .ref q1, .ref q2, .null, .null, .null, .null, .null, .int 0, .int 0, .int 0])) :: ((sW q0 u0 cI ++ sW q1 u1 cI) ++ pW q2 r a cI cS)) hRO hro hA hK hP hD hS) rfl rfl hl.1 rfl (lv_room (Nat.le_of_ble_eq_true rfl)) dX8_init_42 ⟨Nat.le_of_ble_eq_true rfl, Nat.le_of_ble_eq_true rfl⟩) (fun u3 H locs _ hK3 hP hD hS => ?_)
  have hP : va_P D vwCl ((h0, .inr (8, [.ref q0, .ref q1, .ref q2, .null, .null, .null, .null, .null, .int 0, .int 0, .int 0])) :: (((sW q0 u0 cI ++ sW q1 u1 cI) ++ pW q2 r a cI cS) ++ tW q3 u3 cB) : va_W) H := hP
  have hD : va_D A ((h0, .inr (8, [.ref q0, .ref q1, .ref q2, .null, .null, .null, .null, .null, .int 0, .int 0, .int 0])) :: (((sW q0 u0 cI ++ sW q1 u1 cI) ++ pW q2 r a cI cS) ++ tW q3 u3 cB) : va_W) := hD
  refine va_putF (D := D) (ci := 8) (v := .ref q3) (ty := .object "PlusCodes$Text") (C := RX8) (T := TX8) (N := 11) hx hb hts (by decide +kernel) tyX8 tyX8_ok nmX8 hown hK hP hD hS 0 rfl rfl 3 (by decide) (hts (.fieldLink RX8 29 "PlusCodes" "text" "LPlusCodes$Text;") (by decide +kernel)) (fun _ h9 => h9) rfl hin rfl (by decide +kernel) rfl rfl (Nat.le_of_ble_eq_true rfl) dX8_init_45 (fun H locs hP hD hS => ?_)
  have hP : va_P D vwCl ((h0, .inr (8, [.ref q0, .ref q1, .ref q2, .ref q3, .null, .null, .null, .null, .int 0, .int 0, .int 0])) :: (((sW q0 u0 cI ++ sW q1 u1 cI) ++ pW q2 r a cI cS) ++ tW q3 u3 cB) : va_W) H := hP
  have hD : va_D A ((h0, .inr (8, [.ref q0, .ref q1, .ref q2, .ref q3, .null, .null, .null, .null, .int 0, .int 0, .int 0])) :: (((sW q0 u0 cI ++ sW q1 u1 cI) ++ pW q2 r a cI cS) ++ tW q3 u3 cB) : va_W) := hD
  refine lv_aload_n hx hb dX8_init_48 rfl (lv_at hl 0 rfl) ?_
  refine va_new (ci := 0) (fs := [.int 0, .int 0, .int 0, .int 0, .int 0]) (C := RX0) (T := TX0) (N := 5) hx hb hts (by decide +kernel) tyX0 tyX0_ok hown (hts (.classLink RX8 33 RX0) (by decide +kernel)) (hts (.instantiable RX0 5) (by decide +kernel)) (hts (.initialized RX0) (by decide +kernel)) hK hP hD hS hA rfl (fun j hj => by rcases (show j = 0 ∨ j = 1 ∨ j = 2 ∨ j = 3 ∨ j = 4 by omega) with rfl | rfl | rfl | rfl | rfl <;> rfl) (Nat.le_of_ble_eq_true rfl) (Nat.le_of_ble_eq_true rfl) dX8_init_49 (fun q4 H hP hD hS => ?_)
  refine lv_dup hx hb dX8_init_52 rfl ?_
  refine ct_cv (X := (h0, .inr (8, [.ref q0, .ref q1, .ref q2, .ref q3, .null, .null, .null, .null, .int 0, .int 0, .int 0])) :: (((sW q0 u0 cI ++ sW q1 u1 cI) ++ pW q2 r a cI cS) ++ tW q3 u3 cB)) hA hP hD hS (va_runIN (As := []) (rest := [.ref q4, .ref h0]) S (ctX0 l D cI cB (wI_RO tS tP kS vS AO) q4 H.size) ⟨va_cnB 0 hts gX8_init_X0_init_n35 rfl rfl rfl n5 (hts (.initialized RX0) (by decide +kernel)) (by decide +kernel) ⟨Nat.le_of_ble_eq_true rfl, Nat.le_of_ble_eq_true rfl⟩, rfl, hts (.instanceMethod yX0_init) (by decide +kernel)⟩ (ct_pre (X := (h0, .inr (8, [.ref q0, .ref q1, .ref q2, .ref q3, .null, .null, .null, .null, .int 0, .int 0, .int 0])) :: (((sW q0 u0 cI ++ sW q1 u1 cI) ++ pW q2 r a cI cS) ++ tW q3 u3 cB)) hRO hro hA hK hP hD hS) rfl rfl hl.1 rfl (lv_room (Nat.le_of_ble_eq_true rfl)) dX8_init_53 ⟨Nat.le_of_ble_eq_true rfl, Nat.le_of_ble_eq_true rfl⟩) (fun u4 H locs _ hK4 hP hD hS => ?_)
  have hP : va_P D vwCl ((h0, .inr (8, [.ref q0, .ref q1, .ref q2, .ref q3, .null, .null, .null, .null, .int 0, .int 0, .int 0])) :: ((((sW q0 u0 cI ++ sW q1 u1 cI) ++ pW q2 r a cI cS) ++ tW q3 u3 cB) ++ bW q4) : va_W) H := hP
  have hD : va_D A ((h0, .inr (8, [.ref q0, .ref q1, .ref q2, .ref q3, .null, .null, .null, .null, .int 0, .int 0, .int 0])) :: ((((sW q0 u0 cI ++ sW q1 u1 cI) ++ pW q2 r a cI cS) ++ tW q3 u3 cB) ++ bW q4) : va_W) := hD
  refine va_putF (D := D) (ci := 8) (v := .ref q4) (ty := .object "PlusCodes$Ballot") (C := RX8) (T := TX8) (N := 11) hx hb hts (by decide +kernel) tyX8 tyX8_ok nmX8 hown hK hP hD hS 0 rfl rfl 4 (by decide) (hts (.fieldLink RX8 36 "PlusCodes" "ballot" "LPlusCodes$Ballot;") (by decide +kernel)) (fun _ h9 => h9) rfl hin rfl (by decide +kernel) rfl rfl (Nat.le_of_ble_eq_true rfl) dX8_init_56 (fun H locs hP hD hS => ?_)
  have hP : va_P D vwCl ((h0, .inr (8, [.ref q0, .ref q1, .ref q2, .ref q3, .ref q4, .null, .null, .null, .int 0, .int 0, .int 0])) :: ((((sW q0 u0 cI ++ sW q1 u1 cI) ++ pW q2 r a cI cS) ++ tW q3 u3 cB) ++ bW q4) : va_W) H := hP
  have hD : va_D A ((h0, .inr (8, [.ref q0, .ref q1, .ref q2, .ref q3, .ref q4, .null, .null, .null, .int 0, .int 0, .int 0])) :: ((((sW q0 u0 cI ++ sW q1 u1 cI) ++ pW q2 r a cI cS) ++ tW q3 u3 cB) ++ bW q4) : va_W) := hD
  refine lv_aload_n hx hb dX8_init_59 rfl (lv_at hl 0 rfl) ?_
  refine va_new (ci := 2) (fs := [.null]) (C := RX2) (T := TX2) (N := 1) hx hb hts (by decide +kernel) tyX2 tyX2_ok hown (hts (.classLink RX8 40 RX2) (by decide +kernel)) (hts (.instantiable RX2 1) (by decide +kernel)) (hts (.initialized RX2) (by decide +kernel)) hK hP hD hS hA rfl (fun j hj => by rcases (show j = 0 by omega) with rfl <;> rfl) (Nat.le_of_ble_eq_true rfl) (Nat.le_of_ble_eq_true rfl) dX8_init_60 (fun q5 H hP hD hS => ?_)
  refine lv_dup hx hb dX8_init_63 rfl ?_
  refine ct_cv (X := (h0, .inr (8, [.ref q0, .ref q1, .ref q2, .ref q3, .ref q4, .null, .null, .null, .int 0, .int 0, .int 0])) :: ((((sW q0 u0 cI ++ sW q1 u1 cI) ++ pW q2 r a cI cS) ++ tW q3 u3 cB) ++ bW q4)) hA hP hD hS (va_runIN (As := []) (rest := [.ref q5, .ref h0]) S (hX2 q5 H.size) ⟨va_cnB 0 hts gX8_init_X2_init_n42 rfl rfl rfl n6 (hts (.initialized RX2) (by decide +kernel)) (by decide +kernel) ⟨Nat.le_of_ble_eq_true rfl, Nat.le_of_ble_eq_true rfl⟩, rfl, hts (.instanceMethod yX2_init) (by decide +kernel)⟩ (ct_pre (X := (h0, .inr (8, [.ref q0, .ref q1, .ref q2, .ref q3, .ref q4, .null, .null, .null, .int 0, .int 0, .int 0])) :: ((((sW q0 u0 cI ++ sW q1 u1 cI) ++ pW q2 r a cI cS) ++ tW q3 u3 cB) ++ bW q4)) hRO hro hA hK hP hD hS) rfl rfl hl.1 rfl (lv_room (Nat.le_of_ble_eq_true rfl)) dX8_init_64 ⟨Nat.le_of_ble_eq_true rfl, Nat.le_of_ble_eq_true rfl⟩) (fun u5 H locs _ hK5 hP hD hS => ?_)
  obtain ⟨cR, v, w⟩ := u5
  have hP : va_P D vwCl ((h0, .inr (8, [.ref q0, .ref q1, .ref q2, .ref q3, .ref q4, .null, .null, .null, .int 0, .int 0, .int 0])) :: (((((sW q0 u0 cI ++ sW q1 u1 cI) ++ pW q2 r a cI cS) ++ tW q3 u3 cB) ++ bW q4) ++ hW q5 (cR, v, w) cI) : va_W) H := hP
  have hD : va_D A ((h0, .inr (8, [.ref q0, .ref q1, .ref q2, .ref q3, .ref q4, .null, .null, .null, .int 0, .int 0, .int 0])) :: (((((sW q0 u0 cI ++ sW q1 u1 cI) ++ pW q2 r a cI cS) ++ tW q3 u3 cB) ++ bW q4) ++ hW q5 (cR, v, w) cI) : va_W) := hD
  refine va_putF (D := D) (ci := 8) (v := .ref q5) (ty := .object "PlusCodes$Halver") (C := RX8) (T := TX8) (N := 11) hx hb hts (by decide +kernel) tyX8 tyX8_ok nmX8 hown hK hP hD hS 0 rfl rfl 5 (by decide) (hts (.fieldLink RX8 43 "PlusCodes" "halver" "LPlusCodes$Halver;") (by decide +kernel)) (fun _ h9 => h9) rfl hin rfl (by decide +kernel) rfl rfl (Nat.le_of_ble_eq_true rfl) dX8_init_67 (fun H locs hP hD hS => ?_)
  have hP : va_P D vwCl ((h0, .inr (8, [.ref q0, .ref q1, .ref q2, .ref q3, .ref q4, .ref q5, .null, .null, .int 0, .int 0, .int 0])) :: (((((sW q0 u0 cI ++ sW q1 u1 cI) ++ pW q2 r a cI cS) ++ tW q3 u3 cB) ++ bW q4) ++ hW q5 (cR, v, w) cI) : va_W) H := hP
  have hD : va_D A ((h0, .inr (8, [.ref q0, .ref q1, .ref q2, .ref q3, .ref q4, .ref q5, .null, .null, .int 0, .int 0, .int 0])) :: (((((sW q0 u0 cI ++ sW q1 u1 cI) ++ pW q2 r a cI cS) ++ tW q3 u3 cB) ++ bW q4) ++ hW q5 (cR, v, w) cI) : va_W) := hD
  refine lv_aload_n hx hb dX8_init_70 rfl (lv_at hl 0 rfl) ?_
  refine va_new (ci := 3) (fs := [.null]) (C := RX3) (T := TX3) (N := 1) hx hb hts (by decide +kernel) tyX3 tyX3_ok hown (hts (.classLink RX8 47 RX3) (by decide +kernel)) (hts (.instantiable RX3 1) (by decide +kernel)) (hts (.initialized RX3) (by decide +kernel)) hK hP hD hS hA rfl (fun j hj => by rcases (show j = 0 by omega) with rfl <;> rfl) (Nat.le_of_ble_eq_true rfl) (Nat.le_of_ble_eq_true rfl) dX8_init_71 (fun q6 H hP hD hS => ?_)
  refine lv_dup hx hb dX8_init_74 rfl ?_
  refine ct_cv (X := (h0, .inr (8, [.ref q0, .ref q1, .ref q2, .ref q3, .ref q4, .ref q5, .null, .null, .int 0, .int 0, .int 0])) :: (((((sW q0 u0 cI ++ sW q1 u1 cI) ++ pW q2 r a cI cS) ++ tW q3 u3 cB) ++ bW q4) ++ hW q5 (cR, v, w) cI)) hA hP hD hS (va_runIN (As := []) (rest := [.ref q6, .ref h0]) S (ctX3 l D cI cB (wI_RO tS tP kS vS AO) q6 H.size) ⟨va_cnB 0 hts gX8_init_X3_init_n49 rfl rfl rfl n7 (hts (.initialized RX3) (by decide +kernel)) (by decide +kernel) ⟨Nat.le_of_ble_eq_true rfl, Nat.le_of_ble_eq_true rfl⟩, rfl, hts (.instanceMethod yX3_init) (by decide +kernel)⟩ (ct_pre (X := (h0, .inr (8, [.ref q0, .ref q1, .ref q2, .ref q3, .ref q4, .ref q5, .null, .null, .int 0, .int 0, .int 0])) :: (((((sW q0 u0 cI ++ sW q1 u1 cI) ++ pW q2 r a cI cS) ++ tW q3 u3 cB) ++ bW q4) ++ hW q5 (cR, v, w) cI)) hRO hro hA hK hP hD hS) rfl rfl hl.1 rfl (lv_room (Nat.le_of_ble_eq_true rfl)) dX8_init_75 ⟨Nat.le_of_ble_eq_true rfl, Nat.le_of_ble_eq_true rfl⟩) (fun u6 H locs _ hK6 hP hD hS => ?_)
  have hP : va_P D vwCl ((h0, .inr (8, [.ref q0, .ref q1, .ref q2, .ref q3, .ref q4, .ref q5, .null, .null, .int 0, .int 0, .int 0])) :: ((((((sW q0 u0 cI ++ sW q1 u1 cI) ++ pW q2 r a cI cS) ++ tW q3 u3 cB) ++ bW q4) ++ hW q5 (cR, v, w) cI) ++ nW q6 u6 cI) : va_W) H := hP
  have hD : va_D A ((h0, .inr (8, [.ref q0, .ref q1, .ref q2, .ref q3, .ref q4, .ref q5, .null, .null, .int 0, .int 0, .int 0])) :: ((((((sW q0 u0 cI ++ sW q1 u1 cI) ++ pW q2 r a cI cS) ++ tW q3 u3 cB) ++ bW q4) ++ hW q5 (cR, v, w) cI) ++ nW q6 u6 cI) : va_W) := hD
  refine va_putF (D := D) (ci := 8) (v := .ref q6) (ty := .object "PlusCodes$Merits") (C := RX8) (T := TX8) (N := 11) hx hb hts (by decide +kernel) tyX8 tyX8_ok nmX8 hown hK hP hD hS 0 rfl rfl 6 (by decide) (hts (.fieldLink RX8 50 "PlusCodes" "merits" "LPlusCodes$Merits;") (by decide +kernel)) (fun _ h9 => h9) rfl hin rfl (by decide +kernel) rfl rfl (Nat.le_of_ble_eq_true rfl) dX8_init_78 (fun H locs hP hD hS => ?_)
  have hP : va_P D vwCl ((h0, .inr (8, [.ref q0, .ref q1, .ref q2, .ref q3, .ref q4, .ref q5, .ref q6, .null, .int 0, .int 0, .int 0])) :: ((((((sW q0 u0 cI ++ sW q1 u1 cI) ++ pW q2 r a cI cS) ++ tW q3 u3 cB) ++ bW q4) ++ hW q5 (cR, v, w) cI) ++ nW q6 u6 cI) : va_W) H := hP
  have hD : va_D A ((h0, .inr (8, [.ref q0, .ref q1, .ref q2, .ref q3, .ref q4, .ref q5, .ref q6, .null, .int 0, .int 0, .int 0])) :: ((((((sW q0 u0 cI ++ sW q1 u1 cI) ++ pW q2 r a cI cS) ++ tW q3 u3 cB) ++ bW q4) ++ hW q5 (cR, v, w) cI) ++ nW q6 u6 cI) : va_W) := hD
  refine lv_aload_n hx hb dX8_init_81 rfl (lv_at hl 0 rfl) ?_
  refine va_new (ci := 7) (fs := [.null, .int 0, .int 0, .int 0, .int 0, .int 0]) (C := RX7) (T := TX7) (N := 6) hx hb hts (by decide +kernel) tyX7 tyX7_ok hown (hts (.classLink RX8 54 RX7) (by decide +kernel)) (hts (.instantiable RX7 6) (by decide +kernel)) (hts (.initialized RX7) (by decide +kernel)) hK hP hD hS hA rfl (fun j hj => by rcases (show j = 0 ∨ j = 1 ∨ j = 2 ∨ j = 3 ∨ j = 4 ∨ j = 5 by omega) with rfl | rfl | rfl | rfl | rfl | rfl <;> rfl) (Nat.le_of_ble_eq_true rfl) (Nat.le_of_ble_eq_true rfl) dX8_init_82 (fun q7 H hP hD hS => ?_)
  refine lv_dup hx hb dX8_init_85 rfl ?_
  refine ct_cv (X := (h0, .inr (8, [.ref q0, .ref q1, .ref q2, .ref q3, .ref q4, .ref q5, .ref q6, .null, .int 0, .int 0, .int 0])) :: ((((((sW q0 u0 cI ++ sW q1 u1 cI) ++ pW q2 r a cI cS) ++ tW q3 u3 cB) ++ bW q4) ++ hW q5 (cR, v, w) cI) ++ nW q6 u6 cI)) hA hP hD hS (va_runIN (As := []) (rest := [.ref q7, .ref h0]) S (ctX7 l D cI cB (wI_RO tS tP kS vS AO) q7 H.size) ⟨va_cnB 0 hts gX8_init_X7_init_n56 rfl rfl rfl n8 (hts (.initialized RX7) (by decide +kernel)) (by decide +kernel) ⟨Nat.le_of_ble_eq_true rfl, Nat.le_of_ble_eq_true rfl⟩, rfl, hts (.instanceMethod yX7_init) (by decide +kernel)⟩ (ct_pre (X := (h0, .inr (8, [.ref q0, .ref q1, .ref q2, .ref q3, .ref q4, .ref q5, .ref q6, .null, .int 0, .int 0, .int 0])) :: ((((((sW q0 u0 cI ++ sW q1 u1 cI) ++ pW q2 r a cI cS) ++ tW q3 u3 cB) ++ bW q4) ++ hW q5 (cR, v, w) cI) ++ nW q6 u6 cI)) hRO hro hA hK hP hD hS) rfl rfl hl.1 rfl (lv_room (Nat.le_of_ble_eq_true rfl)) dX8_init_86 ⟨Nat.le_of_ble_eq_true rfl, Nat.le_of_ble_eq_true rfl⟩) (fun u7 H locs _ hK7 hP hD hS => ?_)
  have hP : va_P D vwCl ((h0, .inr (8, [.ref q0, .ref q1, .ref q2, .ref q3, .ref q4, .ref q5, .ref q6, .null, .int 0, .int 0, .int 0])) :: (((((((sW q0 u0 cI ++ sW q1 u1 cI) ++ pW q2 r a cI cS) ++ tW q3 u3 cB) ++ bW q4) ++ hW q5 (cR, v, w) cI) ++ nW q6 u6 cI) ++ kW q7 u7 cI) : va_W) H := hP
  have hD : va_D A ((h0, .inr (8, [.ref q0, .ref q1, .ref q2, .ref q3, .ref q4, .ref q5, .ref q6, .null, .int 0, .int 0, .int 0])) :: (((((((sW q0 u0 cI ++ sW q1 u1 cI) ++ pW q2 r a cI cS) ++ tW q3 u3 cB) ++ bW q4) ++ hW q5 (cR, v, w) cI) ++ nW q6 u6 cI) ++ kW q7 u7 cI) : va_W) := hD
  refine va_putF (D := D) (ci := 8) (v := .ref q7) (ty := .object "PlusCodes$Walk") (C := RX8) (T := TX8) (N := 11) hx hb hts (by decide +kernel) tyX8 tyX8_ok nmX8 hown hK hP hD hS 0 rfl rfl 7 (by decide) (hts (.fieldLink RX8 57 "PlusCodes" "walk" "LPlusCodes$Walk;") (by decide +kernel)) (fun _ h9 => h9) rfl hin rfl (by decide +kernel) rfl rfl (Nat.le_of_ble_eq_true rfl) dX8_init_89 (fun H locs hP hD hS => ?_)
  have hP : va_P D vwCl ((h0, .inr (8, [.ref q0, .ref q1, .ref q2, .ref q3, .ref q4, .ref q5, .ref q6, .ref q7, .int 0, .int 0, .int 0])) :: (((((((sW q0 u0 cI ++ sW q1 u1 cI) ++ pW q2 r a cI cS) ++ tW q3 u3 cB) ++ bW q4) ++ hW q5 (cR, v, w) cI) ++ nW q6 u6 cI) ++ kW q7 u7 cI) : va_W) H := hP
  have hD : va_D A ((h0, .inr (8, [.ref q0, .ref q1, .ref q2, .ref q3, .ref q4, .ref q5, .ref q6, .ref q7, .int 0, .int 0, .int 0])) :: (((((((sW q0 u0 cI ++ sW q1 u1 cI) ++ pW q2 r a cI cS) ++ tW q3 u3 cB) ++ bW q4) ++ hW q5 (cR, v, w) cI) ++ nW q6 u6 cI) ++ kW q7 u7 cI) : va_W) := hD
  have hK9 : va_K D vwCl [(cI, .int), (cB, .byte), (cS, .object RX5), (cR, .array .int)] s := ⟨hK.1, fun k q hq => by
    rcases k with _ | _ | _ | _ | k
    · exact hK.2 0 q hq
    · exact hK.2 1 q hq
    · exact hK2.2 2 q hq
    · exact hK5.2 2 q hq
    · simp at hq⟩
  obtain ⟨ad, had⟩ : ∃ ad : Nat → Nat, ad = fun i => [h0, q0, u0.2.2, u0.1, u0.2.1, q1, u1.2.2, u1.1, u1.2.1, (a 0).1, (a 0).2.2.2, (a 0).2.1, (a 0).2.2.1, (a 1).1, (a 1).2.2.2, (a 1).2.1, (a 1).2.2.1, (a 2).1, (a 2).2.2.2, (a 2).2.1, (a 2).2.2.1, (a 3).1, (a 3).2.2.2, (a 3).2.1, (a 3).2.2.1, (a 4).1, (a 4).2.2.2, (a 4).2.1, (a 4).2.2.1, (a 5).1, (a 5).2.2.2, (a 5).2.1, (a 5).2.2.1, (a 6).1, (a 6).2.2.2, (a 6).2.1, (a 6).2.2.1, (a 7).1, (a 7).2.2.2, (a 7).2.1, (a 7).2.2.1, q2, r, q3, u3, q4, q5, v, w 0, w 1, w 2, w 3, w 4, w 5, q6, u6, q7, u7].getD i 0 := ⟨_, rfl⟩
  have hat : ∀ k, k < 58 → va_at D vwCl (ad k, wC_E cI cB cS cR ad k (sZ k)) H := by
    subst had
    intro k hk
    match k, hk with
    | 0, _ => exact hP 0 _ rfl
    | 1, _ => exact hP 1 _ rfl
    | 2, _ => exact hP 4 _ rfl
    | 3, _ => exact hP 2 _ rfl
    | 4, _ => exact hP 3 _ rfl
    | 5, _ => exact hP 5 _ rfl
    | 6, _ => exact hP 8 _ rfl
    | 7, _ => exact hP 6 _ rfl
    | 8, _ => exact hP 7 _ rfl
    | 9, _ => exact hP 11 _ rfl
    | 10, _ => exact hP 14 _ rfl
    | 11, _ => exact hP 12 _ rfl
    | 12, _ => exact hP 13 _ rfl
    | 13, _ => exact hP 15 _ rfl
    | 14, _ => exact hP 18 _ rfl
    | 15, _ => exact hP 16 _ rfl
    | 16, _ => exact hP 17 _ rfl
    | 17, _ => exact hP 19 _ rfl
    | 18, _ => exact hP 22 _ rfl
    | 19, _ => exact hP 20 _ rfl
    | 20, _ => exact hP 21 _ rfl
    | 21, _ => exact hP 23 _ rfl
    | 22, _ => exact hP 26 _ rfl
    | 23, _ => exact hP 24 _ rfl
    | 24, _ => exact hP 25 _ rfl
    | 25, _ => exact hP 27 _ rfl
    | 26, _ => exact hP 30 _ rfl
    | 27, _ => exact hP 28 _ rfl
    | 28, _ => exact hP 29 _ rfl
    | 29, _ => exact hP 31 _ rfl
    | 30, _ => exact hP 34 _ rfl
    | 31, _ => exact hP 32 _ rfl
    | 32, _ => exact hP 33 _ rfl
    | 33, _ => exact hP 35 _ rfl
    | 34, _ => exact hP 38 _ rfl
    | 35, _ => exact hP 36 _ rfl
    | 36, _ => exact hP 37 _ rfl
    | 37, _ => exact hP 39 _ rfl
    | 38, _ => exact hP 42 _ rfl
    | 39, _ => exact hP 40 _ rfl
    | 40, _ => exact hP 41 _ rfl
    | 41, _ => exact hP 9 _ rfl
    | 42, _ => exact at_ring hP (k := 10) rfl (fun j hj => by match j, hj with
      | 0, _ => rfl
      | 1, _ => rfl
      | 2, _ => rfl
      | 3, _ => rfl
      | 4, _ => rfl
      | 5, _ => rfl
      | 6, _ => rfl
      | 7, _ => rfl
      | j + 8, h => exact absurd h (by omega))
    | 43, _ => exact hP 43 _ rfl
    | 44, _ => exact hP 44 _ rfl
    | 45, _ => exact hP 45 _ rfl
    | 46, _ => exact hP 46 _ rfl
    | 47, _ => exact at_ring hP (k := 47) rfl (fun j hj => by match j, hj with
      | 0, _ => rfl
      | 1, _ => rfl
      | 2, _ => rfl
      | 3, _ => rfl
      | 4, _ => rfl
      | 5, _ => rfl
      | j + 6, h => exact absurd h (by omega))
    | 48, _ => exact hP 48 _ rfl
    | 49, _ => exact hP 49 _ rfl
    | 50, _ => exact hP 50 _ rfl
    | 51, _ => exact hP 51 _ rfl
    | 52, _ => exact hP 52 _ rfl
    | 53, _ => exact hP 53 _ rfl
    | 54, _ => exact hP 54 _ rfl
    | 55, _ => exact hP 55 _ rfl
    | 56, _ => exact hP 56 _ rfl
    | 57, _ => exact hP 57 _ rfl
    | k + 58, h => exact absurd h (by omega)
  have hP9 : va_P D vwCl (wx_w 58 (wC_E cI cB cS cR ad) ad sZ) H := by
    intro k q hq
    have hk : k < 58 := by
      have := (List.getElem?_eq_some_iff.mp hq).1
      rw [wx_len] at this
      exact this
    rw [wx_at hk] at hq
    cases hq
    exact hat k hk
  have hadr : ∀ k, k < 58 → ∃ e, ((h0, .inr (8, [.ref q0, .ref q1, .ref q2, .ref q3, .ref q4, .ref q5, .ref q6, .ref q7, .int 0, .int 0, .int 0])) :: (((((((sW q0 u0 cI ++ sW q1 u1 cI) ++ pW q2 r a cI cS) ++ tW q3 u3 cB) ++ bW q4) ++ hW q5 (cR, v, w) cI) ++ nW q6 u6 cI) ++ kW q7 u7 cI) : va_W)[[0, 1, 4, 2, 3, 5, 8, 6, 7, 11, 14, 12, 13, 15, 18, 16, 17, 19, 22, 20, 21, 23, 26, 24, 25, 27, 30, 28, 29, 31, 34, 32, 33, 35, 38, 36, 37, 39, 42, 40, 41, 9, 10, 43, 44, 45, 46, 47, 48, 49, 50, 51, 52, 53, 54, 55, 56, 57].getD k 0]? = some (ad k, e) := by
    subst had
    intro k hk
    match k, hk with
    | 0, _ => exact ⟨_, rfl⟩
    | 1, _ => exact ⟨_, rfl⟩
    | 2, _ => exact ⟨_, rfl⟩
    | 3, _ => exact ⟨_, rfl⟩
    | 4, _ => exact ⟨_, rfl⟩
    | 5, _ => exact ⟨_, rfl⟩
    | 6, _ => exact ⟨_, rfl⟩
    | 7, _ => exact ⟨_, rfl⟩
    | 8, _ => exact ⟨_, rfl⟩
    | 9, _ => exact ⟨_, rfl⟩
    | 10, _ => exact ⟨_, rfl⟩
    | 11, _ => exact ⟨_, rfl⟩
    | 12, _ => exact ⟨_, rfl⟩
    | 13, _ => exact ⟨_, rfl⟩
    | 14, _ => exact ⟨_, rfl⟩
    | 15, _ => exact ⟨_, rfl⟩
    | 16, _ => exact ⟨_, rfl⟩
    | 17, _ => exact ⟨_, rfl⟩
    | 18, _ => exact ⟨_, rfl⟩
    | 19, _ => exact ⟨_, rfl⟩
    | 20, _ => exact ⟨_, rfl⟩
    | 21, _ => exact ⟨_, rfl⟩
    | 22, _ => exact ⟨_, rfl⟩
    | 23, _ => exact ⟨_, rfl⟩
    | 24, _ => exact ⟨_, rfl⟩
    | 25, _ => exact ⟨_, rfl⟩
    | 26, _ => exact ⟨_, rfl⟩
    | 27, _ => exact ⟨_, rfl⟩
    | 28, _ => exact ⟨_, rfl⟩
    | 29, _ => exact ⟨_, rfl⟩
    | 30, _ => exact ⟨_, rfl⟩
    | 31, _ => exact ⟨_, rfl⟩
    | 32, _ => exact ⟨_, rfl⟩
    | 33, _ => exact ⟨_, rfl⟩
    | 34, _ => exact ⟨_, rfl⟩
    | 35, _ => exact ⟨_, rfl⟩
    | 36, _ => exact ⟨_, rfl⟩
    | 37, _ => exact ⟨_, rfl⟩
    | 38, _ => exact ⟨_, rfl⟩
    | 39, _ => exact ⟨_, rfl⟩
    | 40, _ => exact ⟨_, rfl⟩
    | 41, _ => exact ⟨_, rfl⟩
    | 42, _ => exact ⟨_, rfl⟩
    | 43, _ => exact ⟨_, rfl⟩
    | 44, _ => exact ⟨_, rfl⟩
    | 45, _ => exact ⟨_, rfl⟩
    | 46, _ => exact ⟨_, rfl⟩
    | 47, _ => exact ⟨_, rfl⟩
    | 48, _ => exact ⟨_, rfl⟩
    | 49, _ => exact ⟨_, rfl⟩
    | 50, _ => exact ⟨_, rfl⟩
    | 51, _ => exact ⟨_, rfl⟩
    | 52, _ => exact ⟨_, rfl⟩
    | 53, _ => exact ⟨_, rfl⟩
    | 54, _ => exact ⟨_, rfl⟩
    | 55, _ => exact ⟨_, rfl⟩
    | 56, _ => exact ⟨_, rfl⟩
    | 57, _ => exact ⟨_, rfl⟩
    | k + 58, h => exact absurd h (by omega)
  have hD9 : va_D A (wx_w 58 (wC_E cI cB cS cR ad) ad sZ) := by
    have hw : ∀ (k : Nat) (q : Nat × va_E), (wx_w 58 (wC_E cI cB cS cR ad) ad sZ)[k]? = some q → k < 58 ∧ q.1 = ad k := by
      intro k q hq
      have hk : k < 58 := by
        have := (List.getElem?_eq_some_iff.mp hq).1
        rw [wx_len] at this
        exact this
      rw [wx_at hk] at hq
      cases hq
      exact ⟨hk, rfl⟩
    refine ⟨fun i j x y hi hj e => ?_, fun k q hq => ?_⟩
    · obtain ⟨i1, i2⟩ := hw i x hi
      obtain ⟨j1, j2⟩ := hw j y hj
      obtain ⟨e1, g1⟩ := hadr i i1
      obtain ⟨e2, g2⟩ := hadr j j1
      have := hD.1 _ _ _ _ g1 g2 (by show ad i = ad j; rw [← i2, ← j2]; exact e)
      exact pl_inj i i1 j j1 this
    · obtain ⟨k1, k2⟩ := hw k q hq
      obtain ⟨e1, g1⟩ := hadr k k1
      rw [k2]
      exact hD.2 _ _ g1
  have ha0 : ad 0 = h0 := by rw [had]; rfl
  have ha1 : ad (cSt 0) = q0 := by rw [had]; rfl
  have C : wx_C p s m args c cX8_init 1 RX8 wsX8_init D [(cI, .int), (cB, .byte), (cS, .object RX5), (cR, .array .int)] (wC_RO tS tP kS vS) A := ⟨S, hA, hK9, wC_ROok tS tP kS vS, hro.1⟩
  have h := q_start (σ := sZ) (g := 0) (r := 1) (m := 3) (K := fun σ' => fr (gl 0) sZ σ' ∧ ST σ' 0 1 3 ∧ σ' (cSt 0) 2 = 0 ∧ ∀ i, i < 32 → σ' (cSo 0) i = 0) (by omega) (by omega) (fun σ' h1 h2 h3 h4 => ⟨h1, h2, h3, h4⟩)
  refine lv_aload_n hx hb dX8_init_92 rfl (lv_at hl 0 rfl) ?_
  refine va_get (D := D) (ci := 8) (v := .ref q0) (C := RX8) (T := TX8) (N := 11) hx hb hts (by decide +kernel) hown hK hP 0 rfl rfl 0 (by decide) (hts (.fieldLink RX8 10 "PlusCodes" "live" "LPlusCodes$State;") (by decide +kernel)) (fun _ h9 => h9) rfl dX8_init_93 ?_
  refine lv_iconst (v := 1) hx hb dX8_init_96 (by decide) ?_
  refine lv_iconst (v := 3) hx hb dX8_init_97 (by decide) ?_
  rw [← ha1]
  refine ct_start hA hD9 hS (va_runV (As := [.int 1, .int 3]) (rest := []) S (mtX5_start (l := l) (D := D) (sz := H.size) (Nat.le_of_ble_eq_true rfl) h) (cwV 2 hts gX8_init_X5_start rfl rfl rfl nyX5_start ⟨Nat.le_of_ble_eq_true rfl, Nat.le_of_ble_eq_true rfl⟩) (wx_pv C hP9 hD9 hS (q := (cSt 0)) (ci := 5) (lt_st (Nat.le_of_ble_eq_true rfl)) (eC_st (Nat.le_of_ble_eq_true rfl) _) rfl) rfl rfl hl.1 rfl (lv_room (Nat.le_of_ble_eq_true rfl)) dX8_init_98 ⟨Nat.le_of_ble_eq_true rfl, Nat.le_of_ble_eq_true rfl⟩) (fun σ' H locs hk hP hD hS => ?_)
  exact ret (cS, cR, ad, σ') H locs 101 ls ⟨ha0, hk⟩ hP hK9 hD hS dX8_init_101

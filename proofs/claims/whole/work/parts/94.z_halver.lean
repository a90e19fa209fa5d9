/-! ===== Halver(): six rows ===== -/
theorem va_AOA.of {t : FieldType} {A : Array Value} {U : State} (h : (Cond.arrayOver (.array t)).before A U = true) : va_AOA t U := h
theorem va_AOA.moved {u U : State} (hvm : u.vm.Alike U.vm) (h : va_AOA .int u) : va_AOA .int U := by
  have e := Cond.arrayOver_setVmC (args := #[]) (s := u) (vm' := U.vm) hvm (.array .int)
  have e2 : (Cond.arrayOver (.array .int)).before #[] U = (Cond.arrayOver (.array .int)).before #[] (u.setVm U.vm) := by
    simp only [Cond.before, Cond.holds, Cond.value, State.vm_setVm]
    rfl
  exact e2.trans (e.trans h)
theorem rows_eq (r : Nat → Nat) (f : Nat → va_E) (e : va_E) : va_pl ([] ++ (List.range 6).map r) (vr_up f ((List.range 6).map r) e) = (List.range 6).map (fun i => (r i, e)) := by
  unfold va_pl
  rw [List.nil_append, List.map_map]
  apply List.map_congr_left
  intro i hi
  show (r i, vr_up f ((List.range 6).map r) e (r i)) = (r i, e)
  rw [vr_up_in (List.mem_map.mpr ⟨i, hi, rfl⟩)]
set_option maxHeartbeats 4000000 in
set_option maxRecDepth 100000 in
theorem ctX2 (l : Launch) (D : va_G) (cI cB : ClassId) {RO : (Nat → Prop) → State → Heap → Prop} (hNo : ∀ A U H, RO A U H → va_AOA .int U) (h0 sz : Nat) : Met l yX2_init wsX2_init ({ frames := 1, cells := 7, slots := 198, locals := 12 }) (ct_Pre D [(cI, .int), (cB, .byte)] RO [(h0, .inr (2, [.null]))] sz [.ref h0]) (va_Qv (fun _ : ClassId × Nat × (Nat → Nat) => True) (ct_B D (fun u => [(cI, .int), (cB, .byte), (u.1, .array .int)]) (fun u => hW h0 u cI) (va_A [(h0, .inr (2, [.null]))] sz)) (va_A [(h0, .inr (2, [.null]))] sz)) 7 198 (va_A [(h0, .inr (2, [.null]))] sz) := by
  refine ct_met (cc := cX2_init) (maxL := 1) rfl rfl (by decide) rfl (Nat.le_of_ble_eq_true rfl) ?_
  intro p e s m args below meth c A Q ls S hin hA hro hK ret hP hD hS hl
  obtain ⟨hx, hb, hml, hown, hts⟩ := id S
  have hl : lv_has ls 1 [(0, .ref h0)] := hl
  have hcl : (Cond.classLink RX2 9 ("[" ++ (FieldType.array FieldType.int).toString)).before args s = true := hts (.classLink RX2 9 "[[I") (by decide +kernel)
  have hcy : s.vm.findClass (FieldType.array FieldType.int).toString = some cI := (hK.2 0 _ rfl).2
  refine lv_aload_n hx hb dX2_init_0 rfl (lv_at hl 0 rfl) ?_
  refine W.objInit hx hb hown (hts (.methodLink RX2 3 objectInit) (by decide +kernel)) (hts (.instanceMethod objectInit) (by decide +kernel)) (hts (.code objectInit ⟨#[0xb1]⟩ 1 none) (by decide +kernel)) rfl (by rw [hml]; exact hl.1) rfl dX2_init_1 (Nat.le_of_ble_eq_true rfl) (Nat.le_of_ble_eq_true rfl) ?_
  refine W.eq (g2 := F0 m 4 ls []) rfl ?_
  refine lv_aload_n hx hb dX2_init_4 rfl (lv_at hl 0 rfl) ?_
  refine lv_bipush (v := 6) hx hb dX2_init_5 (by decide) ?_
  refine lv_bipush (v := 32) hx hb dX2_init_7 (by decide) ?_
  refine va_mna (X := [(h0, .inr (2, [.null]))]) (L := []) (f := fun _ => .inr (0, [])) (ty := .int) (N' := 6) (K' := 32) (z := (32, .inl (fun _ => 0))) hx hb hown hcl (hNo _ _ _ hro) (hts (.arrayClass .int) (by decide +kernel)) hcy hK hP hD hS hA (by decide) (by decide) rfl rfl (Nat.le_of_ble_eq_true rfl) (Nat.le_of_ble_eq_true rfl) (Nat.le_of_ble_eq_true rfl) rfl rfl (Nat.le_of_ble_eq_true rfl) (Nat.le_of_ble_eq_true rfl) (fun c9 => arrV_new c9 32 (.int 0)) dX2_init_9 (fun q r cA H _ _ hK hP hD hS => ?_)
  rw [rows_eq] at hP hD
  have hP : va_P D vwCl ((h0, .inr (2, [.null])) :: (q, .inl (cA, 6, .inr (.inr (.inr (.inr (fun i => if i < 6 then some (r i) else none)))))) :: (List.range 6).map (fun i => (r i, .inl (cI, 32, .inl (fun _ => 0))))) H := hP
  have hD : va_D A ((h0, .inr (2, [.null])) :: (q, .inl (cA, 6, .inr (.inr (.inr (.inr (fun i => if i < 6 then some (r i) else none)))))) :: (List.range 6).map (fun i => (r i, .inl (cI, 32, .inl (fun _ => 0))))) := hD
  refine va_putF (D := D) (ci := 2) (v := .ref q) (ty := .array (.array .int)) (C := RX2) (T := TX2) (N := 1) hx hb hts (by decide +kernel) tyX2 tyX2_ok nmX2 hown hK hP hD hS 0 rfl rfl 0 (by decide) (hts (.fieldLink RX2 11 "PlusCodes$Halver" "rows" "[[I") (by decide +kernel)) (fun _ h9 => h9) rfl hin rfl (by decide +kernel) rfl rfl (Nat.le_of_ble_eq_true rfl) dX2_init_13 (fun H locs hP hD hS => ?_)
  refine ret (cA, q, r) H locs 16 ls trivial ?_ hK ?_ hS dX2_init_16
  · intro k x hq
    rcases k with _ | _ | k
    · exact hP 0 x hq
    · cases hq
      exact at_ring hP (k := 1) rfl (fun j hj => if_pos hj)
    · exact hP (k + 2) x hq
  · refine vaD_cong (fun k x hq => ?_) hD
    rcases k with _ | _ | k
    · exact ⟨x, hq, rfl⟩
    · cases hq; exact ⟨_, rfl, rfl⟩
    · exact ⟨x, hq, rfl⟩

/-! ===== the start ===== -/
def tZ : wx_Z := fun c k => if c = 1 then (if k = 0 then 1 else if k = 1 then 3 else 0) else 0
theorem RR_start {σ : wx_Z} (hf : fr (gl 0) sZ σ) (hs : ST σ 0 1 3) (hw : σ (cSt 0) 2 = 0) (hz : ∀ i, i < 32 → σ (cSo 0) i = 0) : RR σ tZ := by
  have e : ∀ c, 5 ≤ c → σ c = sZ c := fun c hc => hf c (fun z => by have := gl_in z; omega)
  have e0 : σ 0 = sZ 0 := hf 0 (by decide)
  refine ⟨⟨1, 3, RLv.new hs hw hz rfl rfl (fun k h1 h2 => ?_)⟩, ⟨0, 0, by omega, by omega, ?_, ?_, rfl, fun i hi => absurd hi (by omega)⟩, ⟨0, by omega, ?_, rfl, fun i hi => absurd hi (by omega)⟩, ?_, ?_, ?_⟩
  · unfold tZ
    rw [if_pos rfl, if_neg (by omega), if_neg (by omega)]
  · rw [e 41 (by omega)]; rfl
  · rw [e 41 (by omega)]; rfl
  · rw [e 43 (by omega)]; rfl
  · rw [e0]; rfl
  · rw [e0]; rfl
  · rw [e0]; rfl
theorem kA_of {s : State} {args : Array Value} {ty : FieldType} (h : (Cond.arrayClass ty).before args s = true) (hra : ∀ c, s.vm.findClass ("[" ++ ty.toString) = some c → va_RA s c ty) : ∃ c, ArrOfT s c ty ∧ va_RA s c ty := by
  obtain ⟨c, k, comp, h1, h2, h3⟩ := Cond.arrayClass_spec h
  exact ⟨c, fun n z => ⟨(by intro q hq; cases hq), k, h2, comp, h3⟩, hra c h1⟩
theorem mW_eq (q : Nat) (u : Nat → Nat) (cI : ClassId) : mW q u cI = wx_w 14 (wM_E cI (fun i => if i = 0 then q else u i)) (fun i => if i = 0 then q else u i) (fun c k => if c = 1 then upd (upd (fun _ => 0) 0 1) 1 3 k else 0) := rfl
theorem tZ_eq : (fun c k => if c = 1 then upd (upd (fun _ => (0 : Int32)) 0 1) 1 3 k else 0 : wx_Z) = tZ := by
  funext c k
  unfold tZ upd
  by_cases h : c = 1
  · rw [if_pos h, if_pos h]
    by_cases h1 : k = 1
    · subst h1; rfl
    · by_cases h0 : k = 0
      · subst h0; rfl
      · simp [h1, h0]
  · rw [if_neg h, if_neg h]
set_option maxHeartbeats 8000000 in
set_option maxRecDepth 100000 in
theorem whole_start {p : Program} {e : Env} {s : State} {m : MethodId} {below : List Frame} {meth : Method} {c : Code} (l : Launch) (hflags : l.flags = flags0) {b L : Nat} {xs : Nat → Int32} (hL : L ≤ 1536) (C0 : lw_At p s m meth c b L xs) : W p l e room_1 s m #[Value.ref b] below meth c s.heap [] 0 0 (lw_Z below #[Value.ref b] s) (entryFrame m ([Value.ref b] : List Value).toArray 4) := by
  obtain ⟨hx, hb, hr, hml, hown, htl, hX, hbl, hlocks, hgv⟩ := id C0
  have hA : ∀ q : Nat, s.heap.size ≤ q → lwA s q := fun _ h => h
  obtain ⟨tS, tP, kS, vS, hro, hN⟩ := ro_start htl hgv
  have hAO : va_AOA .int s := va_AOA.of (htl (.arrayOver (.array .int)) (List.mem_of_getElem? (i := 224) (by decide +kernel)))
  have hts : ∀ w ∈ wsL_law, w.before #[Value.ref b] s = true := fun w h => htl w (wsL_law_in w h)
  obtain ⟨c0, iS0, hKn0⟩ := u_known (C := RX0) (T := TX0) (N := 5) (n := 5) htl inX0 (htl (.instantiable RX0 5) (List.mem_of_getElem? (i := 191) (by decide +kernel)))
  obtain ⟨c1, iS1, hKn1⟩ := u_known (C := RX1) (T := TX1) (N := 5) (n := 5) htl inX1 (htl (.instantiable RX1 5) (List.mem_of_getElem? (i := 98) (by decide +kernel)))
  obtain ⟨c2, iS2, hKn2⟩ := u_known (C := RX2) (T := TX2) (N := 1) (n := 1) htl inX2 (htl (.instantiable RX2 1) (List.mem_of_getElem? (i := 218) (by decide +kernel)))
  obtain ⟨c3, iS3, hKn3⟩ := u_known (C := RX3) (T := TX3) (N := 1) (n := 1) htl inX3 (htl (.instantiable RX3 1) (List.mem_of_getElem? (i := 230) (by decide +kernel)))
  obtain ⟨c4, iS4, hKn4⟩ := u_known (C := RX4) (T := TX4) (N := 3) (n := 3) htl inX4 (htl (.instantiable RX4 3) (List.mem_of_getElem? (i := 149) (by decide +kernel)))
  obtain ⟨c5, iS5, hKn5⟩ := u_known (C := RX5) (T := TX5) (N := 3) (n := 3) htl inX5 (htl (.instantiable RX5 3) (List.mem_of_getElem? (i := 92) (by decide +kernel)))
  obtain ⟨c6, iS6, hKn6⟩ := u_known (C := RX6) (T := TX6) (N := 4) (n := 4) htl inX6 (htl (.instantiable RX6 4) (List.mem_of_getElem? (i := 169) (by decide +kernel)))
  obtain ⟨c7, iS7, hKn7⟩ := u_known (C := RX7) (T := TX7) (N := 6) (n := 6) htl inX7 (htl (.instantiable RX7 6) (List.mem_of_getElem? (i := 240) (by decide +kernel)))
  obtain ⟨c8, iS8, hKn8⟩ := u_known (C := RX8) (T := TX8) (N := 11) (n := 11) htl inX8 (htl (.instantiable RX8 11) (List.mem_of_getElem? (i := 84) (by decide +kernel)))
  obtain ⟨c9, iS9, hKn9⟩ := u_known (C := RX9) (T := TX9) (N := 27) (n := 27) htl inX9 (htl (.instantiable RX9 27) (List.mem_of_getElem? (i := 775) (by decide +kernel)))
  obtain ⟨dC, dI, hKc⟩ : ∃ (dC : Nat → ClassId) (dI : Nat → Nat → Nat), ∀ (k : Nat) (q : vw_C), vwCl[k]? = some q → u_Kn s q.1 q.2.1 q.2.2 (dC k) (dI k) := by
    refine ⟨fun k => if k = 0 then c0 else if k = 1 then c1 else if k = 2 then c2 else if k = 3 then c3 else if k = 4 then c4 else if k = 5 then c5 else if k = 6 then c6 else if k = 7 then c7 else if k = 8 then c8 else c9, fun k => if k = 0 then iS0 else if k = 1 then iS1 else if k = 2 then iS2 else if k = 3 then iS3 else if k = 4 then iS4 else if k = 5 then iS5 else if k = 6 then iS6 else if k = 7 then iS7 else if k = 8 then iS8 else iS9, ?_⟩
    intro k q hq
    match k, hq with
    | 0, hq => cases hq; exact hKn0
    | 1, hq => cases hq; exact hKn1
    | 2, hq => cases hq; exact hKn2
    | 3, hq => cases hq; exact hKn3
    | 4, hq => cases hq; exact hKn4
    | 5, hq => cases hq; exact hKn5
    | 6, hq => cases hq; exact hKn6
    | 7, hq => cases hq; exact hKn7
    | 8, hq => cases hq; exact hKn8
    | 9, hq => cases hq; exact hKn9
    | k + 10, hq => simp [vwCl] at hq
  obtain ⟨cI, aI, rI⟩ := kA_of (htl (.arrayClass .int) (List.mem_of_getElem? (i := 134) (by decide +kernel))) (fun _ h => h)
  obtain ⟨cB, aB, rB⟩ := kA_of (htl (.arrayClass .byte) (List.mem_of_getElem? (i := 189) (by decide +kernel))) (fun _ h => h)
  have hS : va_S (lwA s) s.heap s.heap [] := va_S.rf
  have hK : va_K (dC, dI) vwCl [(cI, .int), (cB, .byte)] s := ⟨hKc, fun k q h => by
    rcases k with _ | _ | k
    · cases h; exact ⟨aI, rI⟩
    · cases h; exact ⟨aB, rB⟩
    · simp at h⟩
  have hP : va_P (dC, dI) vwCl [] s.heap := fun k q h => by simp at h
  have hD : va_D (lwA s) [] := ⟨fun i j p q h => by simp at h, fun k q h => by simp at h⟩
  have S : CallFix p m c cL_law 4 s #[Value.ref b] wsL_law RL := ⟨hx, hb, hml, hown, hts⟩
  have hmv : ∀ u U : State, u.vm.Alike U.vm → va_AOA .int u → va_AOA .int U := fun u U h h2 => va_AOA.moved h h2
  have hl := lv_entry ([.ref b]) (n := 4) (Nat.le_of_ble_eq_true rfl)
  rw [lg_entry_eq]
  generalize (lg_sl ([.ref b]) ++ List.replicate (4 - (lg_sl ([.ref b])).length) Slot.unset).toArray = ls at hl ⊢
  have hl : lv_has ls 4 [(0, .ref b)] := hl
  refine va_new (ci := 8) (fs := [.null, .null, .null, .null, .null, .null, .null, .null, .int 0, .int 0, .int 0]) (C := RX8) (T := TX8) (N := 11) hx hb htl inX8 tyX8 tyX8_ok hown (htl (.classLink RL 7 RX8) (List.mem_of_getElem? (i := 83) (by decide +kernel))) (htl (.instantiable RX8 11) (List.mem_of_getElem? (i := 84) (by decide +kernel))) (htl (.initialized RX8) (List.mem_of_getElem? (i := 64) (by decide +kernel))) hK hP hD hS hA rfl (fun j hj => by rcases (show j = 0 ∨ j = 1 ∨ j = 2 ∨ j = 3 ∨ j = 4 ∨ j = 5 ∨ j = 6 ∨ j = 7 ∨ j = 8 ∨ j = 9 ∨ j = 10 by omega) with rfl | rfl | rfl | rfl | rfl | rfl | rfl | rfl | rfl | rfl | rfl <;> rfl) (Nat.le_of_ble_eq_true rfl) (Nat.le_of_ble_eq_true rfl) dL_law_0 (fun q0 H hP hD hS => ?_)
  refine lv_dup hx hb dL_law_3 rfl ?_
  have hRO := wI_ROok (tS := tS) (tP := tP) (kS := kS) (vS := vS) hmv
  have hroI : wI_RO tS tP kS vS (va_AOA .int) (lwA s) s s.heap := ⟨hro, hN, hAO⟩
  refine ct_cv (X := []) hA hP hD hS (va_runI (As := []) (rest := [.ref q0]) S (ctX8 l (dC, dI) cI cB tS tP kS vS (va_AOA .int) hmv (fun h0 sz => ctX2 l (dC, dI) cI cB (fun A U H h => h.2.2) h0 sz) q0 H.size) (cwI 0 hts gL_law_X8_init rfl rfl rfl (htl (.initialized RX8) (List.mem_of_getElem? (i := 64) (by decide +kernel))) (htl (.methodLink RL 9 yX8_init) (List.mem_of_getElem? (i := 85) (by decide +kernel))) (htl (.instanceMethod yX8_init) (List.mem_of_getElem? (i := 86) (by decide +kernel))) rfl (by decide +kernel) ⟨Nat.le_of_ble_eq_true rfl, Nat.le_of_ble_eq_true rfl⟩) (ct_pre (X := []) hRO hroI hA hK hP hD hS) rfl rfl hl.1 rfl (lv_room (Nat.le_of_ble_eq_true rfl)) dL_law_4 ⟨Nat.le_of_ble_eq_true rfl, Nat.le_of_ble_eq_true rfl⟩) (fun u H locs hu hK4 hP hD hS => ?_)
  obtain ⟨cS, cR, adC, σ⟩ := u
  obtain ⟨u1, u2, u3, u4, u5⟩ := hu
  have hP : va_P (dC, dI) vwCl (wx_w 58 (wC_E cI cB cS cR adC) adC σ) H := hP
  have hD : va_D (lwA s) (wx_w 58 (wC_E cI cB cS cR adC) adC σ) := hD
  have u1 : adC 0 = q0 := u1
  refine lv_astore_n (lv' := [(1, .ref q0), (0, .ref b)]) hx hb dL_law_7 rfl hl (by decide) rfl (fun ls hl => ?_)
  refine va_new (ci := 9) (fs := [.null, .null, .int 0, .null, .null, .int 0, .int 0, .int 0, .int 0, .int 0, .int 0, .null, .int 0, .int 0, .int 0, .null, .null, .null, .null, .null, .null, .int 0, .int 0, .int 0, .int 0, .null, .null]) (C := RX9) (T := TX9) (N := 27) hx hb htl inX9 tyX9 tyX9_ok hown (htl (.classLink RL 10 RX9) (List.mem_of_getElem? (i := 774) (by decide +kernel))) (htl (.instantiable RX9 27) (List.mem_of_getElem? (i := 775) (by decide +kernel))) (htl (.initialized RX9) (List.mem_of_getElem? (i := 75) (by decide +kernel))) hK hP hD hS hA rfl (fun j hj => by
    match j, hj with
    | 0, _ => rfl
    | 1, _ => rfl
    | 2, _ => rfl
    | 3, _ => rfl
    | 4, _ => rfl
    | 5, _ => rfl
    | 6, _ => rfl
    | 7, _ => rfl
    | 8, _ => rfl
    | 9, _ => rfl
    | 10, _ => rfl
    | 11, _ => rfl
    | 12, _ => rfl
    | 13, _ => rfl
    | 14, _ => rfl
    | 15, _ => rfl
    | 16, _ => rfl
    | 17, _ => rfl
    | 18, _ => rfl
    | 19, _ => rfl
    | 20, _ => rfl
    | 21, _ => rfl
    | 22, _ => rfl
    | 23, _ => rfl
    | 24, _ => rfl
    | 25, _ => rfl
    | 26, _ => rfl
    | j + 27, h => exact absurd h (by omega)) (Nat.le_of_ble_eq_true rfl) (Nat.le_of_ble_eq_true rfl) dL_law_8 (fun q1 H hP hD hS => ?_)
  refine lv_dup hx hb dL_law_11 rfl ?_
  refine ct_cv hA hP hD hS (va_runI (As := []) (rest := [.ref q1]) S (ctX9 l (dC, dI) cI cB (wI_RO tS tP kS vS (va_AOA .int)) q1 H.size) (cwI 0 hts gL_law_X9_init rfl rfl rfl (htl (.initialized RX9) (List.mem_of_getElem? (i := 75) (by decide +kernel))) (htl (.methodLink RL 12 yX9_init) (List.mem_of_getElem? (i := 776) (by decide +kernel))) (htl (.instanceMethod yX9_init) (List.mem_of_getElem? (i := 777) (by decide +kernel))) rfl (by decide +kernel) ⟨Nat.le_of_ble_eq_true rfl, Nat.le_of_ble_eq_true rfl⟩) (ct_pre hRO hroI hA hK hP hD hS) rfl rfl hl.1 rfl (lv_room (Nat.le_of_ble_eq_true rfl)) dL_law_12 ⟨Nat.le_of_ble_eq_true rfl, Nat.le_of_ble_eq_true rfl⟩) (fun u H locs _ _ hP hD hS => ?_)
  rw [mW_eq, tZ_eq] at hP hD
  obtain ⟨adM, eM⟩ : ∃ adM : Nat → Nat, adM = fun i => if i = 0 then q1 else u i := ⟨_, rfl⟩
  rw [← eM] at hP hD
  have eM0 : adM 0 = q1 := by rw [eM]; rfl
  refine lv_astore_n (lv' := [(2, .ref q1), (1, .ref q0), (0, .ref b)]) hx hb dL_law_15 rfl hl (by decide) rfl (fun ls hl => ?_)
  refine lv_iconst (v := 0) hx hb dL_law_16 (by decide) ?_
  refine lv_istore_n (lv' := [(3, .int 0), (2, .ref q1), (1, .ref q0), (0, .ref b)]) hx hb dL_law_17 rfl hl (by decide) rfl (fun ls hl => ?_)
  rw [← u1, ← eM0] at hl
  refine law_loop (D := (dC, dI)) (cI := cI) (cB := cB) (cS := cS) (cR := cR) (tS := tS) (tP := tP) (kS := kS) (vS := vS) (adC := adC) (adM := adM) hr hlocks ⟨⟨S, hA, hK4, wC_ROok tS tP kS vS, hro⟩, hX, hbl, hL⟩ (L + 3) 0 (by omega) (by omega) σ tZ H locs (RR_start u2 u3 u4 u5) hP hD hS ls (lv_sub hl [3, 2, 1, 0] rfl)

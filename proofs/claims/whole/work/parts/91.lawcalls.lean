/-! ===== the law's calls ===== -/
abbrev wLT (cI cB cS cR : ClassId) : List (ClassId × FieldType) := [(cI, .int), (cB, .byte), (cS, .object RX5), (cR, .array .int)]
abbrev lwA (s : State) : Nat → Prop := fun q : Nat => s.heap.size ≤ q
def LX (p : Program) (s : State) (m : MethodId) (c : Code) (D : va_G) (cI cB cS cR : ClassId) (tS tP : Nat) (kS vS : Nat → Nat) (b L : Nat) (xs : Nat → Int32) : Prop :=
  wx_C p s m #[Value.ref b] c cL_law 4 RL wsL_law D (wLT cI cB cS cR) (wC_RO tS tP kS vS) (lwA s) ∧ va_X b L xs s s.heap ∧ b < s.heap.size ∧ L ≤ 1536
section LW
variable {p : Program} {l : Launch} {e : Env} {R : Room} {s : State} {m : MethodId} {args : Array Value} {below : List Frame} {meth : Method} {c : Code} {H : Heap} {locs : List Loc} {Q : State → Prop} {cells slots : Nat}
variable {cc : ByteArray} {nL pc : Nat} {own : String} {Ts : List Cond} {D : va_G} {tys : List (ClassId × FieldType)} {RO : (Nat → Prop) → State → Heap → Prop} {A : Nat → Prop} {N : Nat} {E : Nat → (Nat → Int32) → va_E} {ad : Nat → Nat} {σ : wx_Z} {ls : Array Slot} {rest : List Value}
theorem lw_left {X Y : va_W} (hP : va_P D vwCl (X ++ Y) H) : va_P D vwCl X H := fun k q hq => hP k q (by rw [List.getElem?_append_left ((List.getElem?_eq_some_iff.mp hq).1)]; exact hq)
theorem lw_leftD {X Y : va_W} (hD : va_D A (X ++ Y)) : va_D A X := by
  have h : ∀ (k : Nat) (q : Nat × va_E), X[k]? = some q → (X ++ Y)[k]? = some q := fun k q hq => by rw [List.getElem?_append_left ((List.getElem?_eq_some_iff.mp hq).1)]; exact hq
  exact ⟨fun i j p q hi hj e => hD.1 i j p q (h i p hi) (h j q hj) e, fun k q hq => hD.2 k q (h k q hq)⟩
theorem lw_join {X Y X1 : va_W} {H1 : Heap} (hP : va_P D vwCl (X ++ Y) H) (hD : va_D A (X ++ Y)) (hk : ∀ q : Nat, q < H.size → ¬ va_A X H.size q → H1[q]? = H[q]?) (hF : ∀ q, va_A X H.size q → A q) (hP1 : va_P D vwCl X1 H1) (hD1 : va_D (va_A X H.size) X1) : va_P D vwCl (Y ++ X1) H1 ∧ va_D A (Y ++ X1) := by
  refine va_join (wr := Y) (w1 := X1) (wc := X) hP hD (List.range X.length) ((List.range Y.length).map (fun i => X.length + i)) ?_ ?_ ?_ ?_ hk hF hP1 hD1
  · apply List.ext_getElem?
    intro i
    rw [List.getElem?_map, List.getElem?_map]
    by_cases hi : i < X.length
    · rw [List.getElem?_range hi]
      show some ((X ++ Y)[i]?) = (X[i]?).map some
      rw [List.getElem?_append_left hi, List.getElem?_eq_getElem hi]
      rfl
    · rw [List.getElem?_eq_none (by rw [List.length_range]; omega), List.getElem?_eq_none (by omega)]
      rfl
  · apply List.ext_getElem?
    intro i
    rw [List.getElem?_map, List.getElem?_map, List.getElem?_map]
    by_cases hi : i < Y.length
    · rw [List.getElem?_range hi]
      show some ((X ++ Y)[X.length + i]?) = (Y[i]?).map some
      rw [List.getElem?_append_right (by omega), Nat.add_sub_cancel_left, List.getElem?_eq_getElem hi]
      rfl
    · rw [List.getElem?_eq_none (by rw [List.length_range]; omega), List.getElem?_eq_none (by omega)]
      rfl
  · apply va_nd_of
    unfold List.Nodup
    rw [List.pairwise_map]
    exact List.Pairwise.imp (fun {a b} h => by omega) List.nodup_range
  · intro i hi h
    obtain ⟨j, -, rfl⟩ := List.mem_map.mp hi
    have := List.mem_range.mp h
    omega
theorem lw_ci {Y : va_W} (hA : ∀ q : Nat, s.heap.size ≤ q → A q) (hP : va_P D vwCl (wx_w N E ad σ ++ Y) H) (hD : va_D A (wx_w N E ad σ ++ Y)) (hS : va_S A s.heap H locs) {K' : Int32 → wx_Z → Prop} {a : Array Value} {st0 : List Value} (hr : va_Run p l e R s m args below meth c H locs cells slots 0 0 (F0 m pc ls st0) rest (va_Qi K' (wx_B D tys N E ad (va_A (wx_w N E ad σ) H.size)) (va_A (wx_w N E ad σ) H.size) a) (va_A (wx_w N E ad σ) H.size))
    (kk : ∀ (r : Int32) (σ' : wx_Z) (H1 : Heap) (locs1 : List Loc), K' r σ' → va_P D vwCl (Y ++ wx_w N E ad σ') H1 → va_D A (Y ++ wx_w N E ad σ') → va_S A s.heap H1 locs1 → W p l e R s m args below meth c H1 locs1 (cells + 0) (slots + 0) Q (F0 m (pc + 3) ls (.int r :: rest))) : W p l e R s m args below meth c H locs cells slots Q (F0 m pc ls st0) := by
  have hF := wx_free (lw_leftD hD) hS hA
  refine va_calli hr hS (fun q _ h => hF q h) hF (fun r u t H1 locs1 ht hvm hw hB hz1 hk1 hS1 => ?_)
  obtain ⟨hP1, hK1, hD1⟩ := hB
  rw [ht] at hP1
  obtain ⟨hP2, hD2⟩ := lw_join hP hD hk1 hF hP1 hD1
  exact kk r u H1 locs1 hw hP2 hD2 hS1
theorem lw_cl {Y : va_W} (hA : ∀ q : Nat, s.heap.size ≤ q → A q) (hP : va_P D vwCl (wx_w N E ad σ ++ Y) H) (hD : va_D A (wx_w N E ad σ ++ Y)) (hS : va_S A s.heap H locs) {K' : Int64 → wx_Z → Prop} {a : Array Value} {st0 : List Value} (hr : va_Run p l e R s m args below meth c H locs cells slots 0 0 (F0 m pc ls st0) rest (va_Ql K' (wx_B D tys N E ad (va_A (wx_w N E ad σ) H.size)) (va_A (wx_w N E ad σ) H.size) a) (va_A (wx_w N E ad σ) H.size))
    (kk : ∀ (r : Int64) (σ' : wx_Z) (H1 : Heap) (locs1 : List Loc), K' r σ' → va_P D vwCl (Y ++ wx_w N E ad σ') H1 → va_D A (Y ++ wx_w N E ad σ') → va_S A s.heap H1 locs1 → W p l e R s m args below meth c H1 locs1 (cells + 0) (slots + 0) Q (F0 m (pc + 3) ls (.long r :: rest))) : W p l e R s m args below meth c H locs cells slots Q (F0 m pc ls st0) := by
  have hF := wx_free (lw_leftD hD) hS hA
  refine va_calll hr hS (fun q _ h => hF q h) hF (fun r u t H1 locs1 ht hvm hw hB hz1 hk1 hS1 => ?_)
  obtain ⟨hP1, hK1, hD1⟩ := hB
  rw [ht] at hP1
  obtain ⟨hP2, hD2⟩ := lw_join hP hD hk1 hF hP1 hD1
  exact kk r u H1 locs1 hw hP2 hD2 hS1
end LW
set_option maxHeartbeats 4000000 in
set_option maxRecDepth 100000 in
theorem lw_k0 {p : Program} {l : Launch} {e : Env} {s : State} {m : MethodId} {below : List Frame} {meth : Method} {c : Code} {H : Heap} {locs : List Loc} {Q : State → Prop} {D : va_G} {cI cB cS cR : ClassId} {tS tP : Nat} {kS vS : Nat → Nat} {adC adM : Nat → Nat} {b L i : Nat} {xs : Nat → Int32} {σ τ : wx_Z} {ls : Array Slot} (C0 : LX p s m c D cI cB cS cR tS tP kS vS b L xs) (hi : i + 2 < L) (hR : RR σ τ) (hP : va_P D vwCl (wx_w 58 (wC_E cI cB cS cR adC) adC σ ++ wx_w 14 (wM_E cI adM) adM τ) H) (hD : va_D (lwA s) (wx_w 58 (wC_E cI cB cS cR adC) adC σ ++ wx_w 14 (wM_E cI adM) adM τ)) (hS : va_S (lwA s) s.heap H locs) (hl : lv_has ls 4 [(0, .ref b), (1, .ref (adC 0)), (2, .ref (adM 0)), (3, .int (nI i))]) (nxt : ∀ (σ' τ' : wx_Z) (H : Heap) (locs : List Loc), RR σ' τ' → va_P D vwCl (wx_w 58 (wC_E cI cB cS cR adC) adC σ' ++ wx_w 14 (wM_E cI adM) adM τ') H → va_D (lwA s) (wx_w 58 (wC_E cI cB cS cR adC) adC σ' ++ wx_w 14 (wM_E cI adM) adM τ') → va_S (lwA s) s.heap H locs → W p l e room_1 s m #[Value.ref b] below meth c H locs 72 2932 Q (F0 m 823 ls [])) : W p l e room_1 s m #[Value.ref b] below meth c H locs 72 2932 Q (F0 m 176 ls []) := by
  obtain ⟨C, hX, hbl, hL⟩ := C0
  obtain ⟨⟨hx, hb, hml, hown, hts⟩, hA, hK, -, hro⟩ := id C
  have CM : wx_C p s m #[Value.ref b] c cL_law 4 RL wsL_law D [(cI, .int)] wx_T0 (lwA s) := ⟨C.1, hA, hK.sub [0] rfl, wx_T0_ok, trivial⟩
  have hbA : ¬ lwA s b := Nat.not_le.mpr hbl
  have i1 : vp_in (nI i + 1) L := by rw [nI_1]; exact vp_in_nI (by omega) (by omega)
  have i2 : vp_in (nI i + 2) L := by rw [show (2 : Int32) = nI 2 from rfl, nI_add]; exact vp_in_nI (by omega) (by omega)
  have h := e_code (xs (nI i + 1).toNatClampNeg) (xs (nI i + 2).toNatClampNeg) hR
  refine lv_aload_n hx hb dL_law_176 rfl (lv_at hl 1 rfl) ?_
  refine lv_aload_n hx hb dL_law_177 rfl (lv_at hl 0 rfl) ?_
  refine lv_iload_n hx hb dL_law_178 rfl (lv_at hl 3 rfl) ?_
  refine lv_iconst (v := 1) hx hb dL_law_179 (by decide) ?_
  refine lv_iadd hx hb dL_law_180 ?_
  refine va_sld hx hb hX hbl hbA hS i1 dL_law_181 ?_
  refine lv_aload_n hx hb dL_law_182 rfl (lv_at hl 0 rfl) ?_
  refine lv_iload_n hx hb dL_law_183 rfl (lv_at hl 3 rfl) ?_
  refine lv_iconst (v := 2) hx hb dL_law_184 (by decide) ?_
  refine lv_iadd hx hb dL_law_185 ?_
  refine va_sld hx hb hX hbl hbA hS i2 dL_law_186 ?_
  refine lw_ci hA hP hD hS (va_runV (As := [.int (xs (nI i + 1).toNatClampNeg), .int (xs (nI i + 2).toNatClampNeg)]) (rest := []) C.1 (mtX8_code (l := l) (D := D) (sz := H.size) h) (cwV 2 hts gL_law_X8_code rfl rfl rfl (by decide +kernel) ⟨Nat.le_of_ble_eq_true rfl, Nat.le_of_ble_eq_true rfl⟩) (wx_pv C (lw_left hP) (lw_leftD hD) hS (q := 0) (ci := 8) (by decide) (eC_0 _) rfl) rfl rfl hl.1 rfl (lv_room (Nat.le_of_ble_eq_true rfl)) dL_law_187 ⟨Nat.le_of_ble_eq_true rfl, Nat.le_of_ble_eq_true rfl⟩) (fun r1 σ' H locs h hP hD hS => ?_)
  refine lv_aload_n hx hb dL_law_190 rfl (lv_at hl 2 rfl) ?_
  refine lv_aload_n hx hb dL_law_191 rfl (lv_at hl 0 rfl) ?_
  refine lv_iload_n hx hb dL_law_192 rfl (lv_at hl 3 rfl) ?_
  refine lv_iconst (v := 1) hx hb dL_law_193 (by decide) ?_
  refine lv_iadd hx hb dL_law_194 ?_
  refine va_sld hx hb hX hbl hbA hS i1 dL_law_195 ?_
  refine lv_aload_n hx hb dL_law_196 rfl (lv_at hl 0 rfl) ?_
  refine lv_iload_n hx hb dL_law_197 rfl (lv_at hl 3 rfl) ?_
  refine lv_iconst (v := 2) hx hb dL_law_198 (by decide) ?_
  refine lv_iadd hx hb dL_law_199 ?_
  refine va_sld hx hb hX hbl hbA hS i2 dL_law_200 ?_
  refine lw_ci hA hP hD hS (va_runV (As := [.int (xs (nI i + 1).toNatClampNeg), .int (xs (nI i + 2).toNatClampNeg)]) (rest := [.int r1]) CM.1 (mtX9_code (l := l) (D := D) (sz := H.size) h) (cwV 2 hts gL_law_X9_code rfl rfl rfl (by decide +kernel) ⟨Nat.le_of_ble_eq_true rfl, Nat.le_of_ble_eq_true rfl⟩) (wx_pv CM (lw_left hP) (lw_leftD hD) hS (q := 0) (ci := 9) (by decide) (eM_0 _ _ _) rfl) rfl rfl hl.1 rfl (lv_room (Nat.le_of_ble_eq_true rfl)) dL_law_201 ⟨Nat.le_of_ble_eq_true rfl, Nat.le_of_ble_eq_true rfl⟩) (fun r2 τ' H locs h hP hD hS => ?_)
  exact lv_icmp_eq (tgt := 823) hx hb dL_law_204 (by decide) (fun _ => nxt σ' τ' H locs h.2 hP hD hS) (fun z => absurd h.1 z)

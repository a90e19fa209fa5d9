/-! ===== Past(): a ring of eight States ===== -/
def sL (a : Nat → Nat × (Nat × Nat × Nat)) (n : Nat) (cI : ClassId) : va_W := (List.range n).flatMap (fun j => sW (a j).1 (a j).2 cI)
def rfn (a : Nat → Nat × (Nat × Nat × Nat)) (n : Nat) : Nat → Option Nat := fun j => if j < n then some (a j).1 else none
theorem sL_up (a : Nat → Nat × (Nat × Nat × Nat)) (i q : Nat) (u : Nat × Nat × Nat) (cI : ClassId) : sL a i cI ++ sW q u cI = sL (va_up a i (q, u)) (i + 1) cI := by
  unfold sL
  rw [List.range_succ, List.flatMap_append]
  congr 1
  · rw [List.flatMap_def, List.flatMap_def]
    refine congrArg List.flatten (List.map_congr_left (fun j hj => ?_))
    have := List.mem_range.mp hj
    rw [va_up_ne _ _ (by omega)]
  · simp [va_up_self]
theorem rfn_up (a : Nat → Nat × (Nat × Nat × Nat)) (i q : Nat) (u : Nat × Nat × Nat) : va_up (rfn a i) i (some q) = rfn (va_up a i (q, u)) (i + 1) := by
  funext j
  unfold rfn
  by_cases h : j = i
  · subst h
    rw [va_up_self, if_pos (by omega), va_up_self]
  · rw [va_up_ne _ _ h, va_up_ne _ _ h]
    by_cases h2 : j < i
    · rw [if_pos h2, if_pos (by omega)]
    · rw [if_neg h2, if_neg (by omega)]
theorem vaD_cong {A : Nat → Prop} {w w' : va_W} (h : ∀ (k : Nat) (q : Nat × va_E), w'[k]? = some q → ∃ q', w[k]? = some q' ∧ q'.1 = q.1) (hD : va_D A w) : va_D A w' := by
  refine ⟨fun i j p q hi hj e => ?_, fun k q hq => ?_⟩
  · obtain ⟨p', h1, e1⟩ := h i p hi
    obtain ⟨q', h2, e2⟩ := h j q hj
    exact hD.1 i j p' q' h1 h2 (by rw [e1, e2]; exact e)
  · obtain ⟨q', h1, e1⟩ := h k q hq
    rw [← e1]; exact hD.2 k q' h1
def pW (h0 r : Nat) (a : Nat → Nat × (Nat × Nat × Nat)) (cI cS : ClassId) : va_W := (h0, .inr (4, [.ref r, .int 0, .int 0])) :: (r, .inl (cS, 8, .inr (.inr (.inr (.inr (fun j => some (a j).1)))))) :: sL a 8 cI
set_option maxHeartbeats 4000000 in
set_option maxRecDepth 100000 in
theorem ctX4 (l : Launch) (D : va_G) (cI cB : ClassId) {RO : (Nat → Prop) → State → Heap → Prop} (hRO : wx_RoT RO) (hNw : ∀ A U H, RO A U H → va_Nw (.methodLinkNest RX5 11 yX1_init RX8) U ∧ va_Nw (.methodLinkNest RX4 17 yX5_init RX8) U ∧ va_AO RX5 U) (h0 sz : Nat) : Met l yX4_init wsX4_init ({ frames := 3, cells := 33, slots := 584, locals := 52 }) (ct_Pre D [(cI, .int), (cB, .byte)] RO [(h0, .inr (4, [.null, .int 0, .int 0]))] sz [.ref h0]) (va_Qv (fun _ : ClassId × Nat × (Nat → Nat × (Nat × Nat × Nat)) => True) (ct_B D (fun u => [(cI, .int), (cB, .byte), (u.1, .object RX5)]) (fun u => pW h0 u.2.1 u.2.2 cI u.1) (va_A [(h0, .inr (4, [.null, .int 0, .int 0]))] sz)) (va_A [(h0, .inr (4, [.null, .int 0, .int 0]))] sz)) 33 584 (va_A [(h0, .inr (4, [.null, .int 0, .int 0]))] sz) := by
  refine ct_met (cc := cX4_init) (maxL := 2) rfl rfl (by decide) rfl (Nat.le_of_ble_eq_true rfl) ?_
  intro p e s m args below meth c A Q ls S hin hA hro hK ret hP hD hS hl
  obtain ⟨hx, hb, hml, hown, hts⟩ := id S
  obtain ⟨n1, n2, n3⟩ := hNw _ _ _ hro
  have hl : lv_has ls 2 [(0, .ref h0)] := hl
  refine lv_aload_n hx hb dX4_init_0 rfl (lv_at hl 0 rfl) ?_
  refine W.objInit hx hb hown (hts (.methodLink RX4 3 objectInit) (by decide +kernel)) (hts (.instanceMethod objectInit) (by decide +kernel)) (hts (.code objectInit ⟨#[0xb1]⟩ 1 none) (by decide +kernel)) rfl (by rw [hml]; exact hl.1) rfl dX4_init_1 (Nat.le_of_ble_eq_true rfl) (Nat.le_of_ble_eq_true rfl) ?_
  refine W.eq (g2 := F0 m 4 ls []) rfl ?_
  refine lv_aload_n hx hb dX4_init_4 rfl (lv_at hl 0 rfl) ?_
  refine lv_bipush (v := 8) hx hb dX4_init_5 (by decide) ?_
  refine va_newq (C := RX5) (N' := 8) hx hb hown (hts (.classLink RX4 9 RX5) (by decide +kernel)) n3 hK hP hD hS hA (by decide) rfl (Nat.le_of_ble_eq_true rfl) (Nat.le_of_ble_eq_true rfl) (Nat.le_of_ble_eq_true rfl) dX4_init_7 (fun r cS H hK hP hD hS => ?_)
  have hK : va_K D vwCl [(cI, .int), (cB, .byte), (cS, .object RX5)] s := hK
  have hP : va_P D vwCl [(h0, .inr (4, [.null, .int 0, .int 0])), (r, .inl (cS, 8, .inr (.inr (.inr (.inr (fun _ => none))))))] H := hP
  have hD : va_D A [(h0, .inr (4, [.null, .int 0, .int 0])), (r, .inl (cS, 8, .inr (.inr (.inr (.inr (fun _ => none))))))] := hD
  refine va_putF (D := D) (ci := 4) (v := .ref r) (ty := .array (.object RX5)) (C := RX4) (T := TX4) (N := 3) hx hb hts (by decide +kernel) tyX4 tyX4_ok nmX4 hown hK hP hD hS 0 rfl rfl 0 (by decide) (hts (.fieldLink RX4 11 "PlusCodes$Past" "ring" "[LPlusCodes$State;") (by decide +kernel)) (fun _ h9 => h9) rfl hin rfl (by decide +kernel) rfl rfl (Nat.le_of_ble_eq_true rfl) dX4_init_10 (fun H locs hP hD hS => ?_)
  have loop : ∀ (d i : Nat) (a : Nat → Nat × (Nat × Nat × Nat)) (H : Heap) (locs : List Loc) (ls : Array Slot), i + d = 8 → va_P D vwCl ((h0, .inr (4, [.ref r, .int 0, .int 0])) :: (r, .inl (cS, 8, .inr (.inr (.inr (.inr (rfn a i)))))) :: sL a i cI) H → va_D A ((h0, .inr (4, [.ref r, .int 0, .int 0])) :: (r, .inl (cS, 8, .inr (.inr (.inr (.inr (rfn a i)))))) :: sL a i cI) → va_S A s.heap H locs → lv_has ls 2 [(0, .ref h0), (1, .int (nI i))] → W p l e ({ frames := 3, cells := 33, slots := 584, locals := 52 }) s m args below meth c H locs (1 + 4 * i) (8 + 72 * i) Q (F0 m 15 ls []) := by
    intro d
    induction d with
    | zero =>
      intro i a H locs ls hi hP hD hS hl
      have hi : i = 8 := by omega
      subst hi
      refine lv_iload_n hx hb dX4_init_15 rfl (lv_at hl 1 rfl) ?_
      refine lv_bipush (v := 8) hx hb dX4_init_16 (by decide) ?_
      refine lv_icmp_ge (tgt := 40) hx hb dX4_init_18 (by decide) (fun _ => ?_) (fun q => absurd (by decide) q)
      refine ret (cS, r, a) H locs 40 ls trivial ?_ hK ?_ hS dX4_init_40
      · intro k q hq
        rcases k with _ | _ | k
        · exact hP 0 q hq
        · cases hq
          have := hP 1 _ rfl
          show H[r]? = some (vp_cell _ _)
          have h2 : H[r]? = some (vp_cell cS (8, .inr (.inr (.inr (.inr (rfn a 8)))))) := this
          rw [h2]
          refine congrArg some ?_
          rw [vp_cell_q, vp_cell_q]
          exact arrV_cong (fun j hj => by unfold rfn; rw [if_pos hj])
        · exact hP (k + 2) q hq
      · refine vaD_cong (fun k q hq => ?_) hD
        rcases k with _ | _ | k
        · exact ⟨q, hq, rfl⟩
        · cases hq; exact ⟨_, rfl, rfl⟩
        · exact ⟨q, hq, rfl⟩
    | succ d ih =>
      intro i a H locs ls hi hP hD hS hl
      refine lv_iload_n hx hb dX4_init_15 rfl (lv_at hl 1 rfl) ?_
      refine lv_bipush (v := 8) hx hb dX4_init_16 (by decide) ?_
      refine lv_icmp_ge (tgt := 40) hx hb dX4_init_18 (by decide) (fun q => ?_) (fun _ => ?_)
      · rw [show (8 : Int32) = nI 8 from rfl, nI_leI (by omega) (by omega)] at q
        omega
      refine lv_aload_n hx hb dX4_init_21 rfl (lv_at hl 0 rfl) ?_
      refine va_get (D := D) (ci := 4) (v := .ref r) (C := RX4) (T := TX4) (N := 3) hx hb hts (by decide +kernel) hown hK hP 0 rfl rfl 0 (by decide) (hts (.fieldLink RX4 11 "PlusCodes$Past" "ring" "[LPlusCodes$State;") (by decide +kernel)) (fun _ h9 => h9) rfl dX4_init_22 ?_
      refine lv_iload_n hx hb dX4_init_25 rfl (lv_at hl 1 rfl) ?_
      refine va_new (ci := 5) (fs := [.null, .null, .int 0]) (C := RX5) (T := TX5) (N := 3) hx hb hts (by decide +kernel) tyX5 tyX5_ok hown (hts (.classLink RX4 9 RX5) (by decide +kernel)) (hts (.instantiable RX5 3) (by decide +kernel)) (hts (.initialized RX5) (by decide +kernel)) hK hP hD hS hA rfl (fun j hj => by rcases (show j = 0 ∨ j = 1 ∨ j = 2 by omega) with rfl | rfl | rfl <;> rfl) (by show 1 + 4 * i + 1 ≤ 33; omega) (by show 8 + 72 * i + 3 ≤ 584; omega) dX4_init_26 (fun q H hP hD hS => ?_)
      refine lv_dup hx hb dX4_init_29 rfl ?_
      have hK' : va_K D vwCl [(cI, .int), (cB, .byte)] s := hK.sub [0, 1] rfl
      refine ct_cv hA hP hD hS (va_runIN (As := []) (rest := [.ref q, .int (nI i), .ref r]) S (ctX5 l D cI cB hRO (fun A U H h => (hNw A U H h).1) q H.size) ⟨va_cnB 0 hts gX4_init_X5_init_n17 rfl rfl rfl n2 (hts (.initialized RX5) (by decide +kernel)) (by decide +kernel) ⟨Nat.le_of_ble_eq_true rfl, Nat.le_of_ble_eq_true rfl⟩, rfl, hts (.instanceMethod yX5_init) (by decide +kernel)⟩ (ct_pre hRO hro hA hK' hP hD hS) rfl rfl hl.1 rfl (lv_room (Nat.le_of_ble_eq_true rfl)) dX4_init_30 ⟨by show 1 + 4 * i + 1 + 3 ≤ 33; omega, by show 8 + 72 * i + 3 + 69 ≤ 584; omega⟩) (fun u H locs _ _ hP hD hS => ?_)
      have hlen : ((h0, .inr (4, [.ref r, .int 0, .int 0])) :: (r, .inl (cS, 8, .inr (.inr (.inr (.inr (rfn a i)))))) :: sL a i cI : va_W).length = (sL a i cI).length + 2 := rfl
      refine va_astq (r := (RX5, TX5, 3)) hx hb hK hP hD hS 1 2 ((sL a i cI).length + 2) 5 rfl rfl (by rw [List.getElem?_append_right (by rw [hlen]; exact Nat.le_refl _), hlen, Nat.sub_self]; rfl) rfl (vp_in_nI (by omega) (by decide)) dX4_init_33 (fun H locs hP hD hS => ?_)
      rw [nI_clamp (by omega)] at hP hD
      have hP : va_P D vwCl ((h0, .inr (4, [.ref r, .int 0, .int 0])) :: (r, .inl (cS, 8, .inr (.inr (.inr (.inr (va_up (rfn a i) i (some q))))))) :: (sL a i cI ++ sW q u cI)) H := hP
      have hD : va_D A ((h0, .inr (4, [.ref r, .int 0, .int 0])) :: (r, .inl (cS, 8, .inr (.inr (.inr (.inr (va_up (rfn a i) i (some q))))))) :: (sL a i cI ++ sW q u cI)) := hD
      rw [sL_up, rfn_up _ _ _ u] at hP hD
      refine lv_iinc (v := nI i + 1) (lv' := [(1, .int (nI i + 1)), (0, .ref h0)]) hx hb dX4_init_34 hl (k := 1) rfl rfl (by decide) rfl (fun ls hl => ?_)
      refine lv_goto (tgt := 15) hx hb dX4_init_37 (by decide) ?_
      refine W.widen (k := 1 + 4 * (i + 1)) (n := 8 + 72 * (i + 1)) (by omega) (by omega) ?_
      rw [nI_1] at hl
      exact ih (i + 1) _ H locs ls (by omega) hP hD hS (lv_sub hl [1, 0] rfl)
  refine lv_iconst (v := 0) hx hb dX4_init_13 (by decide) ?_
  refine lv_istore_n (lv' := [(1, .int 0), (0, .ref h0)]) hx hb dX4_init_14 rfl hl (by decide) rfl (fun ls hl => ?_)
  exact loop 8 0 (fun _ => (0, 0, 0, 0)) H locs ls (by omega) hP hD hS (lv_sub hl [1, 0] rfl)

/-! ===== the law's loop ===== -/
theorem and31 (v : Int32) : ∃ j : Nat, j < 32 ∧ v &&& 31 = nI j := by
  refine ⟨uI v % 2 ^ 5, Nat.mod_lt _ (by decide), ?_⟩
  have h := fa_mask (uI v) 5
  rw [nI_uI] at h
  exact h
set_option maxHeartbeats 8000000 in
set_option maxRecDepth 100000 in
theorem law_loop {p : Program} {l : Launch} {e : Env} {s : State} {m : MethodId} {below : List Frame} {meth : Method} {c : Code} {D : va_G} {cI cB cS cR : ClassId} {tS tP : Nat} {kS vS : Nat → Nat} {adC adM : Nat → Nat} {b L : Nat} {xs : Nat → Int32} (hr : meth.sig.returnType = ret) (hlocks : meth.locks = false) (C1 : LX p s m c D cI cB cS cR tS tP kS vS b L xs) :
    ∀ (n i : Nat), L + 3 ≤ i + n → i ≤ 1600 → ∀ (σ τ : wx_Z) (H : Heap) (locs : List Loc), RR σ τ → va_P D vwCl (wx_w 58 (wC_E cI cB cS cR adC) adC σ ++ wx_w 14 (wM_E cI adM) adM τ) H → va_D (lwA s) (wx_w 58 (wC_E cI cB cS cR adC) adC σ ++ wx_w 14 (wM_E cI adM) adM τ) → va_S (lwA s) s.heap H locs → ∀ (ls : Array Slot), lv_has ls 4 [(0, .ref b), (1, .ref (adC 0)), (2, .ref (adM 0)), (3, .int (nI i))] → W p l e room_1 s m #[Value.ref b] below meth c H locs 72 2932 (lw_Z below #[Value.ref b] s) (F0 m 18 ls []) := by
  obtain ⟨C, hX, hbl, hL⟩ := id C1
  obtain ⟨⟨hx, hb, hml, hown, hts⟩, hA, hK, -, hro⟩ := id C
  have hbA : ¬ lwA s b := Nat.not_le.mpr hbl
  intro n
  induction n with
  | zero =>
    intro i h1 hi6 σ τ H locs hR hP hD hS ls hl
    refine lv_iload_n hx hb dL_law_18 rfl (lv_at hl 3 rfl) ?_
    refine lv_aload_n hx hb dL_law_19 rfl (lv_at hl 0 rfl) ?_
    refine va_slen hx hb hX hbl hbA hS dL_law_20 ?_
    refine lv_iconst (v := 3) hx hb dL_law_21 (by decide) ?_
    refine lv_isub hx hb dL_law_22 ?_
    refine lv_icmp_gt (tgt := 829) hx hb dL_law_23 (by decide) (fun _ => ?_) (fun z => absurd ?_ z)
    · refine lv_iconst (v := 1) hx hb dL_law_829 (by decide) ?_
      refine va_forget (fun q hq => hS.2.2 q hq) ?_
      refine W.widen (k := 600000) (n := 7302250) (Nat.le_of_ble_eq_true rfl) (Nat.le_of_ble_eq_true rfl) ?_
      exact lw_ret hx hb hr hlocks dL_law_830
    · show Int32.ofNat L - 3 < nI i
      rw [Int32.lt_iff_toInt_lt, show Int32.ofNat L - 3 = nI L - nI 3 from rfl, pk_sub_toInt (by omega) (by omega), nI_toInt (by omega)]
      omega
  | succ n ih =>
    intro i h1 hi6 σ τ H locs hR hP hD hS ls hl
    refine lv_iload_n hx hb dL_law_18 rfl (lv_at hl 3 rfl) ?_
    refine lv_aload_n hx hb dL_law_19 rfl (lv_at hl 0 rfl) ?_
    refine va_slen hx hb hX hbl hbA hS dL_law_20 ?_
    refine lv_iconst (v := 3) hx hb dL_law_21 (by decide) ?_
    refine lv_isub hx hb dL_law_22 ?_
    refine lv_icmp_gt (tgt := 829) hx hb dL_law_23 (by decide) (fun _ => ?_) (fun z => ?_)
    · refine lv_iconst (v := 1) hx hb dL_law_829 (by decide) ?_
      refine va_forget (fun q hq => hS.2.2 q hq) ?_
      refine W.widen (k := 600000) (n := 7302250) (Nat.le_of_ble_eq_true rfl) (Nat.le_of_ble_eq_true rfl) ?_
      exact lw_ret hx hb hr hlocks dL_law_830
    · have hi3 : i + 3 ≤ L := by
        apply Decidable.byContradiction
        intro q
        refine z ?_
        show Int32.ofNat L - 3 < nI i
        rw [Int32.lt_iff_toInt_lt, show Int32.ofNat L - 3 = nI L - nI 3 from rfl, pk_sub_toInt (by omega) (by omega), nI_toInt (by omega)]
        omega
      have nxt : ∀ (σ' τ' : wx_Z) (H : Heap) (locs : List Loc), RR σ' τ' → va_P D vwCl (wx_w 58 (wC_E cI cB cS cR adC) adC σ' ++ wx_w 14 (wM_E cI adM) adM τ') H → va_D (lwA s) (wx_w 58 (wC_E cI cB cS cR adC) adC σ' ++ wx_w 14 (wM_E cI adM) adM τ') → va_S (lwA s) s.heap H locs → W p l e room_1 s m #[Value.ref b] below meth c H locs 72 2932 (lw_Z below #[Value.ref b] s) (F0 m 823 ls []) := by
        intro σ' τ' H locs hR hP hD hS
        refine lv_iinc (v := nI i + 3) (lv' := [(3, .int (nI i + 3)), (0, .ref b), (1, .ref (adC 0)), (2, .ref (adM 0))]) hx hb dL_law_823 hl (k := 3) rfl rfl (by decide) rfl (fun ls hl => ?_)
        refine lv_goto (tgt := 18) hx hb dL_law_826 (by decide) ?_
        rw [show (3 : Int32) = nI 3 from rfl, nI_add] at hl
        exact ih (i + 3) (by omega) (by omega) σ' τ' H locs hR hP hD hS ls (lv_sub hl [1, 2, 3, 0] rfl)
      refine lv_aload_n hx hb dL_law_26 rfl (lv_at hl 0 rfl) ?_
      refine lv_iload_n hx hb dL_law_27 rfl (lv_at hl 3 rfl) ?_
      refine va_sld hx hb hX hbl hbA hS (vp_in_nI (by omega) (by omega)) dL_law_28 ?_
      refine lv_bipush (v := 31) hx hb dL_law_29 (by decide) ?_
      refine lv_iand hx hb dL_law_31 ?_
      obtain ⟨j, hj, ej⟩ := and31 (xs (nI i).toNatClampNeg)
      rw [ej]
      match j, hj with
      | 0, _ => exact lv_tableIn (tgt := 176) hx hb dL_law_32 (by decide) (by decide) (by rfl) (by decide) (lw_k0 C1 (by omega) hR hP hD hS hl nxt)
      | 1, _ => exact lv_tableIn (tgt := 209) hx hb dL_law_32 (by decide) (by decide) (by rfl) (by decide) (lw_k1 C1 (by omega) hR hP hD hS hl nxt)
      | 2, _ => exact lv_tableIn (tgt := 232) hx hb dL_law_32 (by decide) (by decide) (by rfl) (by decide) (lw_k2 C1 (by omega) hR hP hD hS hl nxt)
      | 3, _ => exact lv_tableIn (tgt := 255) hx hb dL_law_32 (by decide) (by decide) (by rfl) (by decide) (lw_k3 C1 (by omega) hR hP hD hS hl nxt)
      | 4, _ => exact lv_tableIn (tgt := 278) hx hb dL_law_32 (by decide) (by decide) (by rfl) (by decide) (lw_k4 C1 (by omega) hR hP hD hS hl nxt)
      | 5, _ => exact lv_tableIn (tgt := 301) hx hb dL_law_32 (by decide) (by decide) (by rfl) (by decide) (lw_k5 C1 (by omega) hR hP hD hS hl nxt)
      | 6, _ => exact lv_tableIn (tgt := 324) hx hb dL_law_32 (by decide) (by decide) (by rfl) (by decide) (lw_k6 C1 (by omega) hR hP hD hS hl nxt)
      | 7, _ => exact lv_tableIn (tgt := 357) hx hb dL_law_32 (by decide) (by decide) (by rfl) (by decide) (lw_k7 C1 (by omega) hR hP hD hS hl nxt)
      | 8, _ => exact lv_tableIn (tgt := 370) hx hb dL_law_32 (by decide) (by decide) (by rfl) (by decide) (lw_k8 C1 (by omega) hR hP hD hS hl nxt)
      | 9, _ => exact lv_tableIn (tgt := 393) hx hb dL_law_32 (by decide) (by decide) (by rfl) (by decide) (lw_k9 C1 (by omega) hR hP hD hS hl nxt)
      | 10, _ => exact lv_tableIn (tgt := 406) hx hb dL_law_32 (by decide) (by decide) (by rfl) (by decide) (lw_k10 C1 (by omega) hR hP hD hS hl nxt)
      | 11, _ => exact lv_tableIn (tgt := 419) hx hb dL_law_32 (by decide) (by decide) (by rfl) (by decide) (lw_k11 C1 (by omega) hR hP hD hS hl nxt)
      | 12, _ => exact lv_tableIn (tgt := 442) hx hb dL_law_32 (by decide) (by decide) (by rfl) (by decide) (lw_k12 C1 (by omega) hR hP hD hS hl nxt)
      | 13, _ => exact lv_tableIn (tgt := 455) hx hb dL_law_32 (by decide) (by decide) (by rfl) (by decide) (lw_k13 C1 (by omega) hR hP hD hS hl nxt)
      | 14, _ => exact lv_tableIn (tgt := 478) hx hb dL_law_32 (by decide) (by decide) (by rfl) (by decide) (lw_k14 C1 (by omega) hR hP hD hS hl nxt)
      | 15, _ => exact lv_tableIn (tgt := 491) hx hb dL_law_32 (by decide) (by decide) (by rfl) (by decide) (lw_k15 C1 (by omega) hR hP hD hS hl nxt)
      | 16, _ => exact lv_tableIn (tgt := 514) hx hb dL_law_32 (by decide) (by decide) (by rfl) (by decide) (lw_k16 C1 (by omega) hR hP hD hS hl nxt)
      | 17, _ => exact lv_tableIn (tgt := 537) hx hb dL_law_32 (by decide) (by decide) (by rfl) (by decide) (lw_k17 C1 (by omega) hR hP hD hS hl nxt)
      | 18, _ => exact lv_tableIn (tgt := 560) hx hb dL_law_32 (by decide) (by decide) (by rfl) (by decide) (lw_k18 C1 (by omega) hR hP hD hS hl nxt)
      | 19, _ => exact lv_tableIn (tgt := 573) hx hb dL_law_32 (by decide) (by decide) (by rfl) (by decide) (lw_k19 C1 (by omega) hR hP hD hS hl nxt)
      | 20, _ => exact lv_tableIn (tgt := 606) hx hb dL_law_32 (by decide) (by decide) (by rfl) (by decide) (lw_k20 C1 (by omega) hR hP hD hS hl nxt)
      | 21, _ => exact lv_tableIn (tgt := 629) hx hb dL_law_32 (by decide) (by decide) (by rfl) (by decide) (lw_k21 C1 (by omega) hR hP hD hS hl nxt)
      | 22, _ => exact lv_tableIn (tgt := 642) hx hb dL_law_32 (by decide) (by decide) (by rfl) (by decide) (lw_k22 C1 (by omega) hR hP hD hS hl nxt)
      | 23, _ => exact lv_tableIn (tgt := 665) hx hb dL_law_32 (by decide) (by decide) (by rfl) (by decide) (lw_k23 C1 (by omega) hR hP hD hS hl nxt)
      | 24, _ => exact lv_tableIn (tgt := 688) hx hb dL_law_32 (by decide) (by decide) (by rfl) (by decide) (lw_k24 C1 (by omega) hR hP hD hS hl nxt)
      | 25, _ => exact lv_tableIn (tgt := 701) hx hb dL_law_32 (by decide) (by decide) (by rfl) (by decide) (lw_k25 C1 (by omega) hR hP hD hS hl nxt)
      | 26, _ => exact lv_tableIn (tgt := 724) hx hb dL_law_32 (by decide) (by decide) (by rfl) (by decide) (lw_k26 C1 (by omega) hR hP hD hS hl nxt)
      | 27, _ => exact lv_tableIn (tgt := 747) hx hb dL_law_32 (by decide) (by decide) (by rfl) (by decide) (lw_k27 C1 (by omega) hR hP hD hS hl nxt)
      | 28, _ => exact lv_tableIn (tgt := 760) hx hb dL_law_32 (by decide) (by decide) (by rfl) (by decide) (lw_k28 C1 (by omega) hR hP hD hS hl nxt)
      | 29, _ => exact lv_tableIn (tgt := 773) hx hb dL_law_32 (by decide) (by decide) (by rfl) (by decide) (lw_k29 C1 (by omega) hR hP hD hS hl nxt)
      | 30, _ => exact lv_tableIn (tgt := 786) hx hb dL_law_32 (by decide) (by decide) (by rfl) (by decide) (lw_k30 C1 (by omega) hR hP hD hS hl nxt)
      | 31, _ => exact lv_tableIn (tgt := 809) hx hb dL_law_32 (by decide) (by decide) (by rfl) (by decide) (lw_k31 C1 (by omega) hR hP hD hS hl nxt)
      | j + 32, h => exact absurd h (by omega)

/-! ===== what the premises give ===== -/
set_option maxHeartbeats 8000000 in
set_option maxRecDepth 100000 in
theorem ro_start {s : State} {b : Nat} (hts : ∀ w ∈ lw_tbl, w.before #[Value.ref b] s = true) (hgv : (Jvm.Cond.and given_1 narrow_1).before #[Value.ref b] s = true) : ∃ (tS tP : Nat) (kS vS : Nat → Nat), wC_RO tS tP kS vS (lwA s) s s.heap ∧ wI_N s := by
  have hs := flat_of_before _ hgv
  have hA : ∀ a : Nat, a < s.heap.size → ¬ lwA s a := fun a h z => absurd h (Nat.not_lt.mpr z)
  obtain ⟨tS, eS, TS⟩ := va_Tof (args := #[Value.ref b]) (s := s) (tm := .static "PlusCodes" "SETS" "[I") (ty := .int) (N := 32) (f := fun j => .int (wC_S j)) (A := lwA s) (by decide) (hs _ (by decide +kernel)) (va_eqt (hs _ (by decide +kernel))) (fun j hj => by
    match j, hj with
    | 0, _ => exact va_eqt (hs _ (by decide +kernel))
    | 1, _ => exact va_eqt (hs _ (by decide +kernel))
    | 2, _ => exact va_eqt (hs _ (by decide +kernel))
    | 3, _ => exact va_eqt (hs _ (by decide +kernel))
    | 4, _ => exact va_eqt (hs _ (by decide +kernel))
    | 5, _ => exact va_eqt (hs _ (by decide +kernel))
    | 6, _ => exact va_eqt (hs _ (by decide +kernel))
    | 7, _ => exact va_eqt (hs _ (by decide +kernel))
    | 8, _ => exact va_eqt (hs _ (by decide +kernel))
    | 9, _ => exact va_eqt (hs _ (by decide +kernel))
    | 10, _ => exact va_eqt (hs _ (by decide +kernel))
    | 11, _ => exact va_eqt (hs _ (by decide +kernel))
    | 12, _ => exact va_eqt (hs _ (by decide +kernel))
    | 13, _ => exact va_eqt (hs _ (by decide +kernel))
    | 14, _ => exact va_eqt (hs _ (by decide +kernel))
    | 15, _ => exact va_eqt (hs _ (by decide +kernel))
    | 16, _ => exact va_eqt (hs _ (by decide +kernel))
    | 17, _ => exact va_eqt (hs _ (by decide +kernel))
    | 18, _ => exact va_eqt (hs _ (by decide +kernel))
    | 19, _ => exact va_eqt (hs _ (by decide +kernel))
    | 20, _ => exact va_eqt (hs _ (by decide +kernel))
    | 21, _ => exact va_eqt (hs _ (by decide +kernel))
    | 22, _ => exact va_eqt (hs _ (by decide +kernel))
    | 23, _ => exact va_eqt (hs _ (by decide +kernel))
    | 24, _ => exact va_eqt (hs _ (by decide +kernel))
    | 25, _ => exact va_eqt (hs _ (by decide +kernel))
    | 26, _ => exact va_eqt (hs _ (by decide +kernel))
    | 27, _ => exact va_eqt (hs _ (by decide +kernel))
    | 28, _ => exact va_eqt (hs _ (by decide +kernel))
    | 29, _ => exact va_eqt (hs _ (by decide +kernel))
    | 30, _ => exact va_eqt (hs _ (by decide +kernel))
    | 31, _ => exact va_eqt (hs _ (by decide +kernel))
    | j + 32, h => exact absurd h (by omega)) hA
  obtain ⟨tP, eP, TP⟩ := va_Tof (args := #[Value.ref b]) (s := s) (tm := .static "PlusCodes" "PLACES_WITHOUT" "[I") (ty := .int) (N := 5) (f := fun j => .int (wC_P j)) (A := lwA s) (by decide) (hs _ (by decide +kernel)) (va_eqt (hs _ (by decide +kernel))) (fun j hj => by
    match j, hj with
    | 0, _ => exact va_eqt (hs _ (by decide +kernel))
    | 1, _ => exact va_eqt (hs _ (by decide +kernel))
    | 2, _ => exact va_eqt (hs _ (by decide +kernel))
    | 3, _ => exact va_eqt (hs _ (by decide +kernel))
    | 4, _ => exact va_eqt (hs _ (by decide +kernel))
    | j + 5, h => exact absurd h (by omega)) hA
  obtain ⟨kS, vS, K1, K2⟩ := vk_Sof (args := #[Value.ref b]) (s := s) (N := 2) (tm := fun i => if i = 0 then .string "PlusCodes" 275 else .string "PlusCodes" 293) (len := [7, 1]) (byt := [[99, 109, 119, 102, 118, 115, 104], [59]]) (A := lwA s)
    (fun i hi => by match i, hi with
      | 0, _ => exact (by decide)
      | 1, _ => exact (by decide)
      | i + 2, h => exact absurd h (by omega))
    (fun i hi => by match i, hi with
      | 0, _ => exact hs _ (by decide +kernel)
      | 1, _ => exact hs _ (by decide +kernel)
      | i + 2, h => exact absurd h (by omega))
    (fun i hi => by match i, hi with
      | 0, _ => exact hs _ (by decide +kernel)
      | 1, _ => exact hs _ (by decide +kernel)
      | i + 2, h => exact absurd h (by omega))
    (fun i hi => by match i, hi with
      | 0, _ => exact hs _ (by decide +kernel)
      | 1, _ => exact hs _ (by decide +kernel)
      | i + 2, h => exact absurd h (by omega))
    (fun i hi => by match i, hi with
      | 0, _ => exact hs _ (by decide +kernel)
      | 1, _ => exact hs _ (by decide +kernel)
      | i + 2, h => exact absurd h (by omega))
    (fun i hi j hj => by match i, hi, j, hj with
      | 0, _, 0, _ => exact hs _ (by decide +kernel)
      | 0, _, 1, _ => exact hs _ (by decide +kernel)
      | 0, _, 2, _ => exact hs _ (by decide +kernel)
      | 0, _, 3, _ => exact hs _ (by decide +kernel)
      | 0, _, 4, _ => exact hs _ (by decide +kernel)
      | 0, _, 5, _ => exact hs _ (by decide +kernel)
      | 0, _, 6, _ => exact hs _ (by decide +kernel)
      | 0, _, j + 7, h => exact absurd (show j + 7 < 7 from h) (by omega)
      | 1, _, 0, _ => exact hs _ (by decide +kernel)
      | 1, _, j + 1, h => exact absurd (show j + 1 < 1 from h) (by omega)
      | i + 2, h, _, _ => exact absurd h (by omega))
    (fun i j hi hj hn => by
      rcases (show (i = 0 ∧ j = 1) ∨ (i = 1 ∧ j = 0) by omega) with ⟨rfl, rfl⟩ | ⟨rfl, rfl⟩
      · first | exact Or.inl (hs _ (by decide +kernel)) | exact Or.inr (hs _ (by decide +kernel))
      · first | exact Or.inl (hs _ (by decide +kernel)) | exact Or.inr (hs _ (by decide +kernel))) hA
  refine ⟨tS, tP, kS, vS, ⟨⟨va_Nw.of (w := .fieldLinkNest RX1 28 RX8 "SETS" "[I" RX8) rfl (hts _ (List.mem_of_getElem? (i := 275) (by decide +kernel))), va_Nw.of (w := .fieldLinkNest RX1 40 RX8 "PLACES_WITHOUT" "[I" RX8) rfl (hts _ (List.mem_of_getElem? (i := 381) (by decide +kernel))), va_Nw.of (w := .methodLinkNest RX1 37 yX8_lowest RX8) rfl (hts _ (List.mem_of_getElem? (i := 362) (by decide +kernel))), va_Nw.of (w := .methodLinkNest RX0 56 yX8_partsOf RX8) rfl (hts _ (List.mem_of_getElem? (i := 455) (by decide +kernel))), va_Nw.of (w := .methodLinkNest RX0 62 yX8_isOdd RX8) rfl (hts _ (List.mem_of_getElem? (i := 458) (by decide +kernel))), va_Nw.of (w := .methodLinkNest RX2 53 yX8_lowest RX8) rfl (hts _ (List.mem_of_getElem? (i := 550) (by decide +kernel)))⟩, ⟨va_Zof (hts _ (List.mem_of_getElem? (i := 276) (by decide +kernel))) (hts _ (List.mem_of_getElem? (i := 64) (by decide +kernel))) eS hA, TS⟩, ⟨va_Zof (hts _ (List.mem_of_getElem? (i := 382) (by decide +kernel))) (hts _ (List.mem_of_getElem? (i := 64) (by decide +kernel))) eP hA, TP⟩, ⟨vk_R.of (hts _ (List.mem_of_getElem? (i := 634) (by decide +kernel))) (K2 0 (by decide)), vk_R.of (hts _ (List.mem_of_getElem? (i := 752) (by decide +kernel))) (K2 1 (by decide))⟩, K1, va_Zof (hts _ (List.mem_of_getElem? (i := 660) (by decide +kernel))) (hts _ (List.mem_of_getElem? (i := 78) (by decide +kernel))) (va_eqi (hs _ (by decide +kernel))) hA⟩, ?_⟩
  exact ⟨va_Nw.of (w := .methodLinkNest RX8 9 yX5_init RX8) rfl (hts _ (List.mem_of_getElem? (i := 93) (by decide +kernel))), va_Nw.of (w := .methodLinkNest RX5 11 yX1_init RX8) rfl (hts _ (List.mem_of_getElem? (i := 99) (by decide +kernel))), va_Nw.of (w := .methodLinkNest RX4 17 yX5_init RX8) rfl (hts _ (List.mem_of_getElem? (i := 156) (by decide +kernel))), va_Nw.of (w := .methodLinkNest RX8 28 yX6_init RX8) rfl (hts _ (List.mem_of_getElem? (i := 170) (by decide +kernel))), va_Nw.of (w := .methodLinkNest RX8 35 yX0_init RX8) rfl (hts _ (List.mem_of_getElem? (i := 192) (by decide +kernel))), va_Nw.of (w := .methodLinkNest RX8 42 yX2_init RX8) rfl (hts _ (List.mem_of_getElem? (i := 219) (by decide +kernel))), va_Nw.of (w := .methodLinkNest RX8 49 yX3_init RX8) rfl (hts _ (List.mem_of_getElem? (i := 231) (by decide +kernel))), va_Nw.of (w := .methodLinkNest RX8 56 yX7_init RX8) rfl (hts _ (List.mem_of_getElem? (i := 241) (by decide +kernel))), va_AO.of (hts _ (List.mem_of_getElem? (i := 155) (by decide +kernel)))⟩

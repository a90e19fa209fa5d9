/-! ===== halves: the reference ===== -/
theorem nI_m1 (D : Nat) : nI (D + 1) + (-1) = nI D := (Int32.sub_eq_add_neg _ _).symm.trans (nI_pred D)
theorem k_plain {τ : wx_Z} {m r D : Nat} {f : Nat → Int32} {K : Int32 → wx_Z → Prop} (h5 : m ≤ 5) (hr : r ≤ 5) (hD : D ≤ 5) (h7 : τ 7 D = nI r) (h8 : τ 8 D = nI m) (hf : ∀ i, i < 2 ^ m → τ 6 (32 * D + i) = f i) (hK : K (if r = 0 then al m f else ea m f) τ) : wpX9_plain τ (nI D) K := by
  have hp := p2_le h5
  have hpos := p2_pos m
  have L : ∀ (d i : Nat), i + d = 2 ^ m → wpX9_plain_7 K (d + 1) τ (nI D) (wd (fun i => decide (¬ 0 ≤ f i)) i) (sI f i) (nI i) := by
    intro d
    induction d with
    | zero =>
      intro i hi
      have hi : i = 2 ^ m := by omega
      subst hi
      unfold wpX9_plain_7
      rw [cln (by omega), h7, h8, sh1 m (by omega)]
      refine ⟨vi (by omega), fun _ => ⟨vi (by omega), fun q => ?_, fun q => ?_⟩, fun q => absurd (Int32.le_refl _) q⟩
      · rw [show (0 : Int32) = nI 0 from rfl, nI_leI (by omega) (by omega)] at q
        rw [if_pos (by omega)] at hK
        unfold al at hK
        refine ⟨fun q2 => ?_, fun q2 => ⟨vi (by omega), ?_⟩⟩
        · rw [if_pos q2] at hK; exact hK
        · rw [if_neg q2] at hK
          exact k_allOf hpos hp hK
      · rw [show (0 : Int32) = nI 0 from rfl, nI_leI (by omega) (by omega)] at q
        rw [if_neg (by omega)] at hK
        exact hK
    | succ d ih =>
      intro i hi
      unfold wpX9_plain_7
      rw [cln (by omega), h8, sh1 m (by omega), show (32 : Int32) = nI 32 from rfl, pk_mul, nI_add, cln (by omega), hf i (by omega)]
      refine ⟨vi (by omega), fun q => ?_, fun _ => ⟨vi (by omega), fun t34 e34 => ⟨vi (by omega), fun q t60 e60 t61 e61 => ?_, fun q t60 e60 t61 e61 => ?_⟩⟩⟩
      · rw [nI_leI (by omega) (by omega)] at q
        omega
      · have ih2 := ih (i + 1) (by omega)
        rw [wd, decide_eq_false (fun z => z q), if_neg (by decide), sI] at ih2
        rw [e34, e60, e61, nI_1]; exact ih2
      · have ih2 := ih (i + 1) (by omega)
        rw [wd, decide_eq_true q, if_pos rfl, sI] at ih2
        rw [e34, e60, e61, nI_1]; exact ih2
  exact ⟨2 ^ m + 1, L (2 ^ m) 0 (by omega)⟩
theorem k_lesser {τ : wx_Z} {x y : Int32} {K : Int32 → wx_Z → Prop} (hK : K (les x y) τ) : wpX9_lesser τ x y K := by
  unfold wpX9_lesser
  apply k_far
  apply k_far
  unfold les at hK
  have g41 : ∀ (u : Int32) (a b : Bool), decide (0 ≤ x) = !a → decide (0 ≤ y) = !b → u = (if ab y ≤ ab x then ab y else ab x) → wpX9_lesser_41 K τ u (b2i a) (b2i b) := by
    intro u a b ha hb hu
    unfold wpX9_lesser_41
    rw [b2i_inj]
    rw [ha, hb, ← hu] at hK
    refine ⟨fun q => ?_, fun q => ?_⟩
    · rw [if_neg (fun z => q (Bool.not_inj z))] at hK; exact hK
    · rw [if_pos (by rw [q])] at hK; exact hK
  have g22 : ∀ u : Int32, u = (if ab y ≤ ab x then ab y else ab x) → wpX9_lesser_22 K τ x y u := by
    intro u hu
    refine ⟨fun q => ⟨fun q2 => ?_, fun q2 => ?_⟩, fun q => ⟨fun q2 => ?_, fun q2 => ?_⟩⟩
    · exact g41 u false false (decide_eq_true q) (decide_eq_true q2) hu
    · exact g41 u false true (decide_eq_true q) (decide_eq_false q2) hu
    · exact g41 u true false (decide_eq_false q) (decide_eq_true q2) hu
    · exact g41 u true true (decide_eq_false q) (decide_eq_false q2) hu
  refine ⟨fun q => ?_, fun q => ?_⟩
  · apply k_far
    exact g22 _ (by rw [if_pos q])
  · apply k_far
    exact g22 _ (by rw [if_neg q])
theorem k_begins {τ : wx_Z} {D : Nat} {x2 x3 : Int32} {K : wx_Z → Prop} (hD : D ≤ 5) (hK : K (wx_up (wx_up (wx_up τ 7 D x2) 8 D x3) 9 D 0)) : wpX9_begins τ (nI D) x2 x3 K := by
  unfold wpX9_begins
  rw [cln (by omega)]
  exact ⟨vi (by omega), fun τ1 e1 => ⟨vi (by omega), fun τ2 e2 => ⟨vi (by omega), fun τ3 e3 => by rw [e3, e2, e1]; exact hK⟩⟩⟩
def sF (D c k : Nat) : Bool := (c == 6 && decide (32 * (D + 1) ≤ k)) || (c == 9 && k == D)
theorem k_136 {τ : wx_Z} {D h : Nat} {f : Nat → Int32} {x1 : Int32} {K : Int32 → wx_Z → Prop} {C : wx_Z → Int32 → Int32 → Prop} (hD : D + 1 ≤ 5) (hh : h ≤ 16) (hf : ∀ i, i < h + h → τ 6 (32 * D + i) = f i) (hK : ∀ τ', md (sF D) τ τ' → (∀ i, i < h → τ' 6 (32 * (D + 1) + i) = les (f i) (f (i + h))) → τ' 9 D = 1 → C τ' x1 (nI (D + 1))) : ∃ n, wpX9_halvesOf_136 K C n τ x1 (nI D) (nI h) (nI (32 * D)) 0 := by
  have L : ∀ (d i : Nat) (τ' : wx_Z), i + d = h → md (sF D) τ τ' → (∀ j, j < i → τ' 6 (32 * (D + 1) + j) = les (f j) (f (j + h))) → wpX9_halvesOf_136 K C (d + 1) τ' x1 (nI D) (nI h) (nI (32 * D)) (nI i) := by
    intro d
    induction d with
    | zero =>
      intro i τ' hi hm h1
      have hi : i = h := by omega
      subst hi
      unfold wpX9_halvesOf_136
      refine ⟨fun _ => ⟨vi (by omega), fun τ2 e2 t e => ?_⟩, fun q => absurd (Int32.le_refl _) q⟩
      rw [cln (by omega)] at e2
      rw [e, nI_1]
      refine hK τ2 ?_ ?_ ?_
      · rw [e2]; exact hm.up (by simp [sF])
      · intro j hj; rw [e2, up_c (by decide)]; exact h1 j hj
      · rw [e2, up_s]
    | succ d ih =>
      intro i τ' hi hm h1
      unfold wpX9_halvesOf_136
      refine ⟨fun q => ?_, fun _ => ?_⟩
      · rw [nI_leI (by omega) (by omega)] at q
        omega
      · rw [show (32 : Int32) = nI 32 from rfl, nI_add, nI_add, nI_add, nI_add, nI_add, cln (by omega), cln (by omega), cln (by omega)]
        refine ⟨vi (by omega), vi (by omega), ?_⟩
        apply k_lesser
        refine ⟨vi (by omega), fun τ2 e2 t e => ?_⟩
        have r1 : τ' 6 (32 * D + i) = f i := (hm 6 _ (by simp [sF]; omega)).trans (hf i (by omega))
        have r2 : τ' 6 (32 * D + h + i) = f (i + h) := by
          rw [show 32 * D + h + i = 32 * D + (i + h) by omega]
          exact (hm 6 _ (by simp [sF]; omega)).trans (hf (i + h) (by omega))
        rw [r1, r2, show 32 * D + 32 + i = 32 * (D + 1) + i by omega] at e2
        rw [e, nI_1, e2]
        refine ih (i + 1) _ (by omega) (hm.up (by simp [sF])) ?_
        intro j hj
        by_cases q : j = i
        · subst q; rw [up_s]
        · rw [up_k (by omega)]; exact h1 j (by omega)
  exact ⟨h + 1, L h 0 τ (by omega) md.rf (fun j hj => absurd hj (by omega))⟩
theorem k_240 {τ : wx_Z} {D h : Nat} {f : Nat → Int32} {x1 : Int32} {K : Int32 → wx_Z → Prop} {C : wx_Z → Int32 → Int32 → Prop} (hD : D + 1 ≤ 5) (hh : h ≤ 16) (hf : ∀ i, i < h + h → τ 6 (32 * D + i) = f i) (hK : ∀ τ', md (sF D) τ τ' → (∀ i, i < h → τ' 6 (32 * (D + 1) + i) = tog f h x1 i) → τ' 9 D = 2 → C τ' x1 (nI (D + 1))) : ∃ n, wpX9_halvesOf_240 K C n τ x1 (nI D) (nI h) (nI (32 * D)) 0 := by
  have L : ∀ (d i : Nat) (τ' : wx_Z), i + d = h → md (sF D) τ τ' → (∀ j, j < i → τ' 6 (32 * (D + 1) + j) = tog f h x1 j) → wpX9_halvesOf_240 K C (d + 1) τ' x1 (nI D) (nI h) (nI (32 * D)) (nI i) := by
    intro d
    induction d with
    | zero =>
      intro i τ' hi hm h1
      have hi : i = h := by omega
      subst hi
      unfold wpX9_halvesOf_240
      refine ⟨fun _ => ⟨vi (by omega), fun τ2 e2 t e => ?_⟩, fun q => absurd (Int32.le_refl _) q⟩
      rw [cln (by omega)] at e2
      rw [e, nI_1]
      refine hK τ2 ?_ ?_ ?_
      · rw [e2]; exact hm.up (by simp [sF])
      · intro j hj; rw [e2, up_c (by decide)]; exact h1 j hj
      · rw [e2, up_s]
    | succ d ih =>
      intro i τ' hi hm h1
      unfold wpX9_halvesOf_240
      refine ⟨fun q => ?_, fun _ => ?_⟩
      · rw [nI_leI (by omega) (by omega)] at q
        omega
      · have r1 : τ' 6 (32 * D + i) = f i := (hm 6 _ (by simp [sF]; omega)).trans (hf i (by omega))
        have r2 : τ' 6 (32 * D + h + i) = f (i + h) := by
          rw [show 32 * D + h + i = 32 * D + (i + h) by omega]
          exact (hm 6 _ (by simp [sF]; omega)).trans (hf (i + h) (by omega))
        rw [show (32 : Int32) = nI 32 from rfl, nI_add, nI_add, nI_add, nI_add, nI_add, cln (by omega), cln (by omega), r1, r2]
        refine ⟨vi (by omega), fun t258 e258 => ⟨vi (by omega), ?_⟩⟩
        apply k_has (by omega)
        rw [b2i_0]
        have go : ∀ u, u = tog f h x1 i → wpX9_halvesOf_240 K C (d + 1) (wx_up τ' 6 (32 * (D + 1) + i) u) x1 (nI D) (nI h) (nI (32 * D)) (nI (i + 1)) := by
          intro u hu
          refine ih (i + 1) _ (by omega) (hm.up (by simp [sF])) ?_
          intro j hj
          by_cases q : j = i
          · subst q; rw [up_s]; exact hu
          · rw [up_k (by omega)]; exact h1 j (by omega)
        refine ⟨fun q => ⟨vi (by omega), fun τ2 e2 t e => ?_⟩, fun q => ⟨vi (by omega), fun τ2 e2 t e => ?_⟩⟩
        · rw [cln (by omega), show 32 * D + 32 + i = 32 * (D + 1) + i by omega, e258] at e2
          rw [e, nI_1, e2]
          exact go _ (by unfold tog; rw [q]; rfl)
        · rw [cln (by omega), show 32 * D + 32 + i = 32 * (D + 1) + i by omega, e258] at e2
          rw [e, nI_1, e2]
          refine go _ ?_
          unfold tog
          cases hb : bt x1 i
          · exact absurd hb q
          · rfl
  exact ⟨h + 1, L h 0 τ (by omega) md.rf (fun j hj => absurd hj (by omega))⟩
def sH (D c k : Nat) : Bool := (c == 6 && decide (32 * (D + 1) ≤ k)) || ((c == 7 || c == 8) && decide (D + 1 ≤ k)) || ((c == 9 || c == 10) && decide (D ≤ k))
theorem sH_F {D c k : Nat} (h : sH D c k = false) : sF D c k = false := by
  unfold sH at h
  unfold sF
  simp at h ⊢
  omega
theorem sH_S {D c k : Nat} (h : sH D c k = false) : sH (D + 1) c k = false := by
  unfold sH at h ⊢
  simp at h ⊢
  omega
theorem hh_2 : ∀ m, m < 5 → ((1 : Int32) <<< (nI (m + 1) &&& 31)) >>> ((1 : Int32) &&& 31) = nI (2 ^ m) := by decide +kernel
theorem k_h44 {K : Int32 → wx_Z → Prop} : ∀ (m r D n : Nat) (x1 : Int32) (τ : wx_Z) (f : Nat → Int32), r ≤ m → D + m ≤ 5 → (∀ i, i < 2 ^ m → τ 6 (32 * D + i) = f i) → τ 7 D = nI r → τ 8 D = nI m → τ 9 D = 0 → (∀ τ', md (sH D) τ τ' → wpX9_halvesOf_44 K n τ' (hv m r f) (nI D + (-1))) → wpX9_halvesOf_44 K (n + fl m r) τ x1 (nI D)
  | 0, r, D, n, x1, τ, f, hr, hD, hf, h7, h8, h9, hK => by
    have hr : r = 0 := by omega
    subst hr
    show wpX9_halvesOf_44 K (n + 1) τ x1 (nI D)
    unfold wpX9_halvesOf_44
    rw [cln (by omega), h7]
    refine ⟨fun q => absurd q (nI_pos (by omega)), fun _ => ⟨vi (by omega), fun t58 _ t63 _ => ⟨vi (by omega), fun _ => ?_, fun q => absurd rfl q⟩⟩⟩
    unfold wpX9_halvesOf_89
    apply k_plain (m := 0) (r := 0) (by omega) (by omega) (by omega) h7 h8 hf
    intro t95 e95
    rw [e95]
    exact hK τ md.rf
  | m + 1, r, D, n, x1, τ, f, hr, hD, hf, h7, h8, h9, hK => by
    have h2 : 2 ^ (m + 1) = 2 ^ m + 2 ^ m := by rw [Nat.pow_succ]; omega
    have hp := p2_le (m := m + 1) (by omega)
    by_cases q0 : r = 0
    · subst q0
      have e1 : fl (m + 1) 0 = 1 := rfl
      rw [e1]
      unfold wpX9_halvesOf_44
      rw [cln (by omega), h7]
      refine ⟨fun q => absurd q (nI_pos (by omega)), fun _ => ⟨vi (by omega), fun t58 _ t63 _ => ⟨vi (by omega), fun _ => ?_, fun q => absurd rfl q⟩⟩⟩
      unfold wpX9_halvesOf_89
      apply k_plain (m := m + 1) (r := 0) (by omega) (by omega) (by omega) h7 h8 hf
      intro t95 e95
      rw [e95]
      have := hK τ md.rf
      rw [hv, if_pos rfl] at this
      exact this
    · by_cases q1 : r = m + 1
      · subst q1
        have e1 : fl (m + 1) (m + 1) = 1 := by rw [fl, if_neg (by omega), if_pos rfl]
        rw [e1]
        unfold wpX9_halvesOf_44
        rw [cln (by omega), h7, h8]
        refine ⟨fun q => absurd q (nI_pos (by omega)), fun _ => ⟨vi (by omega), fun t58 _ t63 _ => ⟨vi (by omega), fun q => ?_, fun _ => ⟨vi (by omega), vi (by omega), fun q => absurd rfl q, fun _ => ?_⟩⟩⟩⟩
        · rw [show (0 : Int32) = nI 0 from rfl, nI_eq (by omega) (by omega)] at q
          omega
        · unfold wpX9_halvesOf_89
          apply k_plain (m := m + 1) (r := m + 1) (by omega) (by omega) (by omega) h7 h8 hf
          intro t95 e95
          rw [e95]
          have := hK τ md.rf
          rw [hv, if_neg (by omega), if_pos rfl] at this
          rw [if_neg (by omega)]
          exact this
      · obtain ⟨r', rfl⟩ : ∃ r', r = r' + 1 := ⟨r - 1, by omega⟩
        rw [hv, if_neg (by omega), if_neg q1, Nat.add_sub_cancel] at hK
        have e1 : n + fl (m + 1) (r' + 1) = n + 1 + fl m (r' + 1) + 1 + fl m r' + 1 := by
          rw [fl, if_neg (by omega), if_neg q1, Nat.add_sub_cancel]
          omega
        rw [e1]
        have n70 : ¬ nI (r' + 1) = 0 := by
          rw [show (0 : Int32) = nI 0 from rfl, nI_eq (by omega) (by omega)]
          omega
        have n78 : ¬ nI (r' + 1) = nI (m + 1) := by
          rw [nI_eq (by omega) (by omega)]
          omega
        unfold wpX9_halvesOf_44
        rw [cln (by omega), h7, h8, h9]
        refine ⟨fun q => absurd q (nI_pos (by omega)), fun _ => ⟨vi (by omega), fun t58 e58 t63 e63 => ⟨vi (by omega), fun q => absurd q n70, fun _ => ⟨vi (by omega), vi (by omega), fun _ => ⟨vi (by omega), fun q => absurd rfl q, fun _ => ⟨vi (by omega), vi (by omega), ?_⟩⟩, fun q => absurd q n78⟩⟩⟩⟩
        rw [hh_2 m (by omega)] at e58
        rw [show (32 : Int32) = nI 32 from rfl, pk_mul] at e63
        rw [nI_1, nI_pred, nI_pred]
        apply k_begins (by omega)
        rw [e58, e63]
        refine k_136 (f := f) (by omega) (by omega) ?_ ?_
        · intro i hi
          rw [up_c (by decide), up_c (by decide), up_c (by decide)]
          exact hf i (by omega)
        intro τ2 d2 g2 p2
        have d02 : md (sH D) τ τ2 := (((md.rf.up (by simp [sH])).up (by simp [sH])).up (by simp [sH])).tr (d2.mono (fun _ _ => sH_F))
        have s7 : τ2 7 (D + 1) = nI r' := by rw [d2 7 _ (by simp [sF]), up_c (by decide), up_c (by decide), up_s]
        have s8 : τ2 8 (D + 1) = nI m := by rw [d2 8 _ (by simp [sF]), up_c (by decide), up_s]
        have s9 : τ2 9 (D + 1) = 0 := by rw [d2 9 _ (by simp [sF]), up_s]
        refine k_h44 m r' (D + 1) _ x1 τ2 _ (by omega) (by omega) g2 s7 s8 s9 ?_
        intro τ3 d3
        have d03 : md (sH D) τ τ3 := d02.tr (d3.mono (fun _ _ => sH_S))
        rw [nI_m1]
        have t7 : τ3 7 D = nI (r' + 1) := (d03 7 D (by simp [sH])).trans h7
        have t8 : τ3 8 D = nI (m + 1) := (d03 8 D (by simp [sH])).trans h8
        have t9 : τ3 9 D = 1 := (d3 9 D (by simp [sH])).trans p2
        generalize ha : hv m r' (fun i => les (f i) (f (i + 2 ^ m))) = a at hK ⊢
        unfold wpX9_halvesOf_44
        rw [cln (by omega), t7, t8, t9]
        refine ⟨fun q => absurd q (nI_pos (by omega)), fun _ => ⟨vi (by omega), fun t58 e58 t63 e63 => ⟨vi (by omega), fun q => absurd q n70, fun _ => ⟨vi (by omega), vi (by omega), fun _ => ⟨vi (by omega), fun _ => ⟨vi (by omega), fun q => absurd rfl q, fun _ => ⟨vi (by omega), fun τ4 e4 => ⟨vi (by omega), vi (by omega), ?_⟩⟩⟩, fun q => absurd q (by decide)⟩, fun q => absurd q n78⟩⟩⟩⟩
        rw [hh_2 m (by omega)] at e58
        rw [show (32 : Int32) = nI 32 from rfl, pk_mul] at e63
        have u7 : τ4 7 D = nI (r' + 1) := by rw [e4, up_c (by decide)]; exact t7
        have u8 : τ4 8 D = nI (m + 1) := by rw [e4, up_c (by decide)]; exact t8
        rw [u7, u8, nI_1, nI_pred]
        apply k_begins (by omega)
        rw [e58, e63]
        refine k_240 (f := f) (by omega) (by omega) ?_ ?_
        · intro i hi
          rw [up_c (by decide), up_c (by decide), up_c (by decide), e4, up_c (by decide)]
          exact (d03 6 _ (by simp [sH]; omega)).trans (hf i (by omega))
        intro τ5 d5 g5 p5
        have d04 : md (sH D) τ τ4 := by rw [e4]; exact d03.up (by simp [sH])
        have d05 : md (sH D) τ τ5 := (((d04.up (by simp [sH])).up (by simp [sH])).up (by simp [sH])).tr (d5.mono (fun _ _ => sH_F))
        have v7 : τ5 7 (D + 1) = nI (r' + 1) := by rw [d5 7 _ (by simp [sF]), up_c (by decide), up_c (by decide), up_s]
        have v8 : τ5 8 (D + 1) = nI m := by rw [d5 8 _ (by simp [sF]), up_c (by decide), up_s]
        have v9 : τ5 9 (D + 1) = 0 := by rw [d5 9 _ (by simp [sF]), up_s]
        have v10 : τ5 10 D = a := by rw [d5 10 _ (by simp [sF]), up_c (by decide), up_c (by decide), up_c (by decide), e4, up_s]
        refine k_h44 m (r' + 1) (D + 1) _ a τ5 _ (by omega) (by omega) g5 v7 v8 v9 ?_
        intro τ6 d6
        have d06 : md (sH D) τ τ6 := d05.tr (d6.mono (fun _ _ => sH_S))
        rw [nI_m1]
        have w7 : τ6 7 D = nI (r' + 1) := (d06 7 D (by simp [sH])).trans h7
        have w8 : τ6 8 D = nI (m + 1) := (d06 8 D (by simp [sH])).trans h8
        have w9 : τ6 9 D = 2 := (d6 9 D (by simp [sH])).trans p5
        have w10 : τ6 10 D = a := (d6 10 D (by simp [sH])).trans v10
        unfold wpX9_halvesOf_44
        rw [cln (by omega), w7, w8, w9, w10]
        refine ⟨fun q => absurd q (nI_pos (by omega)), fun _ => ⟨vi (by omega), fun t58 e58 t63 e63 => ⟨vi (by omega), fun q => absurd q n70, fun _ => ⟨vi (by omega), vi (by omega), fun _ => ⟨vi (by omega), fun _ => ⟨vi (by omega), fun _ => ⟨vi (by omega), fun t332 e332 t333 e333 => ?_⟩, fun q => absurd q (by decide)⟩, fun q => absurd q (by decide)⟩, fun q => absurd q n78⟩⟩⟩⟩
        rw [hh_2 m (by omega)] at e58
        rw [e332, e333, e58]
        exact hK τ6 d06
theorem cm_H {τ τ' : wx_Z} (h : ∀ c k, ¬ (6 ≤ c ∧ c ≤ 10) → τ' c k = τ c k) : cmM τ τ' := fun c k q => h c k (fun z => by
  unfold coreM at q
  simp at q
  omega)
theorem k_halvesOfE {τ : wx_Z} {o m : Nat} {f : Nat → Int32} {K : Int32 → wx_Z → Prop} (ho : τ 1 0 = nI o) (hm : τ 1 1 = nI m) (hom : o ≤ m) (h5 : m ≤ 5) (hf : ∀ i, i < 32 → τ 1 (3 + i) = f i) (hK : ∀ τ', (∀ c k, ¬ (6 ≤ c ∧ c ≤ 10) → τ' c k = τ c k) → K (hv m o f) τ') : wpX9_halvesOf τ K := by
  have hp := p2_le h5
  unfold wpX9_halvesOf
  apply k_order
  apply k_length
  apply k_begins (D := 0) (by omega)
  rw [ho, hm]
  have L : ∀ (d i : Nat) (τ' : wx_Z), i + d = 2 ^ m → (∀ c k, ¬ (6 ≤ c ∧ c ≤ 10) → τ' c k = τ c k) → τ' 7 0 = nI o → τ' 8 0 = nI m → τ' 9 0 = 0 → (∀ j, j < i → τ' 6 j = f j) → wpX9_halvesOf_19 K (d + 1) τ' 0 0 (nI i) := by
    intro d
    induction d with
    | zero =>
      intro i τ' hi hmd h7 h8 h9 h6
      have hi : i = 2 ^ m := by omega
      subst hi
      unfold wpX9_halvesOf_19
      apply k_places ((hmd 1 1 (by omega)).trans hm) h5
      refine ⟨fun _ => ⟨1 + fl m o, ?_⟩, fun q => absurd (Int32.le_refl _) q⟩
      refine k_h44 m o 0 1 0 τ' f hom (by omega) (fun i hi => by rw [show 32 * 0 + i = i by omega]; exact h6 i hi) h7 h8 h9 ?_
      intro τ2 d2
      unfold wpX9_halvesOf_44
      refine ⟨fun _ => hK τ2 (fun c k hc => ?_), fun q => absurd (by decide) q⟩
      rw [d2 c k (by simp [sH]; omega)]
      exact hmd c k hc
    | succ d ih =>
      intro i τ' hi hmd h7 h8 h9 h6
      unfold wpX9_halvesOf_19
      apply k_places ((hmd 1 1 (by omega)).trans hm) h5
      refine ⟨fun q => ?_, fun _ => ?_⟩
      · rw [nI_leI (by omega) (by omega)] at q
        omega
      · unfold wpX9_softOf
        rw [nI_3, cln (by omega), cln (by omega)]
        refine ⟨vi (by omega), vi (by omega), fun τ2 e2 t38 e38 => ?_⟩
        rw [hmd 1 _ (by omega), hf i (by omega)] at e2
        rw [e38, nI_1, e2]
        refine ih (i + 1) _ (by omega) ?_ ?_ ?_ ?_ ?_
        · intro c k hc; rw [up_c (by omega)]; exact hmd c k hc
        · rw [up_c (by decide)]; exact h7
        · rw [up_c (by decide)]; exact h8
        · rw [up_c (by decide)]; exact h9
        · intro j hj
          by_cases q : j = i
          · subst q; rw [up_s]
          · rw [up_k q]; exact h6 j (by omega)
  refine ⟨2 ^ m + 1, L (2 ^ m) 0 _ (by omega) ?_ ?_ ?_ ?_ (fun j hj => absurd hj (by omega))⟩
  · intro c k hc; rw [up_c (by omega), up_c (by omega), up_c (by omega)]
  · rw [up_c (by decide), up_c (by decide), up_s]
  · rw [up_c (by decide), up_s]
  · rw [up_s]
theorem k_halvesOf {τ : wx_Z} {o m : Nat} {f : Nat → Int32} {K : Int32 → wx_Z → Prop} (ho : τ 1 0 = nI o) (hm : τ 1 1 = nI m) (hom : o ≤ m) (h5 : m ≤ 5) (hf : ∀ i, i < 32 → τ 1 (3 + i) = f i) (hK : ∀ τ', cmM τ τ' → K (hv m o f) τ') : wpX9_halvesOf τ K := k_halvesOfE ho hm hom h5 hf (fun τ' h => hK τ' (cm_H h))
theorem fr_H {σ σ' : wx_Z} (h : fH 6 σ σ') : fr scr σ σ' := fun c hc => h c (fun z => hc (by
  rcases (show c = 48 ∨ c = 49 ∨ c = 50 ∨ c = 51 ∨ c = 52 ∨ c = 53 by omega) with rfl | rfl | rfl | rfl | rfl | rfl <;> decide))
theorem e_halvesOf {σ τ : wx_Z} (h : RR σ τ) : wpX8_halves σ (fun a σ' => wpX9_halvesOf τ (fun a' τ' => a = a' ∧ RR σ' τ')) := by
  obtain ⟨o, m, x, c, n, hx⟩ := id (RR.rx h)
  unfold wpX8_halves
  apply q_solve (by omega) hx.co
  intro σ1 f1
  apply k_halvesOf (f := σ (cSo 0)) hx.t0 hx.t1 hx.hom hx.h5 (fun i hi => hx.ts hi)
  intro τ1 d1
  exact ⟨rfl, (h.frC (fr_H f1)).frM d1⟩
theorem e_halves {σ τ : wx_Z} (h : RR σ τ) : wpX8_halves σ (fun a σ' => wpX9_halves τ (fun a' τ' => a = a' ∧ RR σ' τ')) := e_halvesOf h

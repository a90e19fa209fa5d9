/-! ===== votes, vote, mends ===== -/
theorem fr_45 {σ σ' : wx_Z} (h : fr [45] σ σ') : fr scr σ σ' := h.mono (fun c hc => by simp at hc; subst hc; decide)
theorem e_votes {σ τ : wx_Z} (h : RR σ τ) : wpX8_votes σ (fun a σ' => wpX9_votes τ (fun a' τ' => a = a' ∧ RR σ' τ')) := by
  obtain ⟨o, m, x, c, n, hx⟩ := id (RR.rx h)
  unfold wpX8_votes
  apply q_hold hx.co hx.hw
  intro σ1 f1 _ b1
  show wpX9_votes τ _
  unfold wpX9_votes
  apply k_votesNow hx.t0 hx.t1 hx.hom hx.h5
  intro τ1 d1 e6 _ _ _ _
  refine ⟨?_, (h.frC (fr_45 f1)).frM (cm_Vo d1)⟩
  rw [b1.1, e6, hx.tw]
theorem e_vote {σ τ : wx_Z} (x : Int32) (h : RR σ τ) : wpX8_vote σ x (fun a σ' => wpX9_vote τ x (fun a' τ' => a = a' ∧ RR σ' τ')) := by
  obtain ⟨o, m, x', c, n, hx⟩ := id (RR.rx h)
  unfold wpX8_vote
  apply q_hold hx.co hx.hw
  intro σ1 f1 e1 b1
  have hR1 := h.frC (fr_45 f1)
  have ew : σ1 (cSt 0) 2 = σ (cSt 0) 2 := by rw [f1 (cSt 0) (by decide)]
  have km : ∀ K : Int32 → wx_Z → Prop, 0 ≤ x ∧ x ≤ 3 → (∀ τ1, md sVo τ τ1 → τ1 0 7 = wMs m (tl o m) (vall o m (τ 1 2)).2.1 → τ1 0 8 = (vall o m (τ 1 2)).2.2.1 → τ1 0 9 = (vall o m (τ 1 2)).2.2.2.1 → τ1 0 10 = (vall o m (τ 1 2)).2.2.2.2 →
      ((¬ x = 0 → ((¬ x = 1 → ((¬ x = 2 → K (τ1 0 10) τ1) ∧ (x = 2 → K (τ1 0 9) τ1))) ∧ (x = 1 → K (τ1 0 8) τ1))) ∧ (x = 0 → (wpX9_theWord τ1 <| fun r28 σ28 => (wpX9_bits σ28 (r28 ^^^ (σ28 0 7)) <| fun r36 σ36 => K r36 σ36))))) → wpX9_vote τ x K := by
    intro K hr hK
    unfold wpX9_vote
    rw [show (0 : Int64) = (0 : Int32).toInt64 from rfl, show (3 : Int64) = (3 : Int32).toInt64 from rfl]
    apply k_in
    · intro _ _
      refine ⟨fun _ => ?_, fun z => absurd z (by decide)⟩
      apply k_votesNow hx.t0 hx.t1 hx.hom hx.h5
      intro τ1 d1 _ e7 e8 e9 e10
      exact hK τ1 d1 e7 e8 e9 e10
    · intro z
      exact absurd (in_iff.mpr hr) z
  refine ⟨fun q => ?_, fun q => ?_, fun q => ?_, fun q => ?_, fun q0 q1 q2 q3 => ?_⟩
  · subst q
    apply k_bitCount
    refine km _ (by decide) (fun τ1 d1 e7 e8 e9 e10 => ⟨fun z => absurd rfl z, fun _ => ?_⟩)
    apply k_theWord
    apply k_bits
    refine ⟨?_, hR1.frM (cm_Vo d1)⟩
    rw [e7, e1, ew, d1 1 2 rfl, hx.tw, vall_mend hx.hom hx.h5]
  · subst q
    refine km _ (by decide) (fun τ1 d1 e7 e8 e9 e10 => ⟨fun _ => ⟨fun z => absurd rfl z, fun _ => ⟨?_, hR1.frM (cm_Vo d1)⟩⟩, fun z => absurd z (by decide)⟩)
    rw [e8, b1.2.1, hx.tw]
  · subst q
    refine km _ (by decide) (fun τ1 d1 e7 e8 e9 e10 => ⟨fun _ => ⟨fun _ => ⟨fun z => absurd rfl z, fun _ => ⟨?_, hR1.frM (cm_Vo d1)⟩⟩, fun z => absurd z (by decide)⟩, fun z => absurd z (by decide)⟩)
    rw [e9, b1.2.2.1, hx.tw]
  · subst q
    refine km _ (by decide) (fun τ1 d1 e7 e8 e9 e10 => ⟨fun _ => ⟨fun _ => ⟨fun _ => ⟨?_, hR1.frM (cm_Vo d1)⟩, fun z => absurd z (by decide)⟩, fun z => absurd z (by decide)⟩, fun z => absurd z (by decide)⟩)
    rw [e10, b1.2.2.2, hx.tw]
    exact if_neg (vall_cl hx.hom hx.h5 _)
  · apply q_bad
    show wpX9_vote τ x _
    unfold wpX9_vote
    rw [show (0 : Int64) = (0 : Int32).toInt64 from rfl, show (3 : Int64) = (3 : Int32).toInt64 from rfl]
    apply k_in
    · intro h1 h2
      have hv := in_iff.mp ⟨h1, h2⟩
      obtain ⟨j, hj, rfl⟩ := nI_of2 (M := 3) (n := 3) rfl (nn0.mpr hv.1) hv.2
      rcases (show j = 0 ∨ j = 1 ∨ j = 2 ∨ j = 3 by omega) with rfl | rfl | rfl | rfl
      · exact absurd rfl q0
      · exact absurd rfl q1
      · exact absurd rfl q2
      · exact absurd rfl q3
    · intro _
      exact ⟨fun q => absurd rfl q, fun _ => k_bad ⟨rfl, R_bad hR1⟩⟩
theorem e_mends {σ τ : wx_Z} (h : RR σ τ) : wpX8_mends σ (fun a σ' => wpX9_mends τ (fun a' τ' => a = a' ∧ RR σ' τ')) := by
  obtain ⟨o, m, x, c, n, hx⟩ := id (RR.rx h)
  unfold wpX8_mends
  apply hx.qk
  intro σ1 hC
  have hs := hx.live0 hC
  apply q_hold hs.1.1 hs.1.2.1
  intro σ2 f2 e2 b2
  apply k_bitCount
  intro σ3 e3
  show wpX9_mends τ _
  unfold wpX9_mends
  apply hx.kk
  intro τ1 hM
  have hx1 := hx.keep hC hM
  unfold wpX9_mendsNow
  apply k_votesNow hx1.t0 hx1.t1 hx1.hom hx1.h5
  intro τ2 d2 e6 e7 e8 e9 e10
  have hx2 := (hx1.frC (fr_45 f2)).frM (cm_Vo d2)
  apply k_theWord
  apply k_bits
  refine ⟨vi (n := 2) (by decide), fun τ3 et3 => ?_⟩
  have ew : τ2 0 7 = σ2 45 1 := by rw [e7, e2, hx1.tw, vall_mend hx.hom hx.h5]
  refine ⟨?_, ?_⟩
  · rw [hx2.tw, ew]
  · rw [et3, e3, ew]
    refine hx2.word ?_
    rw [e2]
    exact vall_wi hx.h5 hx.hom hx1.hw
/-! ===== signs ===== -/
theorem pc_odd (x : Int32) : nI (pc x) &&& 1 = b2i (xs (bt x) 32) := by
  have e : nI (pc x) &&& 1 = nI (pc x % 2) := fa_mask (pc x) 1
  rw [e, xs_ct]
  show nI (pc x % 2) = b2i (decide (pc x % 2 = 1))
  rcases Nat.mod_two_eq_zero_or_one (pc x) with h | h <;> rw [h] <;> rfl
theorem b2i_inj {a b : Bool} : b2i a = b2i b ↔ a = b := by cases a <;> cases b <;> decide
def sgf (w a : Int32) (k : Nat) : Int32 := if bt w k = xs (bt (a &&& nI k)) 32 then 1 else -1
theorem k_signOf {τ : wx_Z} {m : Nat} {a : Int32} {K : Int32 → wx_Z → Prop} (hm : τ 1 1 = nI m) (h5 : m ≤ 5) (hK : K (sI (sgf (τ 1 2) a) (2 ^ m)) τ) : wpX9_signOf τ a K := by
  have hp := p2_le h5
  have L : ∀ (d i : Nat), i + d = 2 ^ m → wpX9_signOf_4 K (d + 1) τ a (sI (sgf (τ 1 2) a) i) (nI i) := by
    intro d
    induction d with
    | zero =>
      intro i hi
      have hi : i = 2 ^ m := by omega
      subst hi
      unfold wpX9_signOf_4
      apply k_places hm h5
      exact ⟨fun _ => hK, fun q => absurd (Int32.le_refl _) q⟩
    | succ d ih =>
      intro i hi
      unfold wpX9_signOf_4
      apply k_places hm h5
      refine ⟨fun q => ?_, fun _ => ?_⟩
      · rw [nI_leI (by omega) (by omega)] at q
        omega
      · apply k_theWord
        apply k_bits
        rw [bit_s _ (by omega), pc_odd, b2i_inj]
        have ih2 := ih (i + 1) (by omega)
        rw [sI] at ih2
        refine ⟨fun q t38 e38 t39 e39 => ?_, fun q t38 e38 t39 e39 => ?_⟩
        · rw [show sgf (τ 1 2) a i = -1 from if_neg q] at ih2
          rw [e38, e39, nI_1]; exact ih2
        · rw [show sgf (τ 1 2) a i = 1 from if_pos q] at ih2
          rw [e38, e39, nI_1]; exact ih2
  exact ⟨2 ^ m + 1, L (2 ^ m) 0 (by omega)⟩
theorem q_signsFor {σ : wx_Z} {o m : Nat} {a : Int32} {K : Int32 → wx_Z → Prop} (h : CO σ 0 o m) (hK : K (sI (sgf (σ (cSt 0) 2) a) (2 ^ m)) σ) : wpX8_signsFor σ a K := by
  have h5 := h.2.2.2.2.2.2
  have hp := p2_le h5
  have L : ∀ (d i : Nat), i + d = 2 ^ m → wpX8_signsFor_4 K (d + 1) σ a (sI (sgf (σ (cSt 0) 2) a) i) (nI i) := by
    intro d
    induction d with
    | zero =>
      intro i hi
      have hi : i = 2 ^ m := by omega
      subst hi
      unfold wpX8_signsFor_4
      rw [h.2.2.1]
      exact ⟨fun _ => hK, fun q => absurd (Int32.le_refl _) q⟩
    | succ d ih =>
      intro i hi
      unfold wpX8_signsFor_4
      rw [h.2.2.1]
      refine ⟨fun q => ?_, fun _ => ?_⟩
      · rw [nI_leI (by omega) (by omega)] at q
        omega
      · apply q_isOdd
        have ih2 := ih (i + 1) (by omega)
        rw [sI] at ih2
        have key : ∀ s : Bool, xs (bt (a &&& nI i)) 32 = s → wpX8_signsFor_32 K (wpX8_signsFor_4 K (d + 1)) σ a (sI (sgf (σ (cSt 0) 2) a) i) (nI i) (b2i s) := by
          intro s hs
          unfold wpX8_signsFor_32 wpX5_bit
          rw [bit_u _ (by omega)]
          dsimp only
          rw [b2i_inj]
          refine ⟨fun q t38 e38 t39 e39 => ?_, fun q t38 e38 t39 e39 => ?_⟩
          · rw [show sgf (σ (cSt 0) 2) a i = -1 from if_neg (by rw [hs]; exact q)] at ih2
            rw [e38, e39, nI_1]; exact ih2
          · rw [show sgf (σ (cSt 0) 2) a i = 1 from if_pos (by rw [hs]; exact q)] at ih2
            rw [e38, e39, nI_1]; exact ih2
        rw [b2i_0]
        refine ⟨fun q => key false q, fun q => key true ?_⟩
        cases hh : xs (bt (a &&& nI i)) 32
        · exact absurd hh q
        · rfl
  exact ⟨2 ^ m + 1, L (2 ^ m) 0 (by omega)⟩
theorem e_sign {σ τ : wx_Z} (x : Int32) (h : RR σ τ) : wpX8_sign σ x (fun a σ' => wpX9_sign τ x (fun a' τ' => a = a' ∧ RR σ' τ')) := by
  obtain ⟨o, m, x', c, n, hx⟩ := id (RR.rx h)
  have hp := p2_le hx.h5
  unfold wpX8_sign
  apply q_hasPlace hx.co
  · intro j hj e
    refine ⟨fun z => absurd z (by decide), fun _ => ?_⟩
    apply q_signsFor hx.co
    show wpX9_sign τ x _
    unfold wpX9_sign
    apply k_isPlace hx.t1 hx.h5 _ (fun z => absurd e (out_not (by omega) z hj))
    intro _ _ _
    refine ⟨fun z => absurd z (by decide), fun _ => ?_⟩
    apply k_signOf hx.t1 hx.h5
    exact ⟨by rw [hx.tw], h⟩
  · intro ho
    refine ⟨fun _ => ?_, fun z => absurd rfl z⟩
    apply q_bad
    show wpX9_sign τ x _
    unfold wpX9_sign
    apply k_isPlace hx.t1 hx.h5 (fun j hj e => absurd e (out_not (by omega) ho hj))
    intro _
    exact ⟨fun _ => k_bad ⟨rfl, R_bad h⟩, fun z => absurd rfl z⟩
/-! ===== best ===== -/
def bst (S : Nat → Int32) : Nat → Nat × Int32
  | 0 => (0, 1)
  | n + 1 => if ab (S (n + 1)) ≤ ab (S (bst S n).1) then (if ab (S (n + 1)) = ab (S (bst S n).1) then ((bst S n).1, (bst S n).2 + 1) else bst S n) else (n + 1, 1)
theorem bst_le (S : Nat → Int32) : ∀ n, (bst S n).1 ≤ n
  | 0 => Nat.le_refl 0
  | n + 1 => by
    have := bst_le S n
    rw [bst]
    by_cases q : ab (S (n + 1)) ≤ ab (S (bst S n).1)
    · rw [if_pos q]
      by_cases q2 : ab (S (n + 1)) = ab (S (bst S n).1)
      · rw [if_pos q2]; exact Nat.le_succ_of_le this
      · rw [if_neg q2]; omega
    · rw [if_neg q]; exact Nat.le_refl _
theorem df_3 {x y : Int32} (hx : 0 ≤ x.toInt ∧ x.toInt ≤ 1000) (hy : 0 ≤ y.toInt ∧ y.toInt ≤ 1000) : (0 < x - y ↔ ¬ x ≤ y) ∧ (x - y ≤ 0 ↔ x ≤ y) ∧ (x - y = 0 ↔ x = y) := by
  have e := fb_subI (x := x) (y := y) (by omega) (by omega)
  have z : (0 : Int32).toInt = 0 := rfl
  refine ⟨?_, ?_, ?_⟩
  · rw [Int32.lt_iff_toInt_lt, Int32.le_iff_toInt_le, e, z]; omega
  · rw [Int32.le_iff_toInt_le, Int32.le_iff_toInt_le, e, z]; omega
  · rw [← Int32.toInt_inj, ← Int32.toInt_inj, e, z]; omega
theorem sgf_bd (w a : Int32) {n : Nat} (hn : n ≤ 32) : 0 ≤ (ab (sI (sgf w a) n)).toInt ∧ (ab (sI (sgf w a) n)).toInt ≤ 1000 := by
  have h := sI_bd (f := sgf w a) (B := 1) (by decide) (by decide) (fun k => by
    unfold sgf
    by_cases q : bt w k = xs (bt (a &&& nI k)) 32
    · rw [if_pos q]; decide
    · rw [if_neg q]; decide) n (by omega)
  rw [ab_int (by omega)]
  by_cases q : 0 ≤ (sI (sgf w a) n).toInt
  · rw [if_pos q]; omega
  · rw [if_neg q]; omega
theorem ab_0 (x : Int32) : (if 0 ≤ x then x else 0 - x) = ab x := by
  unfold ab
  rw [show (0 : Int32) - x = -x from Int32.zero_sub x]
theorem k_far {τ : wx_Z} {x : Int32} {K : Int32 → wx_Z → Prop} (h : K (ab x) τ) : wpX9_far τ x K := by
  unfold ab at h
  refine ⟨fun q => ?_, fun q => ?_⟩
  · rw [if_pos q] at h; exact h
  · rw [if_neg q] at h; exact h
theorem e_best {σ τ : wx_Z} (x : Int32) (h : RR σ τ) : wpX8_best σ x (fun a σ' => wpX9_best τ x (fun a' τ' => a = a' ∧ RR σ' τ')) := by
  obtain ⟨o, m, x', c, n, hx⟩ := id (RR.rx h)
  have hp := p2_le hx.h5
  have hpos := p2_pos m
  have co := hx.co
  have hS : ∃ S : Nat → Int32, S = fun a => sI (sgf (σ (cSt 0) 2) (nI a)) (2 ^ m) := ⟨_, rfl⟩
  obtain ⟨S, hS⟩ := hS
  have hb : ∀ a, 0 ≤ (ab (S a)).toInt ∧ (ab (S a)).toInt ≤ 1000 := fun a => by rw [hS]; exact sgf_bd _ _ hp
  obtain ⟨N, hN⟩ : ∃ N, 2 ^ m = N + 1 := ⟨2 ^ m - 1, by omega⟩
  have sg : ∀ (a : Nat) (K : Int32 → wx_Z → Prop), K (S a) τ → wpX9_signOf τ (nI a) K := by
    intro a K hK
    apply k_signOf hx.t1 hx.h5
    rw [hx.tw]
    rw [hS] at hK
    exact hK
  have sgC : ∀ (a : Nat) (K : Int32 → wx_Z → Prop), K (S a) σ → wpX8_signsFor σ (nI a) K := by
    intro a K hK
    apply q_signsFor co
    rw [hS] at hK
    exact hK
  have km : ∀ (K : Int32 → wx_Z → Prop), (0 ≤ x ∧ x ≤ 2) → ((¬ x = 0 → ((¬ x = 1 → K (bst S N).2 τ) ∧ (x = 1 → K (S (bst S N).1) τ))) ∧ (x = 0 → K (nI (bst S N).1) τ)) → wpX9_best τ x K := by
    intro K hr hK
    unfold wpX9_best
    rw [show (0 : Int64) = (0 : Int32).toInt64 from rfl, show (2 : Int64) = (2 : Int32).toInt64 from rfl]
    apply k_in
    · intro _ _
      refine ⟨fun _ => ?_, fun z => absurd z (by decide)⟩
      have L : ∀ (d i : Nat), i + d = N → wpX9_best_26 K (d + 1) τ x (nI (bst S i).1) (bst S i).2 (nI (i + 1)) := by
        intro d
        induction d with
        | zero =>
          intro i hi
          have hi : i = N := by omega
          subst hi
          unfold wpX9_best_26
          apply k_places hx.t1 hx.h5
          rw [hN]
          refine ⟨fun _ => ⟨fun q => ⟨fun q1 => (hK.1 q).1 q1, fun q1 => ?_⟩, fun q => hK.2 q⟩, fun q => absurd (Int32.le_refl _) q⟩
          apply sg
          exact (hK.1 q).2 q1
        | succ d ih =>
          intro i hi
          have hl := bst_le S i
          unfold wpX9_best_26
          apply k_places hx.t1 hx.h5
          rw [hN]
          refine ⟨fun q => ?_, fun _ => ?_⟩
          · rw [nI_leI (by omega) (by omega)] at q
            omega
          · apply sg
            apply k_far
            apply sg
            apply k_far
            intro t e
            obtain ⟨d1, d2, d3⟩ := df_3 (hb (i + 1)) (hb (bst S i).1)
            have ih2 := ih (i + 1) (by omega)
            rw [bst] at ih2
            rw [e, d1]
            refine ⟨fun q => ?_, fun q => ⟨fun _ => ?_, fun z => ?_⟩⟩
            · rw [if_neg q] at ih2
              unfold wpX9_best_81
              rw [d2]
              exact ⟨fun z => absurd z q, fun _ t2 e2 => by rw [e2, nI_1]; exact ih2⟩
            · have q := Decidable.of_not_not q
              rw [if_pos q] at ih2
              rw [d3]
              refine ⟨fun q2 => ?_, fun q2 => ?_⟩
              · rw [if_neg q2] at ih2
                unfold wpX9_best_81
                rw [d2]
                exact ⟨fun _ t2 e2 => by rw [e2, nI_1]; exact ih2, fun z => absurd q z⟩
              · rw [if_pos q2] at ih2
                unfold wpX9_best_81
                rw [d2]
                exact ⟨fun _ t2 e2 => by rw [e2, nI_1]; exact ih2, fun z => absurd q z⟩
            · rw [show (0 : Int32) = nI 0 from rfl, nI_eq (by omega) (by omega)] at z
              omega
      refine ⟨N + 2, ?_⟩
      unfold wpX9_best_26
      apply k_places hx.t1 hx.h5
      rw [hN]
      refine ⟨fun q => ?_, fun _ => ?_⟩
      · rw [show (0 : Int32) = nI 0 from rfl, nI_leI (by omega) (by omega)] at q
        omega
      · apply sg 0
        apply k_far
        apply sg 0
        apply k_far
        intro t e
        obtain ⟨d1, d2, d3⟩ := df_3 (hb 0) (hb 0)
        rw [e, d1]
        refine ⟨fun q => absurd (Int32.le_refl _) q, fun q => ⟨fun z => absurd rfl z, fun _ => ?_⟩⟩
        unfold wpX9_best_81
        rw [d2]
        exact ⟨fun _ t2 e2 => by rw [e2, show (0 : Int32) + 1 = nI (0 + 1) from rfl]; exact L N 0 (by omega), fun z => absurd (Int32.le_refl _) z⟩
    · intro z
      exact absurd (in_iff.mpr hr) z
  have bad : (x < 0 ∨ ¬ x ≤ 2) → wpX8_refuseBad σ (-2) (fun r12 σ12 => wpX9_best τ x (fun a' τ' => r12 = a' ∧ RR σ12 τ')) := by
    intro q
    apply q_bad
    show wpX9_best τ x _
    unfold wpX9_best
    rw [show (0 : Int64) = (0 : Int32).toInt64 from rfl, show (2 : Int64) = (2 : Int32).toInt64 from rfl]
    apply k_in
    · intro h1 h2
      have hv := in_iff.mp ⟨h1, h2⟩
      rcases q with q | q
      · exact absurd q (nn0.mpr hv.1)
      · exact absurd hv.2 q
    · intro _
      exact ⟨fun q => absurd rfl q, fun _ => k_bad ⟨rfl, R_bad h⟩⟩
  unfold wpX8_best
  refine ⟨fun q => bad (Or.inl q), fun q => ⟨fun q2 => ?_, fun q2 => bad (Or.inr q2)⟩⟩
  apply sgC 0
  have hr : 0 ≤ x ∧ x ≤ 2 := ⟨nn0.mp q, q2⟩
  have L : ∀ (d i : Nat), i + d = N → wpX8_best_30 (fun a σ' => wpX9_best τ x (fun a' τ' => a = a' ∧ RR σ' τ')) (d + 1) σ x (nI (bst S i).1) (S (bst S i).1) (bst S i).2 (nI (i + 1)) := by
    intro d
    induction d with
    | zero =>
      intro i hi
      have hi : i = N := by omega
      subst hi
      unfold wpX8_best_30
      rw [co.2.2.1, hN]
      refine ⟨fun _ => ⟨fun q => ⟨fun q1 => ?_, fun q1 => ?_⟩, fun q => ?_⟩, fun q => absurd (Int32.le_refl _) q⟩
      · exact km _ hr ⟨fun _ => ⟨fun _ => ⟨rfl, h⟩, fun z => absurd z q1⟩, fun z => absurd z q⟩
      · exact km _ hr ⟨fun _ => ⟨fun z => absurd q1 z, fun _ => ⟨rfl, h⟩⟩, fun z => absurd z q⟩
      · exact km _ hr ⟨fun z => absurd q z, fun _ => ⟨rfl, h⟩⟩
    | succ d ih =>
      intro i hi
      unfold wpX8_best_30
      rw [co.2.2.1, hN]
      refine ⟨fun q => ?_, fun _ => ?_⟩
      · rw [nI_leI (by omega) (by omega)] at q
        omega
      · apply sgC
        intro t55 e55 t59 e59
        rw [ab_0] at e55 e59
        have ih2 := ih (i + 1) (by omega)
        rw [bst] at ih2
        rw [e55, e59]
        refine ⟨fun q t79 e79 t83 e83 => ?_, fun q t92 e92 => ?_⟩
        · rw [ab_0] at e79 e83
          rw [if_pos q] at ih2
          rw [e79, e83]
          refine ⟨fun q2 t92 e92 => ?_, fun q2 t89 e89 t92 e92 => ?_⟩
          · rw [if_neg q2] at ih2
            rw [e92, nI_1]; exact ih2
          · rw [if_pos q2] at ih2
            rw [e89, e92, nI_1]; exact ih2
        · rw [if_neg q] at ih2
          rw [e92, nI_1]; exact ih2
  exact ⟨N + 1, L N 0 (by omega)⟩

theorem k_inI {τ : wx_Z} {x lo hi : Int32} {K : Int32 → wx_Z → Prop} (h1 : lo ≤ x → x ≤ hi → K 1 τ) (h0 : ¬ (lo ≤ x ∧ x ≤ hi) → K 0 τ) : wpX9_in τ x.toInt64 lo.toInt64 hi.toInt64 K :=
  k_in (fun a b => h1 ((toL_le _ _).mp a) ((toL_le _ _).mp b)) (fun z => h0 (fun q => z (in_iff.mpr q)))
/-! ===== soft places ===== -/
theorem RX.softs {σ τ σ1 τ1 : wx_Z} {o m x c n : Nat} (h : RX σ τ o m x c n) (f : Nat → Int32) (hf : fr [cSo 0] σ σ1) (hM : ∀ c k, ¬ (c = 1 ∧ 3 ≤ k) → τ1 c k = τ c k) (h1 : ∀ i, i < 32 → σ1 (cSo 0) i = f i) (h2 : ∀ i, i < 32 → τ1 1 (3 + i) = f i) (hb : ∀ i, i < 32 → -99 ≤ (f i).toInt ∧ (f i).toInt ≤ 99) (hz : ∀ i, 2 ^ m ≤ i → i < 32 → f i = 0) : RR σ1 τ1 := by
  obtain ⟨n1, n2, n3, n4, n5, n6⟩ := c_ne 0
  have eCo : σ1 (cCo 0) = σ (cCo 0) := hf _ (by decide)
  have eTe : σ1 (cTe 0) = σ (cTe 0) := hf _ (by decide)
  have eSt : σ1 (cSt 0) = σ (cSt 0) := hf _ (by decide)
  obtain ⟨⟨s1, s2, s3, s4⟩, e1, e2, e3, e4⟩ := h.1
  refine RR.live (o := o) (m := m) h.2.1 h.2.2.1 h.2.2.2 (hf.mono (fun c hc => by simp at hc; subst hc; simp [gl])) (fun c k hc _ => hM c k (fun z => hc z.1)) ⟨⟨?_, ?_, ?_, ?_⟩, ?_, ?_, ?_, ?_⟩
  · exact s1.same (fun k => by rw [eCo]) (fun k => by rw [eTe])
  · rw [eSt]; exact s2
  · intro i hi; rw [h1 i hi]; exact hb i hi
  · intro i hi hi2; rw [h1 i hi2]; exact hz i hi hi2
  · rw [hM 1 0 (by omega), eCo]; exact e1
  · rw [hM 1 (0 + 1) (by omega), eCo]; exact e2
  · rw [hM 1 (0 + 2) (by omega), eSt]; exact e3
  · intro i hi
    rw [h1 i hi, show 0 + 3 + i = 3 + i by omega]
    exact h2 i hi
theorem nI_3 (j : Nat) : 3 + nI j = nI (3 + j) := nI_add 3 j
theorem e_soft {σ τ : wx_Z} (i v : Int32) (h : RR σ τ) : wpX8_soft σ i v (fun a σ' => wpX9_soft τ i v (fun a' τ' => a = a' ∧ RR σ' τ')) := by
  obtain ⟨o, m, x, c, n, hx⟩ := id (RR.rx h)
  have hp := p2_le hx.h5
  have lit : ((-99 : Int64) = (-99 : Int32).toInt64) ∧ ((99 : Int64) = (99 : Int32).toInt64) := ⟨rfl, rfl⟩
  unfold wpX8_soft
  apply q_hasPlace hx.co
  · intro j hj e
    have bad : ¬ (-99 ≤ v ∧ v ≤ 99) → wpX8_refuseBad σ (-1000) (fun r30 σ30 => wpX9_soft τ i v (fun a' τ' => r30 = a' ∧ RR σ30 τ')) := by
      intro q
      apply q_bad
      show wpX9_soft τ i v _
      unfold wpX9_soft
      apply k_isPlace hx.t1 hx.h5 _ (fun z => absurd e (out_not (by omega) z hj))
      intro _ _ _
      refine ⟨fun z => absurd z (by decide), fun _ => ?_⟩
      rw [lit.1, lit.2]
      apply k_inI
      · intro h1 h2; exact absurd ⟨h1, h2⟩ q
      · intro _
        exact ⟨fun z => absurd rfl z, fun _ => k_bad ⟨rfl, R_bad h⟩⟩
    refine ⟨fun z => absurd z (by decide), fun _ => ⟨fun q => bad (fun z => absurd q (Int32.not_lt.mpr z.1)), fun q => ⟨fun q2 => ?_, fun q2 => bad (fun z => q2 z.2)⟩⟩⟩
    have q1 : -99 ≤ v := Int32.not_lt.mp q
    apply hx.qk
    intro σ1 hC
    rw [e, cln (by omega)]
    refine ⟨vi (by omega), vi (by omega), fun σ2 e2 => ?_⟩
    show wpX9_soft τ (nI j) v _
    unfold wpX9_soft
    apply k_isPlace hx.t1 hx.h5 _ (fun z => absurd rfl (out_not (by omega) z hj))
    intro _ _ _
    refine ⟨fun z => absurd z (by decide), fun _ => ?_⟩
    rw [lit.1, lit.2]
    apply k_inI _ (fun z => absurd ⟨q1, q2⟩ z)
    intro _ _
    refine ⟨fun _ => ?_, fun z => absurd z (by decide)⟩
    apply hx.kk
    intro τ1 hM
    have hx1 := hx.keep hC hM
    unfold wpX9_softens wpX9_softOf
    rw [nI_3, cln (by omega)]
    refine ⟨vi (by omega), vi (by omega), fun τ2 et2 => ⟨(hx1.ts (by omega)).symm, ?_⟩⟩
    refine hx1.softs (fun k => if k = j then v else σ1 (cSo 0) k) ?_ ?_ ?_ ?_ ?_ ?_
    · rw [e2]; exact fr.rf.up (by simp)
    · intro c' k' hn
      rw [et2, up_at, if_neg (fun z => hn ⟨z.1, by omega⟩)]
    · intro k hk
      rw [e2]
      by_cases q : k = j
      · subst q; rw [up_s, if_pos rfl]
      · rw [up_k q, if_neg q]
    · intro k hk
      rw [et2]
      by_cases q : k = j
      · subst q; rw [up_s, if_pos rfl]
      · rw [up_k (by omega), if_neg q]; exact hx1.ts hk
    · intro k hk
      by_cases q : k = j
      · rw [if_pos q]
        rw [Int32.le_iff_toInt_le] at q1 q2
        exact ⟨q1, q2⟩
      · rw [if_neg q]; exact hx1.1.1.2.2.1 k hk
    · intro k hk1 hk2
      rw [if_neg (by omega)]; exact hx1.1.1.2.2.2 k hk1 hk2
  · intro ho
    refine ⟨fun _ => ?_, fun z => absurd rfl z⟩
    apply q_bad
    show wpX9_soft τ i v _
    unfold wpX9_soft
    apply k_isPlace hx.t1 hx.h5 (fun j hj e => absurd e (out_not (by omega) ho hj))
    intro _
    exact ⟨fun _ => k_bad ⟨rfl, R_bad h⟩, fun z => absurd rfl z⟩
def hdn (w v : Int32) (k : Nat) : Int32 := if bt w k then -v else v
theorem e_harden {σ τ : wx_Z} (v : Int32) (h : RR σ τ) : wpX8_harden σ v (fun a σ' => wpX9_harden τ v (fun a' τ' => a = a' ∧ RR σ' τ')) := by
  obtain ⟨o, m, x, c, n, hx⟩ := id (RR.rx h)
  have hp := p2_le hx.h5
  have lit : ((1 : Int64) = (1 : Int32).toInt64) ∧ ((99 : Int64) = (99 : Int32).toInt64) := ⟨rfl, rfl⟩
  have bad : ¬ (1 ≤ v ∧ v ≤ 99) → wpX8_refuseBad σ (-2) (fun r30 σ30 => wpX9_harden τ v (fun a' τ' => r30 = a' ∧ RR σ30 τ')) := by
    intro q
    apply q_bad
    show wpX9_harden τ v _
    unfold wpX9_harden
    rw [lit.1, lit.2]
    apply k_inI
    · intro h1 h2; exact absurd ⟨h1, h2⟩ q
    · intro _
      exact ⟨fun z => absurd rfl z, fun _ => k_bad ⟨rfl, R_bad h⟩⟩
  unfold wpX8_harden
  refine ⟨fun q => bad (fun z => absurd q (Int32.not_lt.mpr z.1)), fun q => ⟨fun q2 => ?_, fun q2 => bad (fun z => q2 z.2)⟩⟩
  have q1 : 1 ≤ v := Int32.not_lt.mp q
  have vb : 1 ≤ v.toInt ∧ v.toInt ≤ 99 := by
    have a := q1
    have b := q2
    rw [Int32.le_iff_toInt_le] at a b
    exact ⟨a, b⟩
  apply hx.qk
  intro σ1 hC
  have hs := hx.live0 hC
  have co := hs.1.1
  have fin : ∀ σ2, fr [cSo 0] σ1 σ2 → (∀ k, k < 2 ^ m → σ2 (cSo 0) k = hdn (σ1 (cSt 0) 2) v k) → (∀ k, 2 ^ m ≤ k → σ2 (cSo 0) k = σ1 (cSo 0) k) → wpX9_harden τ v (fun a' τ' => v = a' ∧ RR σ2 τ') := by
    intro σ2 f2 a2 b2
    unfold wpX9_harden
    rw [lit.1, lit.2]
    apply k_inI _ (fun z => absurd ⟨q1, q2⟩ z)
    intro _ _
    refine ⟨fun _ => ?_, fun z => absurd z (by decide)⟩
    apply hx.kk
    intro τ1 hM
    have hx1 := hx.keep hC hM
    have L : ∀ (d i : Nat) (τ' : wx_Z), i + d = 2 ^ m → (∀ c k, ¬ (c = 1 ∧ 3 ≤ k) → τ' c k = τ1 c k) → (∀ k, k < i → τ' 1 (3 + k) = hdn (σ1 (cSt 0) 2) v k) → (∀ k, i ≤ k → τ' 1 (3 + k) = τ1 1 (3 + k)) → wpX9_harden_25 (fun a' τ' => v = a' ∧ RR σ2 τ') (d + 1) τ' v (nI i) := by
      intro d
      induction d with
      | zero =>
        intro i τ' hi hm h1 h2
        have hi : i = 2 ^ m := by omega
        subst hi
        unfold wpX9_harden_25
        apply k_places ((hm 1 1 (by omega)).trans hx1.t1) hx.h5
        refine ⟨fun _ => ⟨rfl, ?_⟩, fun q => absurd (Int32.le_refl _) q⟩
        refine hx1.softs (fun k => if k < 2 ^ m then hdn (σ1 (cSt 0) 2) v k else σ1 (cSo 0) k) f2 hm ?_ ?_ ?_ ?_
        · intro k hk
          by_cases q : k < 2 ^ m
          · rw [if_pos q]; exact a2 k q
          · rw [if_neg q]; exact b2 k (by omega)
        · intro k hk
          by_cases q : k < 2 ^ m
          · rw [if_pos q]; exact h1 k q
          · rw [if_neg q, h2 k (by omega)]; exact hx1.ts hk
        · intro k hk
          by_cases q : k < 2 ^ m
          · rw [if_pos q]
            unfold hdn
            cases bt (σ1 (cSt 0) 2) k
            · rw [if_neg (by decide)]; omega
            · rw [if_pos rfl, fb_negI (by omega)]; omega
          · rw [if_neg q]; exact hx1.1.1.2.2.1 k hk
        · intro k hk1 hk2
          rw [if_neg (by omega)]; exact hx1.1.1.2.2.2 k hk1 hk2
      | succ d ih =>
        intro i τ' hi hm h1 h2
        unfold wpX9_harden_25
        apply k_places ((hm 1 1 (by omega)).trans hx1.t1) hx.h5
        refine ⟨fun q => ?_, fun _ => ?_⟩
        · rw [nI_leI (by omega) (by omega)] at q
          omega
        · apply k_theWord
          apply k_has (by omega)
          rw [hm 1 2 (by omega), hx1.tw, nI_3, cln (by omega), b2i_0]
          have go : ∀ u, u = hdn (σ1 (cSt 0) 2) v i → wpX9_harden_25 (fun a' τ' => v = a' ∧ RR σ2 τ') (d + 1) (wx_up τ' 1 (3 + i) u) v (nI (i + 1)) := by
            intro u hu
            refine ih (i + 1) _ (by omega) ?_ ?_ ?_
            · intro c' k' hn
              rw [up_at, if_neg (fun z => hn ⟨z.1, by omega⟩)]
              exact hm c' k' hn
            · intro k hk
              by_cases q : k = i
              · subst q; rw [up_s]; exact hu
              · rw [up_k (by omega)]; exact h1 k (by omega)
            · intro k hk
              rw [up_k (by omega)]; exact h2 k (by omega)
          refine ⟨fun q => ⟨vi (by omega), fun τ2 et2 t58 e58 => ?_⟩, fun q => ⟨vi (by omega), fun τ2 et2 t58 e58 => ?_⟩⟩
          · rw [et2, e58, nI_1]
            exact go v (by unfold hdn; rw [q]; rfl)
          · rw [et2, e58, nI_1]
            refine go (-v) ?_
            unfold hdn
            cases hb : bt (σ1 (cSt 0) 2) i
            · exact absurd hb q
            · rfl
    exact ⟨2 ^ m + 1, L (2 ^ m) 0 τ1 (by omega) (fun _ _ _ => rfl) (fun k hk => absurd hk (by omega)) (fun _ _ => rfl)⟩
  have L : ∀ (d i : Nat) (σ' : wx_Z), i + d = 2 ^ m → fr [cSo 0] σ1 σ' → (∀ k, k < i → σ' (cSo 0) k = hdn (σ1 (cSt 0) 2) v k) → (∀ k, i ≤ k → σ' (cSo 0) k = σ1 (cSo 0) k) → wpX8_harden_31 (fun a σ' => wpX9_harden τ v (fun a' τ' => a = a' ∧ RR σ' τ')) (d + 1) σ' v (nI i) := by
    intro d
    induction d with
    | zero =>
      intro i σ' hi hf h1 h2
      have hi : i = 2 ^ m := by omega
      subst hi
      unfold wpX8_harden_31
      rw [hf (cCo 0) (by decide), co.2.2.1]
      exact ⟨fun _ => fin σ' hf h1 h2, fun q => absurd (Int32.le_refl _) q⟩
    | succ d ih =>
      intro i σ' hi hf h1 h2
      unfold wpX8_harden_31
      rw [hf (cCo 0) (by decide), co.2.2.1]
      refine ⟨fun q => ?_, fun _ => ?_⟩
      · rw [nI_leI (by omega) (by omega)] at q
        omega
      · unfold wpX5_bit
        rw [bit_u _ (by omega), hf (cSt 0) (by decide)]
        dsimp only
        rw [b2i_0, cln (by omega)]
        have go : ∀ u, u = hdn (σ1 (cSt 0) 2) v i → wpX8_harden_31 (fun a σ' => wpX9_harden τ v (fun a' τ' => a = a' ∧ RR σ' τ')) (d + 1) (wx_up σ' (cSo 0) i u) v (nI (i + 1)) := by
          intro u hu
          refine ih (i + 1) _ (by omega) (hf.up (by simp)) ?_ ?_
          · intro k hk
            by_cases q : k = i
            · subst q; rw [up_s]; exact hu
            · rw [up_k q]; exact h1 k (by omega)
          · intro k hk
            rw [up_k (by omega)]; exact h2 k (by omega)
        refine ⟨fun q => ⟨vi (by omega), fun σ2 e2 t71 e71 => ?_⟩, fun q => ⟨vi (by omega), fun σ2 e2 t71 e71 => ?_⟩⟩
        · rw [e2, e71, nI_1]
          refine go (-v) ?_
          unfold hdn
          cases hb : bt (σ1 (cSt 0) 2) i
          · exact absurd hb q
          · rfl
        · rw [e2, e71, nI_1]
          exact go v (by unfold hdn; rw [q]; rfl)
  exact ⟨2 ^ m + 1, L (2 ^ m) 0 σ1 (by omega) fr.rf (fun k hk => absurd hk (by omega)) (fun _ _ => rfl)⟩
/-! ===== perpendicular ===== -/
def pp (m : Nat) (w : Int32) (l : List Nat) : Nat → Bool
  | 0 => true
  | n + 1 => pp m w l n && !xs (bt (w &&& wT m (l.getD n 0))) 32
theorem pp_no {m : Nat} {w : Int32} {l : List Nat} {n : Nat} (h : pp m w l n = false) : ∀ d, pp m w l (n + d) = false
  | 0 => h
  | d + 1 => by
    show (pp m w l (n + d) && _) = false
    rw [pp_no h d]; rfl
theorem e_perpendicular {σ τ : wx_Z} (h : RR σ τ) : wpX8_perpendicular σ (fun a σ' => wpX9_perpendicular τ (fun a' τ' => a = a' ∧ RR σ' τ')) := by
  obtain ⟨o, m, x, c, n, hx⟩ := id (RR.rx h)
  have h5 := hx.h5
  have hp := p2_le h5
  have co := hx.co
  obtain ⟨hlen, -, hmem⟩ := tl_len co
  have km : ∀ K : Int32 → wx_Z → Prop, (∀ τ', cmM τ τ' → K (b2i (pp m (σ (cSt 0) 2) (tl o m) (tl o m).length)) τ') → wpX9_perpendicular τ K := by
    intro K hK
    unfold wpX9_perpendicular
    apply k_many hx.t0 hx.t1 hx.hom h5
    intro τ1 d1 l1
    have L : ∀ (d i : Nat), i + d = (tl o m).length → wpX9_perpendicular_9 K (d + 1) τ1 (nI (tl o m).length) (b2i (pp m (σ (cSt 0) 2) (tl o m) i)) (nI i) := by
      intro d
      induction d with
      | zero =>
        intro i hi
        have hi : i = (tl o m).length := by omega
        subst hi
        unfold wpX9_perpendicular_9
        exact ⟨fun _ => hK τ1 (cm_Many d1), fun q => absurd (Int32.le_refl _) q⟩
      | succ d ih =>
        intro i hi
        unfold wpX9_perpendicular_9
        refine ⟨fun q => ?_, fun _ => ?_⟩
        · rw [nI_leI (by omega) (by omega)] at q
          omega
        · apply k_theWord
          refine ⟨vi (by omega), ?_⟩
          rw [cln (by omega), l1.2 i (by omega), d1 1 2 rfl, hx.tw]
          apply k_wordOf ((d1 1 1 rfl).trans hx.t1) h5 (hmem _ (getD_mem (by omega))).2
          apply k_bits
          rw [pc_odd, b2i_1]
          have ih2 := ih (i + 1) (by omega)
          rw [pp] at ih2
          refine ⟨fun q t44 e44 => ?_, fun q t44 e44 => ?_⟩
          · rw [e44, nI_1]
            rw [Bool.eq_false_iff.mpr q, Bool.not_false, Bool.and_true] at ih2
            exact ih2
          · rw [e44, nI_1]
            rw [q, Bool.not_true, Bool.and_false] at ih2
            exact ih2
    exact ⟨(tl o m).length + 1, L (tl o m).length 0 (by omega)⟩
  have L : ∀ (d i : Nat), i + d = (tl o m).length → pp m (σ (cSt 0) 2) (tl o m) i = true → wpX8_perpendicular_2 (fun a σ' => wpX9_perpendicular τ (fun a' τ' => a = a' ∧ RR σ' τ')) (d + 1) σ (nI i) := by
    intro d
    induction d with
    | zero =>
      intro i hi hpp
      have hi : i = (tl o m).length := by omega
      subst hi
      unfold wpX8_perpendicular_2
      rw [co.2.2.2.1]
      refine ⟨fun _ => km _ (fun τ' hc => ⟨?_, h.frM hc⟩), fun q => absurd (Int32.le_refl _) q⟩
      rw [hpp]; rfl
    | succ d ih =>
      intro i hi hpp
      unfold wpX8_perpendicular_2
      rw [co.2.2.2.1]
      refine ⟨fun q => ?_, fun _ => ?_⟩
      · rw [nI_leI (by omega) (by omega)] at q
        omega
      · apply q_wordOfTerm co (by omega)
        apply q_isOdd
        rw [b2i_0]
        refine ⟨fun q t43 e43 => ?_, fun q => km _ (fun τ' hc => ⟨?_, h.frM hc⟩)⟩
        · rw [e43, nI_1]
          refine ih (i + 1) (by omega) ?_
          rw [pp, hpp, q]; rfl
        · have hn : pp m (σ (cSt 0) 2) (tl o m) (i + 1) = false := by
            rw [pp, hpp]
            cases hh : xs (bt (σ (cSt 0) 2 &&& wT m ((tl o m).getD i 0))) 32
            · exact absurd hh q
            · rfl
          have := pp_no hn d
          rw [show i + 1 + d = (tl o m).length by omega] at this
          rw [this]; rfl
  exact ⟨(tl o m).length + 1, L (tl o m).length 0 (by omega) rfl⟩

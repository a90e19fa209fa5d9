/-! ===== asked ===== -/
def am (a i : Nat) : Int32 := (pt 5 a <<< ((nI i &&& (nI a ^^^ (-1))) &&& 31)) &&& ((1 <<< (nI i &&& 31)) ^^^ (-1))
theorem am_bit : ∀ a, a < 32 → ∀ i, i < 32 → ∀ k, k < 32 → bt (am a i) k = (decide (¬ nI k ^^^ nI i = 0) && decide ((nI k ^^^ nI i) &&& (nI a ^^^ (-1)) = 0)) := by decide +kernel
def ar (w : Int32) (a i : Nat) (k : Nat) : Bool := bt w k && bt (am a i) k
theorem ar_32 {m a i : Nat} {w : Int32} (h5 : m ≤ 5) (hw : wi w (2 ^ m)) : xs (bt (w &&& am a i)) 32 = xs (ar w a i) (2 ^ m) := by
  have hp := p2_le h5
  have e : xs (bt (w &&& am a i)) 32 = xs (ar w a i) 32 := xs_cong (fun k _ => by unfold ar; rw [b_and])
  rw [e, show 32 = 2 ^ m + (32 - 2 ^ m) by omega]
  refine xs_more _ (fun k hk => ?_)
  unfold ar
  rcases Nat.lt_or_ge k 32 with q | q
  · rw [hw k hk q]; rfl
  · rw [b_big q]; rfl
theorem k_around {τ : wx_Z} {m a i : Nat} {K : Int32 → wx_Z → Prop} (hm : τ 1 1 = nI m) (h5 : m ≤ 5) (ha : a < 32) (hi : i < 32) (hK : K (b2i (xs (ar (τ 1 2) a i) (2 ^ m))) τ) : wpX9_around τ (nI i) (nI a) K := by
  have hp := p2_le h5
  have L : ∀ (d k : Nat), k + d = 2 ^ m → wpX9_around_5 K (d + 1) τ (nI i) (nI a) (b2i (xs (ar (τ 1 2) a i) k)) (nI k) := by
    intro d
    induction d with
    | zero =>
      intro k hk
      have hk : k = 2 ^ m := by omega
      subst hk
      unfold wpX9_around_5
      apply k_places hm h5
      exact ⟨fun _ => hK, fun q => absurd (Int32.le_refl _) q⟩
    | succ d ih =>
      intro k hk
      unfold wpX9_around_5
      apply k_places hm h5
      refine ⟨fun q => ?_, fun _ t18 e18 => ?_⟩
      · rw [nI_leI (by omega) (by omega)] at q
        omega
      · rw [e18]
        have ih2 := ih (k + 1) (by omega)
        rw [xs, ← b2i_xor] at ih2
        have hb := am_bit a ha i hi k (by omega)
        refine ⟨fun q t49 e49 t50 e50 => ?_, fun q => ⟨fun q2 t49 e49 t50 e50 => ?_, fun q2 => ?_⟩⟩
        · rw [e49, e50, nI_1]
          have : ar (τ 1 2) a i k = false := by unfold ar; rw [hb, decide_eq_false (fun z => z q)]; simp
          rw [this] at ih2
          exact ih2
        · rw [e49, e50, nI_1]
          have : ar (τ 1 2) a i k = false := by unfold ar; rw [hb, decide_eq_false q2]; simp
          rw [this] at ih2
          exact ih2
        · apply k_theWord
          intro t49 e49 t50 e50
          rw [e49, e50, nI_1, bit_s _ (by omega)]
          have : ar (τ 1 2) a i k = bt (τ 1 2) k := by unfold ar; rw [hb, decide_eq_true q, decide_eq_true q2]; simp
          rw [this] at ih2
          exact ih2
  exact ⟨2 ^ m + 1, L (2 ^ m) 0 (by omega)⟩
def akf (o m : Nat) (w : Int32) (i a : Nat) : Int32 := if pcF 5 a = o + 1 then (if xs (ar w a i) (2 ^ m) then 1 else -1) else 0
theorem e_asked {σ τ : wx_Z} (x : Int32) (h : RR σ τ) : wpX8_asked σ x (fun a σ' => wpX9_asked τ x (fun a' τ' => a = a' ∧ RR σ' τ')) := by
  obtain ⟨o, m, x', c, n, hx⟩ := id (RR.rx h)
  have h5 := hx.h5
  have hom := hx.hom
  have hp := p2_le h5
  have co := hx.co
  have b5 : ∀ t, t < 32 → pcF 5 t ≤ 5 := by decide +kernel
  unfold wpX8_asked
  apply q_hasPlace co
  · intro j hj e
    subst e
    refine ⟨fun _ => ?_, fun z => absurd z (by decide)⟩
    rw [co.1, co.2.1]
    have km : ∀ K : Int32 → wx_Z → Prop, (¬ nI o = nI m → (sI (akf o m (σ (cSt 0) 2) j) (2 ^ m) ≤ 0 → K 0 τ) ∧ (¬ (sI (akf o m (σ (cSt 0) 2) j) (2 ^ m) ≤ 0) → K 1 τ)) → (nI o = nI m → wpX9_no τ (-3) K) → wpX9_asked τ (nI j) K := by
      intro K hK hN
      unfold wpX9_asked
      apply k_isPlace hx.t1 h5 _ (fun z => absurd rfl (out_not (by omega) z hj))
      intro _ _ _
      refine ⟨fun _ => ?_, fun z => absurd z (by decide)⟩
      apply k_order
      apply k_length
      rw [hx.t0, hx.t1]
      refine ⟨fun q => ?_, fun q => hN q⟩
      have hK := hK q
      have L : ∀ (d a : Nat), a + d = 2 ^ m → wpX9_asked_37 K (d + 1) τ (nI j) (sI (akf o m (σ (cSt 0) 2) j) a) (nI a) := by
        intro d
        induction d with
        | zero =>
          intro a ha
          have ha : a = 2 ^ m := by omega
          subst ha
          unfold wpX9_asked_37
          apply k_places hx.t1 h5
          exact ⟨fun _ => hK, fun q => absurd (Int32.le_refl _) q⟩
        | succ d ih =>
          intro a ha
          unfold wpX9_asked_37
          apply k_places hx.t1 h5
          refine ⟨fun q => ?_, fun _ => ?_⟩
          · rw [nI_leI (by omega) (by omega)] at q
            omega
          · apply k_bits
            rw [pc_5 a (by omega)]
            apply k_order
            have hb5 := b5 a (by omega)
            rw [hx.t0, nI_1, nI_eq (by omega) (by omega)]
            have ih2 := ih (a + 1) (by omega)
            rw [sI] at ih2
            refine ⟨fun q t76 e76 => ?_, fun q => ?_⟩
            · rw [e76, nI_1]
              rw [show akf o m (σ (cSt 0) 2) j a = 0 from if_neg q, Int32.add_zero] at ih2
              exact ih2
            · apply k_around hx.t1 h5 (by omega) (by omega)
              rw [hx.tw, b2i_1]
              have ea : akf o m (σ (cSt 0) 2) j a = if xs (ar (σ (cSt 0) 2) a j) (2 ^ m) then 1 else -1 := if_pos q
              rw [ea] at ih2
              refine ⟨fun q2 t75 e75 t76 e76 => ?_, fun q2 t75 e75 t76 e76 => ?_⟩
              · rw [e75, e76, nI_1]
                rw [if_neg q2] at ih2
                exact ih2
              · rw [e75, e76, nI_1]
                rw [if_pos q2] at ih2
                exact ih2
      exact ⟨2 ^ m + 1, L (2 ^ m) 0 (by omega)⟩
    refine ⟨fun q => ?_, fun q => ?_⟩
    · have L : ∀ (d a : Nat), a + d = 2 ^ m → wpX8_asked_55 (fun a σ' => wpX9_asked τ (nI j) (fun a' τ' => a = a' ∧ RR σ' τ')) (d + 1) σ (nI j) (sI (akf o m (σ (cSt 0) 2) j) a) (nI a) := by
        intro d
        induction d with
        | zero =>
          intro a ha
          have ha : a = 2 ^ m := by omega
          subst ha
          unfold wpX8_asked_55
          rw [co.2.2.1]
          refine ⟨fun _ => ⟨fun q2 => ?_, fun q2 => ?_⟩, fun q => absurd (Int32.le_refl _) q⟩
          · exact km _ (fun _ => ⟨fun _ => ⟨rfl, h⟩, fun z => absurd q2 z⟩) (fun z => absurd z q)
          · exact km _ (fun _ => ⟨fun z => absurd z q2, fun _ => ⟨rfl, h⟩⟩) (fun z => absurd z q)
        | succ d ih =>
          intro a ha
          unfold wpX8_asked_55
          rw [co.2.2.1]
          refine ⟨fun q => ?_, fun _ => ?_⟩
          · rw [nI_leI (by omega) (by omega)] at q
            omega
          · apply k_bitCount
            rw [pc_5 a (by omega)]
            have hb5 := b5 a (by omega)
            rw [co.1, nI_1, nI_eq (by omega) (by omega)]
            have ih2 := ih (a + 1) (by omega)
            rw [sI] at ih2
            refine ⟨fun q t76 e76 => ?_, fun q => ?_⟩
            · rw [e76, nI_1]
              rw [show akf o m (σ (cSt 0) 2) j a = 0 from if_neg q, Int32.add_zero] at ih2
              exact ih2
            · apply q_partsOf
              intro t104 e104
              have e104 : t104 = am a j := e104
              rw [e104]
              apply q_isOdd
              rw [ar_32 h5 hx.hw, b2i_0]
              have ea : akf o m (σ (cSt 0) 2) j a = if xs (ar (σ (cSt 0) 2) a j) (2 ^ m) then 1 else -1 := if_pos q
              rw [ea] at ih2
              refine ⟨fun q2 t75 e75 t76 e76 => ?_, fun q2 t75 e75 t76 e76 => ?_⟩
              · rw [e75, e76, nI_1]
                rw [if_neg (by rw [q2]; decide)] at ih2
                exact ih2
              · rw [e75, e76, nI_1]
                rw [if_pos (by
                  cases hh : xs (ar (σ (cSt 0) 2) a j) (2 ^ m)
                  · exact absurd hh q2
                  · rfl)] at ih2
                exact ih2
      exact ⟨2 ^ m + 1, L (2 ^ m) 0 (by omega)⟩
    · apply q_no
      exact km _ (fun z => absurd q z) (fun _ => k_no ⟨rfl, R_no h⟩)
  · intro ho
    refine ⟨fun z => absurd rfl z, fun _ => ?_⟩
    apply q_bad
    show wpX9_asked τ x _
    unfold wpX9_asked
    apply k_isPlace hx.t1 h5 (fun j hj e => absurd e (out_not (by omega) ho hj))
    intro _
    exact ⟨fun z => absurd rfl z, fun _ => k_bad ⟨rfl, R_bad h⟩⟩
/-! ===== the text ===== -/
theorem RX.text {σ τ σ1 τ1 : wx_Z} {o m x c n n' : Nat} (h : RX σ τ o m x c n) (hf : fr [43, 44] σ σ1) (hM : ∀ c k, ¬ (c = 11) → ¬ (c = 0 ∧ k = 21) → τ1 c k = τ c k) (ht : RT σ1 τ1 n') : RX σ1 τ1 o m x c n' := by
  obtain ⟨⟨hl1, l1, l2, l3, l4⟩, ⟨p1, p2, p3, p4, p5, p6⟩, -, c1, c2, c3⟩ := h
  have g43 : ∀ g, g < 10 → ∀ c ∈ gl g, c ∉ [43, 44] := fun g hg c hc z => by
    have := gl_in hc
    simp at z
    omega
  have e41 := hf 41 (by decide)
  have e0 := hf 0 (by decide)
  have m1 : ∀ k, τ1 1 k = τ 1 k := fun k => hM 1 k (by decide) (by omega)
  refine ⟨⟨hl1.fr hf (g43 0 (by decide)), ?_⟩, ⟨p1, p2, by rw [e41]; exact p3, by rw [e41]; exact p4, (hM 0 2 (by decide) (by decide)).trans p5, fun i hi => ?_⟩, ht, ?_, ?_, ?_⟩
  · refine EQ.fr (σ := σ) ⟨(m1 _).trans l1, (m1 _).trans l2, (m1 _).trans l3, fun i hi => (m1 _).trans (l4 i hi)⟩ hf (g43 0 (by decide))
  · obtain ⟨⟨o', m', q1⟩, k1, k2, k3, k4⟩ := p6 i hi
    have hr := rg_in x c i
    have m2 : ∀ k, τ1 2 k = τ 2 k := fun k => hM 2 k (by decide) (by omega)
    exact ⟨⟨o', m', q1.fr hf (g43 _ hr.2)⟩, EQ.fr (σ := σ) ⟨(m2 _).trans k1, (m2 _).trans k2, (m2 _).trans k3, fun j hj => (m2 _).trans (k4 j hj)⟩ hf (g43 _ hr.2)⟩
  · rw [e0]; exact (hM 3 0 (by decide) (by decide)).trans c1
  · rw [e0]; exact (hM 3 1 (by decide) (by decide)).trans c2
  · rw [e0]; exact (hM 3 2 (by decide) (by decide)).trans c3
theorem e_clear {σ τ : wx_Z} (h : RR σ τ) : wpX8_clear σ (fun a σ' => wpX9_clear τ (fun a' τ' => a = a' ∧ RR σ' τ')) := by
  obtain ⟨o, m, x, c, n, hx⟩ := id (RR.rx h)
  obtain ⟨t1, t2, t3, t4⟩ := hx.2.2.1
  intro σ1 e1 τ1 et1
  refine ⟨t2.trans t3.symm, (hx.text (n' := 0) ?_ ?_ ⟨by omega, ?_, ?_, fun i hi => absurd hi (by omega)⟩).rr⟩
  · rw [e1]; exact fr.rf.up (by simp)
  · intro c' k' _ hn
    rw [et1, up_at, if_neg hn]
  · rw [e1, up_s]; rfl
  · rw [et1, up_s]; rfl
theorem nar_byte {x : Int32} (h0 : 0 ≤ x.toInt) (h1 : x.toInt ≤ 127) : vp_nar .byte ((Int32.toInt8 x).toInt32) = x := by
  have e := fb_byte (x := x) (by omega) (by omega)
  rw [e]
  exact e
theorem e_type {σ τ : wx_Z} (v : Int32) (h : RR σ τ) : wpX8_type σ v (fun a σ' => wpX9_type τ v (fun a' τ' => a = a' ∧ RR σ' τ')) := by
  obtain ⟨o, m, x, c, n, hx⟩ := id (RR.rx h)
  obtain ⟨t1, t2, t3, t4⟩ := hx.2.2.1
  have lit : ((0 : Int64) = (0 : Int32).toInt64) ∧ ((127 : Int64) = (127 : Int32).toInt64) := ⟨rfl, rfl⟩
  have bad : ¬ (0 ≤ v ∧ v ≤ 127) → wpX8_refuseBad σ (-2) (fun r30 σ30 => wpX9_type τ v (fun a' τ' => r30 = a' ∧ RR σ30 τ')) := by
    intro q
    apply q_bad
    show wpX9_type τ v _
    unfold wpX9_type
    rw [lit.1, lit.2]
    apply k_inI
    · intro h1 h2; exact absurd ⟨h1, h2⟩ q
    · intro _
      exact ⟨fun z => absurd rfl z, fun _ => k_bad ⟨rfl, R_bad h⟩⟩
  unfold wpX8_type
  refine ⟨fun q => bad (fun z => absurd q (nn0.mpr z.1)), fun q => ⟨fun q2 => ?_, fun q2 => bad (fun z => q2 z.2)⟩⟩
  have q1 : 0 ≤ v := nn0.mp q
  have vb : 0 ≤ v.toInt ∧ v.toInt ≤ 127 := by
    have a := q1
    have b := q2
    rw [Int32.le_iff_toInt_le] at a b
    exact ⟨a, b⟩
  have km : ∀ K : Int32 → wx_Z → Prop, ((¬ nI n = 120 → (vp_in (nI n) 120 ∧ (∀ σ42 : wx_Z, σ42 = wx_up τ 11 (Int32.toNatClampNeg (nI n)) v → (∀ σ50 : wx_Z, σ50 = wx_up σ42 0 21 ((σ42 0 21) + 1) → K (σ50 0 21) σ50)))) ∧ (nI n = 120 → (wpX9_full τ <| fun r29 σ29 => K r29 σ29))) → wpX9_type τ v K := by
    intro K hK
    unfold wpX9_type
    rw [lit.1, lit.2]
    apply k_inI _ (fun z => absurd ⟨q1, q2⟩ z)
    intro _ _
    refine ⟨fun _ => ?_, fun z => absurd z (by decide)⟩
    rw [t3]
    exact hK
  rw [t2, show (120 : Int32) = nI 120 from rfl]
  refine ⟨fun q3 => ?_, fun q3 => ?_⟩
  · rw [nI_ltI (by omega) (by omega)] at q3
    unfold wpX6_append
    rw [t2, show (120 : Int32) = nI 120 from rfl]
    refine ⟨fun z => absurd z (nI_ge q3 (by omega)), fun _ => ⟨vi q3, fun σ1 e1 σ2 e2 => ?_⟩⟩
    rw [cln (by omega), nar_byte vb.1 vb.2] at e1
    have e1' : σ1 43 2 = nI n := by rw [e1, up_c (by decide), t2]
    rw [e1', nI_1] at e2
    refine km _ ⟨fun _ => ⟨vi q3, fun τ1 et1 τ2 et2 => ?_⟩, fun z => ?_⟩
    · rw [cln (by omega)] at et1
      have et1' : τ1 0 21 = nI n := by rw [et1, up_c (by decide), t3]
      rw [et1', nI_1] at et2
      refine ⟨by rw [e2, et2, up_s, up_s], (hx.text (n' := n + 1) ?_ ?_ ⟨by omega, ?_, ?_, fun i hi => ?_⟩).rr⟩
      · rw [e2, e1]; exact (fr.rf.up (by simp)).up (by simp)
      · intro c' k' hn1 hn2
        rw [et2, up_at, if_neg hn2, et1, up_c hn1]
      · rw [e2, up_s]
      · rw [et2, up_s]
      · rw [e2, up_c (by decide), et2, up_c (by decide), e1, et1]
        by_cases q4 : i = n
        · subst q4
          rw [up_s, up_s]
          exact ⟨rfl, vb⟩
        · rw [up_k q4, up_k q4]
          exact t4 i (by omega)
    · rw [show (120 : Int32) = nI 120 from rfl, nI_eq (by omega) (by omega)] at z
      omega
  · rw [nI_ltI (by omega) (by omega)] at q3
    have hn : n = 120 := by omega
    subst hn
    intro σ1 e1
    refine km _ ⟨fun z => absurd rfl z, fun _ => ?_⟩
    rw [e1]
    exact k_full ⟨rfl, R_full h⟩
/-! ===== told ===== -/
theorem e_toldOf {σ τ : wx_Z} {j : Nat} (h : RR σ τ) (hj : j < 5) : wpX8_told σ (nI j) (fun a σ' => wpX9_toldOf τ (nI j) (fun a' τ' => a = a' ∧ RR σ' τ' ∧ σ' = σ ∧ τ' = τ)) := by
  obtain ⟨o, m, x, c, n, hx⟩ := id (RR.rx h)
  obtain ⟨c1, c2, c3⟩ := hx.2.2.2
  obtain ⟨t1, t2, t3, t4⟩ := hx.2.2.1
  obtain ⟨p1, p2, p3, p4, p5, p6⟩ := hx.2.1
  unfold wpX8_told
  rcases (show j = 0 ∨ j = 1 ∨ j = 2 ∨ j = 3 ∨ j = 4 by omega) with rfl | rfl | rfl | rfl | rfl
  · refine ⟨fun _ => ?_, fun z => absurd z (by decide), fun z => absurd z (by decide), fun z => absurd z (by decide), fun z => absurd z (by decide), fun z => absurd rfl z⟩
    exact ⟨fun z => absurd z (by decide), fun _ => ⟨vi (n := 0) (by decide), c1.symm, h, rfl, rfl⟩⟩
  · refine ⟨fun z => absurd z (by decide), fun _ => ?_, fun z => absurd z (by decide), fun z => absurd z (by decide), fun z => absurd z (by decide), fun _ z => absurd rfl z⟩
    exact ⟨fun z => absurd z (by decide), fun _ => ⟨vi (n := 1) (by decide), c2.symm, h, rfl, rfl⟩⟩
  · refine ⟨fun z => absurd z (by decide), fun z => absurd z (by decide), fun _ => ?_, fun z => absurd z (by decide), fun z => absurd z (by decide), fun _ _ z => absurd rfl z⟩
    exact ⟨fun z => absurd z (by decide), fun _ => ⟨vi (n := 2) (by decide), c3.symm, h, rfl, rfl⟩⟩
  · refine ⟨fun z => absurd z (by decide), fun z => absurd z (by decide), fun z => absurd z (by decide), fun _ => ?_, fun z => absurd z (by decide), fun _ _ _ z => absurd rfl z⟩
    exact ⟨fun _ => ⟨fun z => absurd rfl z, fun _ => ⟨t2.trans t3.symm, h, rfl, rfl⟩⟩, fun z => absurd (by decide) z⟩
  · refine ⟨fun z => absurd z (by decide), fun z => absurd z (by decide), fun z => absurd z (by decide), fun z => absurd z (by decide), fun _ => ?_, fun _ _ _ _ z => absurd rfl z⟩
    exact ⟨fun _ => ⟨fun _ => ⟨p4.trans p5.symm, h, rfl, rfl⟩, fun z => absurd z (by decide)⟩, fun z => absurd (by decide) z⟩
theorem w_told {σ : wx_Z} {x : Int32} {K1 K2 : Int32 → wx_Z → Prop} (hK : ∀ a σ', K1 a σ' → K2 a σ') (h : wpX8_told σ x K1) : wpX8_told σ x K2 :=
  ⟨fun z => hK _ _ (h.1 z), fun z => hK _ _ (h.2.1 z), fun z => hK _ _ (h.2.2.1 z), fun z => hK _ _ (h.2.2.2.1 z), fun z => hK _ _ (h.2.2.2.2.1 z), fun a b c d e σ1 e1 => hK _ _ (h.2.2.2.2.2 a b c d e σ1 e1)⟩
theorem w_toldOf {τ : wx_Z} {x : Int32} {K1 K2 : Int32 → wx_Z → Prop} (hK : ∀ a σ', K1 a σ' → K2 a σ') (h : wpX9_toldOf τ x K1) : wpX9_toldOf τ x K2 :=
  ⟨fun z => ⟨fun y => hK _ _ ((h.1 z).1 y), fun y => hK _ _ ((h.1 z).2 y)⟩, fun z => ⟨(h.2 z).1, hK _ _ (h.2 z).2⟩⟩
theorem e_told {σ τ : wx_Z} (v : Int32) (h : RR σ τ) : wpX8_told σ v (fun a σ' => wpX9_told τ v (fun a' τ' => a = a' ∧ RR σ' τ')) := by
  have lit : ((0 : Int64) = (0 : Int32).toInt64) ∧ ((4 : Int64) = (4 : Int32).toInt64) := ⟨rfl, rfl⟩
  rcases pk_ix v (n := 5) (by omega) with z | z | ⟨j, hj, e⟩
  · have bd : ∀ K : Int32 → wx_Z → Prop, wpX9_bad τ (-2) K → wpX9_told τ v K := by
      intro K hK
      unfold wpX9_told
      rw [lit.1, lit.2]
      apply k_inI
      · intro h1 _; exact absurd z (nn0.mpr h1)
      · intro _; exact ⟨fun _ => hK, fun z => absurd rfl z⟩
    have ne : ∀ j : Nat, j < 5 → v = nI j → False := fun j hj e => by subst e; exact nI_pos (by omega) z
    refine ⟨fun e => (ne 0 (by omega) e).elim, fun e => (ne 1 (by omega) e).elim, fun e => (ne 2 (by omega) e).elim, fun e => (ne 3 (by omega) e).elim, fun e => (ne 4 (by omega) e).elim, fun _ _ _ _ _ => ?_⟩
    apply q_bad
    exact bd _ (k_bad ⟨rfl, R_bad h⟩)
  · have bd : ∀ K : Int32 → wx_Z → Prop, wpX9_bad τ (-2) K → wpX9_told τ v K := by
      intro K hK
      unfold wpX9_told
      rw [lit.1, lit.2]
      apply k_inI
      · intro _ h2; exact absurd (Int32.le_trans z h2) (by decide)
      · intro _; exact ⟨fun _ => hK, fun z => absurd rfl z⟩
    have ne : ∀ j : Nat, j < 5 → v = nI j → False := fun j hj e => by subst e; exact nI_ge hj (by omega) z
    refine ⟨fun e => (ne 0 (by omega) e).elim, fun e => (ne 1 (by omega) e).elim, fun e => (ne 2 (by omega) e).elim, fun e => (ne 3 (by omega) e).elim, fun e => (ne 4 (by omega) e).elim, fun _ _ _ _ _ => ?_⟩
    apply q_bad
    exact bd _ (k_bad ⟨rfl, R_bad h⟩)
  · subst e
    refine w_told (fun a σ' hk => ?_) (e_toldOf h hj)
    show wpX9_told τ (nI j) _
    unfold wpX9_told
    rw [lit.1, lit.2]
    apply k_inI
    · intro _ _
      exact ⟨fun z => absurd z (by decide), fun _ => w_toldOf (fun a' τ' q => ⟨q.1, q.2.1⟩) hk⟩
    · intro q
      exact absurd ⟨nI_le (a := 0) (b := j) (Nat.zero_le j) (by omega), nI_le (a := j) (b := 4) (by omega) (by omega)⟩ q

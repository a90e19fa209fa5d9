section Next3
variable {σ : wx_Z} {t : Nat → Int32} {n p o m : Nat} {K : wx_Z → Prop}
theorem e_c (hK : ∀ σ', QN σ t n p o m σ' → K σ') (hS : ST σ 0 o m) (hpn : p ≤ n) (hs : sb t n p < n) (ex : t (sb t n p) = 99) {σ1 : wx_Z} (m1 : md sT σ σ1) (T1 : TS σ1 t n (sb t n p + 1) (-1)) : wpX8_orderCode σ1 (fun σ109 => wpX8_carryOutNext_293 K σ109) := by
  have hb := sb_le (t := t) hpn
  have hn := T1.2.2.2.2.1
  have hb2 := sb_le (t := t) (show sb t n p + 1 ≤ n by omega)
  have hE := nE_le (t := t) (lo := 0) hb2.2
  generalize hA : sb t n (sb t n p + 1) = A at *
  have hb3 := sb_le (t := t) hE.2
  generalize hB : sb t n (nE t n A 0) = B at *
  have hE2 : ∀ lo, B ≤ nE t n B lo ∧ nE t n B lo ≤ n := fun lo => nE_le (t := t) (lo := lo) hb3.2
  have mid : ∀ (τ : wx_Z), TM τ t n p → RLv σ τ o m → ∀ (K' : Int32 → wx_Z → Prop), (nOK t n A 0 5 → nOK t n B (nv t n A 0) 5 → ∀ τq, md sE τ τq → TM τq t n (nE t n B (nv t n A 0)) → (τq 0 24 = nv t n A 0 ∧ τq 0 23 = nv t n B (nv t n A 0)) → wpX9_readsOne_203 K' τq 99 1) → (nOK t n A 0 5 → ¬ nOK t n B (nv t n A 0) 5 → ∀ τq, md sE τ τq → TM τq t n B → K' 0 τq) → (¬ nOK t n A 0 5 → ∀ τq, md sE τ τq → TM τq t n A → K' 0 τq) → wpX9_readsOne τ K' := by
    intro τ hM hR K' hyy hyn hno
    refine k_mid hM hs ex (lt7_0.mpr (by decide)) (fun τ2 m2 T2 => ⟨fun z => absurd rfl z, fun _ => ?_⟩)
    have t24 : ∀ {τ3 τ4 : wx_Z} {q : Nat} {v : Int32}, τ4 = wx_up τ3 0 24 v → TM τ3 t n q → TM τ4 t n q := by
      intro τ3 τ4 q v e4 T3
      rw [e4]
      refine T3.of ?_ ?_ (fun k => ?_)
      · rw [up_k (by decide)]
      · rw [up_k (by decide)]
      · rw [up_c (by decide)]
    apply k_takes T2
    · rw [hA]
      intro ok τ3 m3 T3 e23 τ4 e4
      refine ⟨fun z => absurd z (by decide), fun _ => ?_⟩
      have m4 : md sE τ τ4 := by rw [e4]; exact ((mdE_22 m2).tr (md_RE (md_R2 m3))).up (by decide)
      have e24 : τ4 0 24 = nv t n A 0 := by rw [e4, up_s, e23]
      rw [e24]
      apply k_takes (t24 e4 T3)
      · rw [hB]
        intro ok2 τ5 m5 T5 e5
        exact ⟨fun z => absurd z (by decide), fun _ => hyy ok ok2 τ5 (m4.tr (md_RE (md_R2 m5))) T5 ⟨(m5 0 24 rfl).trans e24, e5⟩⟩
      · rw [hB]
        intro no τ5 m5 T5
        exact ⟨fun _ => ⟨fun _ => hyn ok no τ5 (m4.tr (md_RE (md_R2 m5))) T5, fun z => absurd rfl z⟩, fun z => absurd rfl z⟩
    · rw [hA]
      intro no τ3 m3 T3 τ4 e4
      refine ⟨fun _ => ⟨fun _ => hno no τ4 ?_ (t24 e4 T3), fun z => absurd rfl z⟩, fun z => absurd rfl z⟩
      rw [e4]; exact ((mdE_22 m2).tr (md_RE (md_R2 m3))).up (by decide)
  have tl1 : ∀ (σ2 σ3 : wx_Z), md sT σ1 σ2 → fr (gl 0) σ2 σ3 → ∀ {q f}, TS σ2 t n q f → TS σ3 t n q f ∧ md sD σ σ3 := by
    intro σ2 σ3 m2 f3 q f T2
    refine ⟨T2.of (fun k => by rw [f3 43 (by decide)]) (fun k => by rw [f3 44 (by decide)]), ?_⟩
    exact ((md_TD m1).tr (md_TD m2)).tr (md_FD f3 (fun c hc => by have := gl_in hc; omega))
  have bad : ∀ (σ2 : wx_Z) (r m' s q : Nat), r ≤ m' → m' ≤ 5 → md sT σ1 σ2 → TS σ2 t n q (nI s) → p < q → s ≤ 120 → (∀ τ, TM τ t n p → RLv σ τ o m → MB τ s) → wpX5_start 0 σ2 (nI r) (nI m') (fun σ109 => wpX8_carryOutNext_293 K σ109) := by
    intro σ2 r m' s q hr hm' m2 T2 hpq hs2 hMB
    apply q_start hr hm'
    intro σ3 f3 s3 _ _
    obtain ⟨T3, D3⟩ := tl1 σ2 σ3 m2 f3 T2
    refine e_tail (x := 99) (o' := r) (m' := m') (D := fun _ _ => True) hK T3 D3 hpq (Or.inr ⟨s, hs2, rfl, hMB⟩) (fun _ _ _ _ _ => trivial) ?_ ?_ ?_
    · intro z; exact absurd z (nI_nm hs2)
    · intro z; exact absurd z (nI_nm hs2)
    · intro z; exact absurd z (nI_nm hs2)
  unfold wpX8_orderCode
  apply q_readNumber T1
  · rw [hA]
    intro ok σ2 m2 T2
    obtain ⟨r, hr, er⟩ := nI_of2 (M := 5) (n := 5) rfl (nn0.mpr ok.2.1) ok.2.2
    apply q_readNumber T2
    · rw [hB]
      intro ok2 σ3 m3 T3
      have h0 : 0 ≤ nv t n B (nv t n A 0) := Int32.le_trans ok.2.1 ok2.2.1
      obtain ⟨m', hm', em⟩ := nI_of2 (M := 5) (n := 5) rfl (nn0.mpr h0) ok2.2.2
      have hrm : r ≤ m' := by
        have := ok2.2.1
        rw [er] at this em
        rw [em, nI_leI (by omega) (by omega)] at this
        exact this
      have eE := hE2 (nv t n A 0)
      rw [em, er]
      apply q_start hrm hm'
      intro σ4 f4 s4 w4 z4
      obtain ⟨T4, D4⟩ := tl1 σ3 σ4 (m2.tr m3) f4 T3
      refine e_tail (x := 99) (o' := r) (m' := m') (D := fun τ τ' => τ' 0 24 = nv t n A 0 ∧ τ' 0 23 = nv t n B (nv t n A 0)) hK T4 D4 (by omega) (Or.inl rfl) (fun τ τ1 τ2 hm hd => ⟨(hm 0 24 rfl).trans hd.1, (hm 0 23 rfl).trans hd.2⟩) ?_ ?_ ?_
      · intro _; exact s4
      · intro _ τ hM hR K' hk
        exact mid τ hM hR K' (fun _ _ => hk) (fun _ z => absurd ok2 z) (fun z => absurd ok z)
      · intro _ τ hM hR τ3 p' T3' D3' K' hk
        refine ⟨fun _ => ?_, fun z => absurd z (by decide), fun z => absurd z (by decide), fun z => absurd z (by decide), fun z => absurd z (by decide), fun z => absurd z (by decide), fun z => absurd rfl z⟩
        rw [D3'.1, D3'.2, em, er]
        apply k_becomesCode
        intro τ5 d5 c0 c1 c2
        refine hk τ5 (fun c k q => d5 c k (fun z => ?_)) ?_ ?_
        · subst z; unfold sE at q; simp at q
        · exact T3'.of (d5 0 21 (by decide)) (d5 0 22 (by decide)) (fun k => d5 11 k (by decide))
        · exact RLv.new s4 w4 z4 c0 c1 c2
    · rw [hB]
      intro no σ3 m3 T3
      have eE := hE2 (nv t n A 0)
      rw [er]
      rw [er] at T3
      exact bad σ3 r r B _ (Nat.le_refl _) hr (m2.tr m3) T3 (by rw [← er]; omega) (by omega) (fun τ hM hR K' hk => mid τ hM hR K' (fun _ z => absurd z no) (fun _ _ τq mq Tq => hk τq mq Tq.2.2.1) (fun z => absurd ok z))
  · rw [hA]
    intro no σ2 m2 T2
    have hMB : ∀ τ, TM τ t n p → RLv σ τ o m → MB τ A := fun τ hM hR K' hk => mid τ hM hR K' (fun z => absurd z no) (fun z => absurd z no) (fun _ τq mq Tq => hk τq mq Tq.2.2.1)
    have eE := hE2 0
    apply q_readNumber T2
    · rw [hB]
      intro ok2 σ3 m3 T3
      obtain ⟨m', hm', em⟩ := nI_of2 (M := 5) (n := 5) rfl (nn0.mpr ok2.2.1) ok2.2.2
      rw [em]
      exact bad σ3 0 m' A _ (by omega) hm' (m2.tr m3) T3 (by omega) (by omega) hMB
    · rw [hB]
      intro _ σ3 m3 T3
      have T3' : TS σ3 t n (nE t n B 0) (nI A) := by
        have : fa (fa (-1) A) B = nI A := by
          show fa (nI A) B = nI A
          unfold fa
          rw [if_neg (nI_nm (by omega))]
        rw [this] at T3
        exact T3
      exact bad σ3 0 0 A _ (by omega) (by omega) (m2.tr m3) T3' (by omega) (by omega) hMB
theorem e_next (hK : ∀ σ', QN σ t n p o m σ' → K σ') (hS : ST σ 0 o m) (hT : TS σ t n p (-1)) : wpX8_carryOutNext σ K := by
  have hpn := hT.2.2.2.2.2.1
  have hn := hT.2.2.2.2.1
  have hb := sb_le (t := t) hpn
  unfold wpX8_carryOutNext
  apply q_readOneOf (by omega) hT
  · intro hs hl σ1 m1 T1
    refine ⟨fun e => e_c hK hS hpn hs e m1 T1, fun e => e_f hK hS hpn hs e m1 T1, fun e => e_h hK hS hpn hs e m1 T1, fun e => e_m hK hS hpn hs e m1 T1, fun e => e_s hK hS hpn hs e m1 T1, fun e => e_v hK hS hpn hs e m1 T1, fun e => e_w hK hS hpn hs e m1 T1, fun a1 a2 a3 a4 a5 a6 a7 => ?_⟩
    rw [lt7_0] at hl
    rcases hl with z | z | z | z | z | z | z
    · exact absurd z a1
    · exact absurd z a4
    · exact absurd z a7
    · exact absurd z a2
    · exact absurd z a6
    · exact absurd z a5
    · exact absurd z a3
  · intro hnl σ1 m1 T1
    refine ⟨fun z => absurd z (by decide), fun z => absurd z (by decide), fun z => absurd z (by decide), fun z => absurd z (by decide), fun z => absurd z (by decide), fun z => absurd z (by decide), fun z => absurd z (by decide), fun _ _ _ _ _ _ _ => ?_⟩
    refine hK σ1 (Or.inl ⟨sb t n p, by omega, T1.2.2.2.1, md_TD m1, fun τ hM hR K' hk => ?_⟩)
    unfold wpX9_readsOne
    apply k_here hM
    intro τ1 m2 T2
    have nl : ∀ c : Int32, (c = 99 ∨ c = 109 ∨ c = 119 ∨ c = 102 ∨ c = 118 ∨ c = 115 ∨ c = 104) → ¬ (if sb t n p < n then t (sb t n p) else -1) = c := by
      intro c hc e
      by_cases q : sb t n p < n
      · rw [if_pos q] at e
        exact hnl ⟨q, lt7_0.mpr (by rw [e]; exact hc)⟩
      · rw [if_neg q] at e
        subst e
        exact absurd hc (by decide)
    refine ⟨fun z => absurd z (nl _ (by decide)), fun _ => ⟨fun z => absurd z (nl _ (by decide)), fun _ => ⟨fun z => absurd z (nl _ (by decide)), fun _ => ⟨fun z => absurd z (nl _ (by decide)), fun _ => ⟨fun z => absurd z (nl _ (by decide)), fun _ => ⟨fun z => absurd z (nl _ (by decide)), fun _ => ⟨fun z => absurd z (nl _ (by decide)), fun _ => ?_⟩⟩⟩⟩⟩⟩⟩
    exact hk τ1 (mdE_22 m2) T2.2.2.1
end Next3
theorem RLv.same35 {σ σ' τ τ' : wx_Z} {o m : Nat} (h : RLv σ τ o m) (hc : ∀ c k, 1 ≤ c → c ≤ 4 → σ' c k = σ c k) (hm : ∀ k, k < 35 → τ' 1 k = τ 1 k) : RLv σ' τ' o m := by
  have h1 := h.same hc (fun _ => rfl)
  obtain ⟨s1, e1, e2, e3, e4⟩ := h1
  exact ⟨s1, (hm _ (by omega)).trans e1, (hm _ (by omega)).trans e2, (hm _ (by omega)).trans e3, fun i hi => (hm _ (by omega)).trans (e4 i hi)⟩
/-! ===== does ===== -/
theorem k_aside {τ : wx_Z} {K : Int32 → wx_Z → Prop} (hK : ∀ τ', (∀ c k, ¬ c = 12 → ¬ (c = 0 ∧ k = 22) → τ' c k = τ c k) → τ' 0 22 = 0 → (∀ k, k < 35 → τ' 12 k = τ 1 k) → ∃ n35, wpX9_does_35 K n35 τ' 0 1) : wpX9_does τ K := by
  have L : ∀ (d k : Nat) (τ' : wx_Z), k + d = 35 → (∀ c k, ¬ c = 12 → τ' c k = τ c k) → (∀ j, j < k → τ' 12 j = τ 1 j) → wpX9_does_6 K (d + 1) τ' 0 1 (nI k) := by
    intro d
    induction d with
    | zero =>
      intro k τ' hk hm h1
      have hk : k = 35 := by omega
      subst hk
      unfold wpX9_does_6
      refine ⟨fun _ τ2 e2 => hK τ2 ?_ ?_ ?_, fun q => absurd (by decide) q⟩
      · intro c k h1 h2; rw [e2, up_at, if_neg h2]; exact hm c k h1
      · rw [e2, up_s]
      · intro k hk; rw [e2, up_c (by decide)]; exact h1 k hk
    | succ d ih =>
      intro k τ' hk hm h1
      unfold wpX9_does_6
      rw [cln (by omega)]
      refine ⟨fun q => ?_, fun _ => ⟨vi (by omega), vi (by omega), fun τ2 e2 t24 e24 => ?_⟩⟩
      · rw [show (35 : Int32) = nI 35 from rfl, nI_leI (by omega) (by omega)] at q
        omega
      · rw [e24, nI_1, e2]
        refine ih (k + 1) _ (by omega) (fun c j hc => by rw [up_c hc]; exact hm c j hc) (fun j hj => ?_)
        by_cases q : j = k
        · subst q; rw [up_s, hm 1 _ (by decide)]
        · rw [up_k q]; exact h1 j (by omega)
  exact ⟨36, L 35 0 τ (by omega) (fun _ _ _ => rfl) (fun j hj => absurd hj (by omega))⟩
theorem k_restore {τ : wx_Z} {K : Int32 → wx_Z → Prop} (hK : ∀ τ', (∀ c k, ¬ c = 1 → τ' c k = τ c k) → (∀ k, k < 35 → τ' 1 k = τ 12 k) → K (-10 - τ 0 22) τ') : ∃ n, wpX9_does_48 K n τ 0 := by
  have L : ∀ (d k : Nat) (τ' : wx_Z), k + d = 35 → (∀ c k, ¬ c = 1 → τ' c k = τ c k) → (∀ j, j < k → τ' 1 j = τ 12 j) → wpX9_does_48 K (d + 1) τ' (nI k) := by
    intro d
    induction d with
    | zero =>
      intro k τ' hk hm h1
      have hk : k = 35 := by omega
      subst hk
      unfold wpX9_does_48
      refine ⟨fun _ => ?_, fun q => absurd (by decide) q⟩
      rw [hm 0 22 (by decide)]
      exact hK τ' hm h1
    | succ d ih =>
      intro k τ' hk hm h1
      unfold wpX9_does_48
      rw [cln (by omega)]
      refine ⟨fun q => ?_, fun _ => ⟨vi (by omega), vi (by omega), fun τ2 e2 t24 e24 => ?_⟩⟩
      · rw [show (35 : Int32) = nI 35 from rfl, nI_leI (by omega) (by omega)] at q
        omega
      · rw [e24, nI_1, e2]
        refine ih (k + 1) _ (by omega) (fun c j hc => by rw [up_c hc]; exact hm c j hc) (fun j hj => ?_)
        by_cases q : j = k
        · subst q; rw [up_s, hm 12 _ (by decide)]
        · rw [up_k q]; exact h1 j (by omega)
  exact ⟨36, L 35 0 τ (by omega) (fun _ _ _ => rfl) (fun j hj => absurd hj (by omega))⟩
theorem k_keepsAside {τ : wx_Z} {c : Nat} {K : wx_Z → Prop} (hc : c ≤ 8) (h2 : τ 0 2 = nI c) (hK : ∀ τa τb τ', (∀ c k, ¬ c = 1 → ¬ c = 13 → τa c k = τ c k) → (∀ k, k < 35 → τa 1 k = τ 12 k) → KM τa τb c → (∀ c k, ¬ c = 1 → τ' c k = τb c k) → (∀ k, k < 35 → τ' 1 k = τ 1 k) → K τ') : wpX9_keepsAside τ K := by
  have L : ∀ (d k : Nat) (τ' : wx_Z), k + d = 35 → (∀ c k, ¬ c = 1 → ¬ c = 13 → τ' c k = τ c k) → (∀ j, j < k → τ' 1 j = τ 12 j ∧ τ' 13 j = τ 1 j) → (∀ j, k ≤ j → τ' 1 j = τ 1 j) → wpX9_keepsAside_2 K (d + 1) τ' (nI k) := by
    intro d
    induction d with
    | zero =>
      intro k τ' hk hm h1 h3
      have hk : k = 35 := by omega
      subst hk
      unfold wpX9_keepsAside_2
      refine ⟨fun _ => ?_, fun q => absurd (by decide) q⟩
      apply k_keep hc ((hm 0 2 (by decide) (by decide)).trans h2)
      intro τb hM
      have L2 : ∀ (d k : Nat) (τ'' : wx_Z), k + d = 35 → (∀ c k, ¬ c = 1 → τ'' c k = τb c k) → (∀ j, j < k → τ'' 1 j = τ 1 j) → wpX9_keepsAside_44 K (d + 1) τ'' (nI k) := by
        intro d
        induction d with
        | zero =>
          intro k τ'' hk hm2 h4
          have hk : k = 35 := by omega
          subst hk
          unfold wpX9_keepsAside_44
          exact ⟨fun _ => hK τ' τb τ'' hm (fun k hk => (h1 k hk).1) hM hm2 h4, fun q => absurd (by decide) q⟩
        | succ d ih =>
          intro k τ'' hk hm2 h4
          unfold wpX9_keepsAside_44
          rw [cln (by omega)]
          refine ⟨fun q => ?_, fun _ => ⟨vi (by omega), vi (by omega), fun τ2 e2 t24 e24 => ?_⟩⟩
          · rw [show (35 : Int32) = nI 35 from rfl, nI_leI (by omega) (by omega)] at q
            omega
          · rw [e24, nI_1, e2]
            refine ih (k + 1) _ (by omega) (fun c j hc => by rw [up_c hc]; exact hm2 c j hc) (fun j hj => ?_)
            by_cases q : j = k
            · subst q; rw [up_s, hm2 13 _ (by decide), hM.1 13 _ rfl]; exact (h1 j (by omega)).2
            · rw [up_k q]; exact h4 j (by omega)
      exact ⟨36, L2 35 0 τb (by omega) (fun _ _ _ => rfl) (fun j hj => absurd hj (by omega))⟩
    | succ d ih =>
      intro k τ' hk hm h1 h3
      unfold wpX9_keepsAside_2
      rw [cln (by omega)]
      refine ⟨fun q => ?_, fun _ => ⟨vi (by omega), vi (by omega), fun τ2 e2 => ⟨vi (by omega), vi (by omega), fun τ3 e3 t e => ?_⟩⟩⟩
      · rw [show (35 : Int32) = nI 35 from rfl, nI_leI (by omega) (by omega)] at q
        omega
      · rw [e, nI_1, e3, e2]
        refine ih (k + 1) _ (by omega) ?_ ?_ ?_
        · intro c j h4 h5; rw [up_c h4, up_c h5]; exact hm c j h4 h5
        · intro j hj
          by_cases q : j = k
          · subst q
            refine ⟨?_, ?_⟩
            · rw [up_s, up_c (by decide)]; exact hm 12 _ (by decide) (by decide)
            · rw [up_c (by decide), up_s]; exact h3 j (by omega)
          · refine ⟨?_, ?_⟩
            · rw [up_k q, up_c (by decide)]; exact (h1 j (by omega)).1
            · rw [up_c (by decide), up_k q]; exact (h1 j (by omega)).2
        · intro j hj; rw [up_k (by omega), up_c (by decide)]; exact h3 j (by omega)
  exact ⟨36, L 35 0 τ (by omega) (fun _ _ _ _ => rfl) (fun j hj => absurd hj (by omega)) (fun _ _ => rfl)⟩
theorem e_does {σ τ : wx_Z} (h : RR σ τ) : wpX8_does σ (fun a σ' => wpX9_does τ (fun a' τ' => a = a' ∧ RR σ' τ')) := by
  obtain ⟨o, m, x, c, n, hx⟩ := id (RR.rx h)
  obtain ⟨t1, t2, t3, t4⟩ := hx.2.2.1
  obtain ⟨p1, p2, p3, p4, p5, p6⟩ := hx.2.1
  obtain ⟨c1, c2, c3⟩ := hx.2.2.2
  unfold wpX8_does
  apply q_copy (g := 1) (g2 := 0) (by decide) hx.1.1
  intro σ1 f1 s1 w1 so1
  unfold wpX8_carryOutAll wpX6_rewind
  intro σ2 e2 σ3 e3
  have f1g : ∀ c k, (c ≤ 4 ∨ 9 ≤ c) → σ1 c k = σ c k := fun c k hc => by rw [f1 c (fun z => by have := gl_in z; omega)]
  have m13 : md sT σ1 σ3 := by rw [e3, e2]; exact (md.rf.up rfl).up rfl
  have T3 : TS σ3 (σ 44) n 0 (-1) := by
    refine ⟨fun i hi => ?_, ?_, ?_, ?_, t1, by omega, fun i hi => (t4 i hi).2⟩
    · rw [m13 44 i rfl, f1g 44 i (by omega)]
    · rw [m13 43 2 rfl, f1g 43 2 (by omega)]; exact t2
    · rw [e3, up_k (by decide), e2, up_s]; rfl
    · rw [e3, up_s]
  have R3 : ∀ {τ'}, (∀ k, τ' 1 k = τ 1 k) → RLv σ3 τ' o m := fun hm => hx.1.same (fun c k h1 h2 => by rw [m13 c k (by unfold sT; simp; omega), f1g c k (by omega)]) hm
  -- what holds at the end, from a state of the class that is far enough
  have B1 : ∀ σ', md sD σ3 σ' → (∀ c k, c ∈ gl 1 ∨ c = 0 ∨ (9 ≤ c ∧ c ≤ 42) ∨ c = 44 ∨ (c = 43 ∧ k = 2) → σ' c k = σ1 c k) := by
    intro σ' hd c k hc
    rw [hd c k ?_, m13 c k ?_]
    · unfold sT
      rcases hc with z | z | z | z | z
      · have := gl_in z; simp; omega
      · simp; omega
      · simp; omega
      · simp; omega
      · simp; omega
    · unfold sD
      rcases hc with z | z | z | z | z
      · have := gl_in z; simp; omega
      · simp; omega
      · simp; omega
      · simp; omega
      · simp; omega
  have ST1 : ∀ σ', md sD σ3 σ' → ST σ' 1 o m ∧ σ' (cSt 1) 2 = σ (cSt 0) 2 ∧ ∀ i, i < 32 → σ' (cSo 1) i = σ (cSo 0) i := by
    intro σ' hd
    have hg : ∀ c, c ∈ gl 1 → σ' c = σ1 c := fun c hc => funext fun k => B1 σ' hd c k (Or.inl hc)
    have hfr : fr [43] σ1 σ1 := fr.rf
    obtain ⟨a1, a2, a3, a4⟩ := s1
    refine ⟨⟨a1.same (fun k => by rw [hg _ (by simp [gl])]) (fun k => by rw [hg _ (by simp [gl])]), by rw [hg _ (by simp [gl])]; exact a2, fun i hi => by rw [hg _ (by simp [gl])]; exact a3 i hi, fun i h1 hi => by rw [hg _ (by simp [gl])]; exact a4 i h1 hi⟩, ?_, fun i hi => ?_⟩
    · rw [hg _ (by simp [gl])]; exact w1
    · rw [hg _ (by simp [gl])]; exact so1 i hi
  -- the past, the text and the counts
  have RPx : ∀ σ' τ', md sD σ3 σ' → (∀ k, τ' 2 k = τ 2 k) → τ' 0 2 = nI c → RP σ' τ' x c := by
    intro σ' τ' hd h2 h02
    refine ⟨p1, p2, ?_, ?_, h02, fun i hi => ?_⟩
    · rw [B1 σ' hd 41 1 (by omega), f1g 41 1 (by omega)]; exact p3
    · rw [B1 σ' hd 41 2 (by omega), f1g 41 2 (by omega)]; exact p4
    · obtain ⟨⟨o2, m2, k1⟩, k2⟩ := p6 i hi
      have hr := rg_in x c i
      have hg : ∀ c', c' ∈ gl (rg x c i) → σ' c' = σ c' := fun c' hc' => funext fun k => by
        have := gl_in hc'
        rw [B1 σ' hd c' k (by omega), f1g c' k (by omega)]
      obtain ⟨b1, b2, b3, b4⟩ := k1
      refine ⟨⟨o2, m2, b1.same (fun k => by rw [hg _ (by simp [gl])]) (fun k => by rw [hg _ (by simp [gl])]), by rw [hg _ (by simp [gl])]; exact b2, fun i hi => by rw [hg _ (by simp [gl])]; exact b3 i hi, fun i h1 hi => by rw [hg _ (by simp [gl])]; exact b4 i h1 hi⟩, ?_, ?_, ?_, fun j hj => ?_⟩
      · rw [h2, hg _ (by simp [gl])]; exact k2.1
      · rw [h2, hg _ (by simp [gl])]; exact k2.2.1
      · rw [h2, hg _ (by simp [gl])]; exact k2.2.2.1
      · rw [h2, hg _ (by simp [gl])]; exact k2.2.2.2 j hj
  have RTx : ∀ σ' τ', md sD σ3 σ' → (∀ k, τ' 11 k = τ 11 k) → τ' 0 21 = τ 0 21 → RT σ' τ' n := by
    intro σ' τ' hd h11 h21
    refine ⟨t1, ?_, h21.trans t3, fun i hi => ?_⟩
    · rw [B1 σ' hd 43 2 (by omega), f1g 43 2 (by omega)]; exact t2
    · rw [h11, B1 σ' hd 44 i (by omega), f1g 44 i (by omega)]; exact t4 i hi
  have RCx : ∀ σ' τ', md sD σ3 σ' → (∀ k, τ' 3 k = τ 3 k) → RC σ' τ' := by
    intro σ' τ' hd h3
    refine ⟨?_, ?_, ?_⟩
    · rw [h3, B1 σ' hd 0 8 (by omega), f1g 0 8 (by omega)]; exact c1
    · rw [h3, B1 σ' hd 0 9 (by omega), f1g 0 9 (by omega)]; exact c2
    · rw [h3, B1 σ' hd 0 10 (by omega), f1g 0 10 (by omega)]; exact c3
  -- the reference so far
  let A : wx_Z → Prop := fun τ' => (∀ k, τ' 2 k = τ 2 k) ∧ (∀ k, τ' 3 k = τ 3 k) ∧ (∀ k, τ' 11 k = τ 11 k) ∧ (∀ k, k < 35 → τ' 12 k = τ 1 k) ∧ τ' 0 2 = τ 0 2 ∧ τ' 0 21 = τ 0 21
  have Amd : ∀ {τ1 τ2}, A τ1 → md sE τ1 τ2 → A τ2 := fun ⟨b1, b2, b3, b4, b5, b6⟩ hd => ⟨fun k => (hd 2 k rfl).trans (b1 k), fun k => (hd 3 k rfl).trans (b2 k), fun k => (hd 11 k rfl).trans (b3 k), fun k hk => (hd 12 k rfl).trans (b4 k hk), (hd 0 2 rfl).trans b5, (hd 0 21 rfl).trans b6⟩
  let INV : wx_Z → Nat → Nat → Nat → Nat → Prop := fun σ' i p o' m' => ∀ (K' : Int32 → wx_Z → Prop) (N : Nat), (∀ τ', A τ' → TM τ' (σ 44) n p → RLv σ' τ' o' m' → wpX9_does_35 K' N τ' (nI i) 1) → wpX9_does τ K'
  have L : ∀ (d i p o' m' : Nat) (σ' : wx_Z), i + d = 120 → i ≤ p → (i = 0 ∨ p < n) → md sD σ3 σ' → TS σ' (σ 44) n p (-1) → ST σ' 0 o' m' → INV σ' i p o' m' →
      wpX8_carryOutAll_9 (fun r12 σ12 => (((σ12 43 3) = (-1) → (wpX4_keep 1 σ12 <| fun σ57 => wpX9_does τ (fun a' τ' => r12 = a' ∧ RR σ57 τ'))) ∧ (¬ ((σ12 43 3) = (-1)) → (wpX5_copy 0 1 σ12 <| fun σ35 => wpX9_does τ (fun a' τ' => ((-10) - (σ35 43 3)) = a' ∧ RR σ35 τ'))))) (d + 1) σ' (nI (i + 1)) := by
    intro d
    induction d with
    | zero =>
      intro i p o' m' σ' hi hip hor hd hT hS hI
      have := hT.2.2.2.2.2.1
      omega
    | succ d ih =>
      intro i p o' m' σ' hi hip hor hd hT hS hI
      have hpn := hT.2.2.2.2.2.1
      unfold wpX8_carryOutAll_9
      refine ⟨fun q => ?_, fun _ => ?_⟩
      · rw [show (120 : Int32) = nI 120 from rfl, nI_ltI (by omega) (by omega)] at q
        omega
      · refine e_next (fun σ4 hQ => ?_) hS hT
        rcases hQ with ⟨s, hs, e4, d4, hB⟩ | ⟨p', o4, m4, hpp, d4, T4, S4, hG⟩
        · have hd4 := hd.tr d4
          refine ⟨fun _ => ⟨fun z => ?_, fun _ => ?_⟩, fun z => ?_⟩
          · rw [e4] at z; exact absurd z (nI_nm hs)
          · obtain ⟨sa, wa, soa⟩ := ST1 σ4 hd4
            apply q_copy (g := 0) (g2 := 1) (by decide) sa
            intro σ5 f5 s5 w5 so5
            have e5 : σ5 43 3 = nI s := by rw [f5 43 (by decide)]; exact e4
            rw [e5]
            refine hI _ 1 (fun τ' hA hM hR => ?_)
            unfold wpX9_does_35
            refine ⟨fun z => absurd z (by decide), fun _ => ?_⟩
            refine hB τ' hM hR _ (fun τ2 m2 e22 => ⟨fun z => absurd rfl z, fun _ => ?_⟩)
            obtain ⟨b1, b2, b3, b4, b5, b6⟩ := Amd hA m2
            apply k_restore
            intro τ3 d3 r3
            rw [e22]
            refine ⟨rfl, ?_⟩
            refine RR.live (o := o) (m := m) (RPx σ4 τ2 hd4 b1 (b5.trans p5)) (RTx σ4 τ2 hd4 b3 b6) (RCx σ4 τ2 hd4 b2) f5 (fun c k hc _ => d3 c k hc) ⟨s5, ?_, ?_, ?_, ?_⟩
            · rw [r3 0 (by omega), b4 0 (by omega), s5.1.1, hx.t0]
            · rw [r3 (0 + 1) (by omega), b4 (0 + 1) (by omega), s5.1.2.1, hx.t1]
            · rw [r3 (0 + 2) (by omega), b4 (0 + 2) (by omega), w5, wa, hx.tw]
            · intro i hi
              rw [r3 _ (by omega), b4 _ (by omega), so5 i hi, soa i hi, show 0 + 3 + i = 3 + i by omega, hx.ts hi]
          · rw [e4] at z; exact absurd z (nI_nm hs)
        · have hd4 := hd.tr d4
          refine ⟨fun z => absurd T4.2.2.2.1 z, fun _ => ?_⟩
          -- one more order
          have step : ∀ (K' : Int32 → wx_Z → Prop) (N : Nat), (∀ τ', A τ' → TM τ' (σ 44) n (sb (σ 44) n p') → RLv σ4 τ' o4 m4 → wpX9_does_35 K' N τ' (nI (i + 1)) (if sb (σ 44) n p' < n then 1 else 0)) → wpX9_does τ K' := by
            intro K' N hN
            refine hI K' (N + 1) (fun τ' hA hM hR => ?_)
            unfold wpX9_does_35
            refine ⟨fun z => absurd z (by decide), fun _ => ?_⟩
            refine hG τ' hM hR _ (fun τ2 m2 hP => ⟨fun _ t80 e80 => ?_, fun z => absurd z (by decide)⟩)
            rw [e80, nI_1]
            apply k_here hP.1
            intro τ3 m3 T3'
            have hA3 := Amd (Amd hA m2) (mdE_22 m3)
            have hR3 : RLv σ4 τ3 o4 m4 := hP.2.same (fun _ _ _ _ => rfl) (m1_22 m3)
            have := hN τ3 hA3 T3' hR3
            by_cases q : sb (σ 44) n p' < n
            · rw [if_pos q] at this
              rw [if_pos q]
              refine ⟨fun z => ?_, fun _ => this⟩
              have := (t4 _ q).2.1
              rw [z] at this
              exact absurd this (by decide)
            · rw [if_neg q] at this
              rw [if_neg q]
              exact ⟨fun _ => this, fun z => absurd rfl z⟩
          have hb' := sb_le (t := σ 44) T4.2.2.2.2.2.1
          apply q_isAtEnd T4
          · intro hs σ5 m5 T5
            refine ⟨fun _ t42 e42 => ?_, fun z => absurd rfl z⟩
            rw [e42, nI_1]
            refine ih (i + 1) (sb (σ 44) n p') o4 m4 σ5 (by omega) (by omega) (Or.inr hs) (hd4.tr (md_TD m5)) T5 (S4.same0 (fun c k h1 h2 => m5 c k (by unfold sT; simp; omega))) ?_
            intro K' N hN
            refine step K' N (fun τ' hA hM hR => ?_)
            rw [if_pos hs]
            exact hN τ' hA hM (hR.same (fun c k h1 h2 => m5 c k (by unfold sT; simp; omega)) (fun _ => rfl))
          · intro hs σ5 m5 T5
            refine ⟨fun z => absurd z (by decide), fun _ => ⟨fun _ => ?_, fun z => absurd T5.2.2.2.1 z⟩⟩
            have hd5 := hd4.tr (md_TD m5)
            obtain ⟨sa, wa, soa⟩ := ST1 σ5 hd5
            have S5 : ST σ5 0 o4 m4 := S4.same0 (fun c k h1 h2 => m5 c k (by unfold sT; simp; omega))
            apply q_keep (g := 1) (by decide) sa p2 p1 (by rw [B1 σ5 hd5 41 1 (by omega), f1g 41 1 (by omega)]; exact p3) (by rw [B1 σ5 hd5 41 2 (by omega), f1g 41 2 (by omega)]; exact p4)
            intro σ6 hC
            refine step _ 1 (fun τ' hA hM hR => ?_)
            rw [if_neg (by omega)]
            unfold wpX9_does_35
            refine ⟨fun _ => ?_, fun z => absurd rfl z⟩
            obtain ⟨b1, b2, b3, b4, b5, b6⟩ := hA
            apply k_keepsAside p1 (b5.trans p5)
            intro τa τb τ2 da ra hM2 d2 r2
            refine ⟨rfl, ?_⟩
            have hpa : RP σ5 τa x c := RPx σ5 τa hd5 (fun k => (da 2 k (by decide) (by decide)).trans (b1 k)) ((da 0 2 (by decide) (by decide)).trans (b5.trans p5))
            have hEa : EQ σ5 τa 1 1 0 := by
              refine ⟨?_, ?_, ?_, fun i hi => ?_⟩
              · rw [ra 0 (by omega), b4 0 (by omega), sa.1.1, hx.t0]
              · rw [ra (0 + 1) (by omega), b4 (0 + 1) (by omega), sa.1.2.1, hx.t1]
              · rw [ra (0 + 2) (by omega), b4 (0 + 2) (by omega), wa, hx.tw]
              · rw [ra _ (by omega), b4 _ (by omega), soa i hi, show 0 + 3 + i = 3 + i by omega, hx.ts hi]
            have hp6 := R_keep hpa hC hM2 sa.1 hEa
            have nn : ∀ c', (c' ≤ 4 ∨ 43 ≤ c') → c' ∉ 41 :: gl (2 + x) := fun c' h z => by
              rcases List.mem_cons.mp z with z | z
              · omega
              · have := gl_in z
                omega
            have e11 : ∀ k, τ2 11 k = τ 11 k := fun k => by rw [d2 11 k (by decide), hM2.1 11 k rfl, da 11 k (by decide) (by decide)]; exact b3 k
            have e21 : τ2 0 21 = τ 0 21 := by rw [d2 0 21 (by decide), hM2.1 0 21 rfl, da 0 21 (by decide) (by decide)]; exact b6
            have e3k : ∀ k, τ2 3 k = τ 3 k := fun k => by rw [d2 3 k (by decide), hM2.1 3 k rfl, da 3 k (by decide) (by decide)]; exact b2 k
            refine ⟨⟨o4, m4, ?_⟩, ⟨(x + 1) % 8, min (c + 1) 8, ?_⟩, ⟨n, ?_⟩, ?_⟩
            · refine hR.same35 (fun c k h1 h2 => ?_) r2
              rw [hC.1 c (nn c (by omega)), m5 c k (by unfold sT; simp; omega)]
            · obtain ⟨g1, g2, g3, g4, g5, g6⟩ := hp6
              refine ⟨g1, g2, g3, g4, (d2 0 2 (by decide)).trans g5, fun i hi => ?_⟩
              obtain ⟨k0, k1, k2, k3, k4⟩ := g6 i hi
              exact ⟨k0, (d2 2 _ (by decide)).trans k1, (d2 2 _ (by decide)).trans k2, (d2 2 _ (by decide)).trans k3, fun j hj => (d2 2 _ (by decide)).trans (k4 j hj)⟩
            · obtain ⟨g1, g2, g3, g4⟩ := RTx σ5 τ2 hd5 e11 e21
              exact ⟨g1, by rw [hC.1 43 (nn 43 (by omega))]; exact g2, g3, fun i hi => by rw [hC.1 44 (nn 44 (by omega))]; exact g4 i hi⟩
            · obtain ⟨g1, g2, g3⟩ := RCx σ5 τ2 hd5 e3k
              exact ⟨by rw [hC.1 0 (nn 0 (by omega))]; exact g1, by rw [hC.1 0 (nn 0 (by omega))]; exact g2, by rw [hC.1 0 (nn 0 (by omega))]; exact g3⟩
  refine ⟨121, L 120 0 0 o m σ3 (by omega) (by omega) (Or.inl rfl) md.rf T3 (R3 (τ' := τ) (fun _ => rfl)).1 ?_⟩
  intro K' N hN
  apply k_aside
  intro τ' d' e22 e12
  refine ⟨N, hN τ' ⟨fun k => d' 2 k (by decide) (by omega), fun k => d' 3 k (by decide) (by omega), fun k => d' 11 k (by decide) (by omega), e12, d' 0 2 (by decide) (by decide), d' 0 21 (by decide) (by decide)⟩ ?_ ?_⟩
  · refine ⟨fun i hi => ?_, ?_, e22, t1, by omega⟩
    · rw [d' 11 i (by decide) (by omega)]; exact (t4 i hi).1
    · rw [d' 0 21 (by decide) (by decide)]; exact t3
  · exact R3 (fun k => d' 1 k (by decide) (by omega))

section Next2
variable {σ : wx_Z} {t : Nat → Int32} {n p o m : Nat} {K : wx_Z → Prop}
theorem md_ME {τ τ' : wx_Z} (h : md sMany τ τ') : md sE τ τ' := h.mono (fun c k q => by
  unfold sE at q
  unfold sMany
  simp at q ⊢
  omega)
theorem TM.many {τ τ' : wx_Z} {t : Nat → Int32} {n p : Nat} (h : TM τ t n p) (hm : md sMany τ τ') : TM τ' t n p := h.of (hm 0 21 rfl) (hm 0 22 rfl) (fun k => hm 11 k rfl)
theorem ST.soft0 {σ : wx_Z} {o m j : Nat} {v : Int32} (h : ST σ 0 o m) (hj : j < 2 ^ m) (hv : -99 ≤ v.toInt ∧ v.toInt ≤ 99) : ST (wx_up σ (cSo 0) j v) 0 o m := by
  obtain ⟨s1, s2, s3, s4⟩ := h
  obtain ⟨n1, n2, n3, n4, n5, n6⟩ := c_ne 0
  refine ⟨s1.same (fun k => up_c n3) (fun k => up_c n5), by rw [up_c n6]; exact s2, fun i hi => ?_, fun i h1 hi => ?_⟩
  · by_cases q : i = j
    · subst q; rw [up_s]; exact hv
    · rw [up_k q]; exact s3 i hi
  · rw [up_k (by omega)]; exact s4 i h1 hi
/-- word and message: hex -/
theorem e_hex {N : Nat} {x : Int32} {W : Int32 → Int32} {K1 : Int32 → wx_Z → Prop} (hN1 : 1 ≤ N) (hN2 : N ≤ 32) (hK : ∀ σ', QN σ t n p o m σ' → K σ') (hS : ST σ 0 o m) (hpn : p ≤ n) (hs : sb t n p < n) {σ1 : wx_Z} (m1 : md sT σ σ1) (T1 : TS σ1 t n (sb t n p + 1) (-1))
    (hW : ∀ v, wi v N → wi (W v) (2 ^ m)) (hW0 : wi (W 0) (2 ^ m))
    (hmd : ∀ τ, TM τ t n p → RLv σ τ o m → ∀ K' : Int32 → wx_Z → Prop, (∀ τ2, md sE τ τ2 → (∀ k, τ2 1 k = τ 1 k) → TM τ2 t n (sb t n p + 1) → wpX9_takesHex τ2 (nI N) (fun r σ' => wpX9_readsOne_203 K' σ' x r)) → wpX9_readsOne τ K')
    (hdo : ∀ τ, TM τ t n p → RLv σ τ o m → ∀ (τ3 : wx_Z) (K' : wx_Z → Prop), (∀ k, τ3 1 k = τ 1 k) → (∀ τ4, md sMany τ3 τ4 → K' (wx_up τ4 1 2 (W (τ3 0 23)))) → wpX9_doesOne τ3 x K') 
    (hK1 : ∀ r σ2, md sT σ1 σ2 → (∀ σ3, σ3 = wx_up σ2 (cSt 0) 2 (W r) → wpX8_carryOutNext_293 K σ3) → K1 r σ2) : wpX6_readHex σ1 (mk N) K1 := by
  have hb := sb_le (t := t) hpn
  have hn := T1.2.2.2.2.1
  have hby := T1.2.2.2.2.2.2
  have hS1 : ST σ1 0 o m := hS.same0 (fun c k h1 h2 => m1 c k (by unfold sT; simp; omega))
  have mk1 : ∀ {τ}, RLv σ τ o m → RLv σ1 τ o m := fun hR => hR.same (fun c k h1 h2 => m1 c k (by unfold sT; simp; omega)) (fun _ => rfl)
  have hb2 := sb_le (t := t) (show sb t n p + 1 ≤ n by omega)
  have hE := hc_le (t := t) hb2.2
  have mid : ∀ (τ : wx_Z), TM τ t n p → RLv σ τ o m → ∀ (K' : Int32 → wx_Z → Prop), (hOK t n (sb t n (sb t n p + 1)) N → ∀ τq, md sE τ τq → TM τq t n (sb t n (sb t n p + 1) + hc t n (sb t n (sb t n p + 1))) → ((∀ k, τq 1 k = τ 1 k) ∧ τq 0 23 = hval t (sb t n (sb t n p + 1)) (hc t n (sb t n (sb t n p + 1)))) → wpX9_readsOne_203 K' τq x 1) → (¬ hOK t n (sb t n (sb t n p + 1)) N → ∀ τq, md sE τ τq → TM τq t n (sb t n (sb t n p + 1)) → K' 0 τq) → wpX9_readsOne τ K' := by
    intro τ hM hR K' hy hno
    refine hmd τ hM hR K' (fun τ2 m2 l2 T2 => ?_)
    apply k_takesHex hN1 hN2 hby T2
    · intro ok τ3 m3 T3 e23
      exact hy ok τ3 (m2.tr (md_RE (md_R2 m3))) T3 ⟨fun k => (m1_E2 m3 k).trans (l2 k), e23⟩
    · intro no τ3 m3 T3
      exact ⟨fun _ => hno no τ3 (m2.tr (md_RE (md_R2 m3))) T3, fun z => absurd rfl z⟩
  have tl1 : ∀ (σ2 σ3 : wx_Z) (v : Int32), md sT σ1 σ2 → σ3 = wx_up σ2 (cSt 0) 2 v → ∀ {q f}, TS σ2 t n q f → TS σ3 t n q f ∧ md sD σ σ3 := by
    intro σ2 σ3 v m2 e3 q f T2
    refine ⟨T2.of (fun k => by rw [e3, up_c (by decide)]) (fun k => by rw [e3, up_c (by decide)]), ?_⟩
    rw [e3]
    exact ((md_TD m1).tr (md_TD m2)).up (by decide)
  apply q_readHex hN1 hN2 T1
  · intro ok σ2 m2 T2
    refine hK1 _ σ2 m2 (fun σ3 e3 => ?_)
    obtain ⟨T3, D3⟩ := tl1 σ2 σ3 _ m2 e3 T2
    refine e_tail (x := x) (o' := o) (m' := m) (D := fun τ τ' => (∀ k, τ' 1 k = τ 1 k) ∧ τ' 0 23 = hval t (sb t n (sb t n p + 1)) (hc t n (sb t n (sb t n p + 1)))) hK T3 D3 (by omega) (Or.inl rfl) (fun τ τ1 τ2 hm hd => ⟨fun k => (m1_22 hm k).trans (hd.1 k), (hm 0 23 rfl).trans hd.2⟩) ?_ ?_ ?_
    · intro _
      rw [e3]
      exact ST.word0 (hS1.same0 (fun c k h1 h2 => m2 c k (by unfold sT; simp; omega))) (hW _ ok.2)
    · intro _ τ hM hR K' hk
      exact mid τ hM hR K' (fun _ => hk) (fun z => absurd ok z)
    · intro _ τ hM hR τ3 p' T3' D3' K' hk
      have hR1 := mk1 hR
      refine hdo τ hM hR τ3 K' D3'.1 (fun τ4 m4 => ?_)
      rw [D3'.2]
      refine hk _ ((md_ME m4).up (by decide)) ?_ ?_
      · refine (T3'.many m4).of ?_ ?_ (fun k => ?_)
        · rw [up_c (by decide)]
        · rw [up_c (by decide)]
        · rw [up_c (by decide)]
      · rw [e3]
        exact RLv.word (hR1.same (fun c k h1 h2 => m2 c k (by unfold sT; simp; omega)) (fun k => (m4 1 k rfl).trans (D3'.1 k))) (hW _ ok.2)
  · intro no σ2 m2 T2
    refine hK1 _ σ2 m2 (fun σ3 e3 => ?_)
    obtain ⟨T3, D3⟩ := tl1 σ2 σ3 _ m2 e3 T2
    refine e_tail (x := x) (o' := o) (m' := m) (D := fun _ _ => True) hK T3 D3 (by omega) (Or.inr ⟨sb t n (sb t n p + 1), by omega, rfl, ?_⟩) (fun _ _ _ _ _ => trivial) ?_ ?_ ?_
    · intro τ hM hR K' hk
      exact mid τ hM hR K' (fun z => absurd z no) (fun _ τq mq Tq => hk τq mq Tq.2.2.1)
    · intro z
      exact absurd z (nI_nm (by omega))
    · intro z
      exact absurd z (nI_nm (by omega))
    · intro z
      exact absurd z (nI_nm (by omega))
theorem e_w (hK : ∀ σ', QN σ t n p o m σ' → K σ') (hS : ST σ 0 o m) (hpn : p ≤ n) (hs : sb t n p < n) (ex : t (sb t n p) = 119) {σ1 : wx_Z} (m1 : md sT σ σ1) (T1 : TS σ1 t n (sb t n p + 1) (-1)) : wpX1_allPlaces 0 σ1 (fun r167 σ167 => (wpX6_readHex σ167 r167 <| fun r170 σ170 => (∀ σ173 : wx_Z, σ173 = wx_up σ170 (cSt 0) 2 r170 → wpX8_carryOutNext_293 K σ173))) := by
  have hS1 : ST σ1 0 o m := hS.same0 (fun c k h1 h2 => m1 c k (by unfold sT; simp; omega))
  have mk1 : ∀ {τ}, RLv σ τ o m → RLv σ1 τ o m := fun hR => hR.same (fun c k h1 h2 => m1 c k (by unfold sT; simp; omega)) (fun _ => rfl)
  obtain ⟨s1, s2, s3, s4⟩ := hS1
  have h5 := s1.2.2.2.2.2.2
  have hp := p2_le h5
  have hpos := p2_pos m
  unfold wpX1_allPlaces
  rw [s1.2.2.1]
  apply q_lowest
  refine e_hex (x := 119) (W := fun v => v) hpos hp hK hS hpn hs m1 T1 (fun v h => h) wi_0 ?_ ?_ (fun r σ2 _ hk => hk)
  · intro τ hM hR K' hk
    have a0 : τ 1 0 = nI o := (mk1 hR).2.1.trans s1.1
    have a1 : τ 1 1 = nI m := (mk1 hR).2.2.1.trans s1.2.1
    refine k_mid hM hs ex (lt7_0.mpr (by decide)) (fun τ2 m2 T2 => ⟨fun _ => ⟨fun z => absurd z (by decide), fun _ => ⟨fun z => absurd rfl z, fun _ => ?_⟩⟩, fun z => absurd z (by decide)⟩)
    refine ⟨fun _ => ?_, fun z => absurd z (by decide)⟩
    apply k_places ((m1_22 m2 1).trans a1) h5
    exact hk τ2 (mdE_22 m2) (m1_22 m2) T2
  · intro τ hM hR τ3 K' D3 hk
    have a0 : τ 1 0 = nI o := (mk1 hR).2.1.trans s1.1
    have a1 : τ 1 1 = nI m := (mk1 hR).2.2.1.trans s1.2.1
    refine ⟨fun z => absurd z (by decide), fun z => absurd z (by decide), fun z => absurd z (by decide), fun z => absurd z (by decide), fun z => absurd z (by decide), fun _ => ?_, fun _ _ _ _ _ z => absurd rfl z⟩
    exact ⟨vi (n := 2) (by decide), fun τ4 e4 => by rw [e4]; exact hk τ3 md.rf⟩
theorem e_m (hK : ∀ σ', QN σ t n p o m σ' → K σ') (hS : ST σ 0 o m) (hpn : p ≤ n) (hs : sb t n p < n) (ex : t (sb t n p) = 109) {σ1 : wx_Z} (m1 : md sT σ σ1) (T1 : TS σ1 t n (sb t n p + 1) (-1)) : wpX1_allTerms 0 σ1 (fun r137 σ137 => (wpX6_readHex σ137 r137 <| fun r140 σ140 => (wpX1_wordOf 0 σ140 r140 <| fun r143 σ143 => (∀ σ146 : wx_Z, σ146 = wx_up σ143 (cSt 0) 2 r143 → wpX8_carryOutNext_293 K σ146)))) := by
  have hS1 : ST σ1 0 o m := hS.same0 (fun c k h1 h2 => m1 c k (by unfold sT; simp; omega))
  have mk1 : ∀ {τ}, RLv σ τ o m → RLv σ1 τ o m := fun hR => hR.same (fun c k h1 h2 => m1 c k (by unfold sT; simp; omega)) (fun _ => rfl)
  obtain ⟨s1, s2, s3, s4⟩ := hS1
  have h5 := s1.2.2.2.2.2.2
  have hom := s1.2.2.2.2.2.1
  obtain ⟨l1, l2, -⟩ := tl_len s1
  unfold wpX1_allTerms
  rw [s1.2.2.2.1]
  apply q_lowest
  refine e_hex (x := 109) (W := fun v => wMs m (tl o m) v) l2 l1 hK hS hpn hs m1 T1 (fun v _ => wMs_wi h5) (wMs_wi h5) ?_ ?_ ?_
  · intro τ hM hR K' hk
    have a0 : τ 1 0 = nI o := (mk1 hR).2.1.trans s1.1
    have a1 : τ 1 1 = nI m := (mk1 hR).2.2.1.trans s1.2.1
    refine k_mid hM hs ex (lt7_0.mpr (by decide)) (fun τ2 m2 T2 => ⟨fun _ => ⟨fun _ => ?_, fun z => absurd rfl z⟩, fun z => absurd z (by decide)⟩)
    refine ⟨fun z => absurd rfl z, fun _ => ?_⟩
    apply k_many ((m1_22 m2 0).trans a0) ((m1_22 m2 1).trans a1) hom h5
    intro τ3 m3 _
    exact hk τ3 ((mdE_22 m2).tr (md_ME m3)) (fun k => (m3 1 k rfl).trans (m1_22 m2 k)) (T2.many m3)
  · intro τ hM hR τ3 K' D3 hk
    have a0 : τ 1 0 = nI o := (mk1 hR).2.1.trans s1.1
    have a1 : τ 1 1 = nI m := (mk1 hR).2.2.1.trans s1.2.1
    refine ⟨fun z => absurd z (by decide), fun z => absurd z (by decide), fun _ => ?_, fun z => absurd z (by decide), fun z => absurd z (by decide), fun z => absurd z (by decide), fun _ _ z => absurd rfl z⟩
    apply k_encodes ((D3 0).trans a0) ((D3 1).trans a1) hom h5
    intro τ4 m4
    exact hk τ4 m4
  · intro r σ2 m2 hk
    apply q_wordOf (s1.same (fun k => m2 _ k rfl) (fun k => m2 _ k rfl))
    exact hk
theorem e_s (hK : ∀ σ', QN σ t n p o m σ' → K σ') (hS : ST σ 0 o m) (hpn : p ≤ n) (hs : sb t n p < n) (ex : t (sb t n p) = 115) {σ1 : wx_Z} (m1 : md sT σ σ1) (T1 : TS σ1 t n (sb t n p + 1) (-1)) : wpX8_orderSoft σ1 (fun σ224 => wpX8_carryOutNext_293 K σ224) := by
  have hb := sb_le (t := t) hpn
  have hn := T1.2.2.2.2.1
  have hS1 : ST σ1 0 o m := hS.same0 (fun c k h1 h2 => m1 c k (by unfold sT; simp; omega))
  have mk1 : ∀ {τ}, RLv σ τ o m → RLv σ1 τ o m := fun hR => hR.same (fun c k h1 h2 => m1 c k (by unfold sT; simp; omega)) (fun _ => rfl)
  obtain ⟨s1, s2, s3, s4⟩ := hS1
  have h5 := s1.2.2.2.2.2.2
  have hp := p2_le h5
  have hpos := p2_pos m
  have eM : nI (2 ^ m) - 1 = nI (2 ^ m - 1) := by
    obtain ⟨q, e⟩ : ∃ q, 2 ^ m = q + 1 := ⟨2 ^ m - 1, by omega⟩
    rw [e]; exact nI_pred q
  have hb2 := sb_le (t := t) (show sb t n p + 1 ≤ n by omega)
  have hE := nE_le (t := t) (lo := 0) hb2.2
  generalize hA : sb t n (sb t n p + 1) = A at *
  have hb3 := sb_le (t := t) hE.2
  generalize hB : sb t n (nE t n A 0) = B at *
  have hE2 := nE_le (t := t) (lo := -99) hb3.2
  have mid : ∀ (τ : wx_Z), TM τ t n p → RLv σ τ o m → ∀ (K' : Int32 → wx_Z → Prop), (nOK t n A 0 (nI (2 ^ m - 1)) → nOK t n B (-99) 99 → ∀ τq, md sE τ τq → TM τq t n (nE t n B (-99)) → ((∀ k, τq 1 k = τ 1 k) ∧ τq 0 24 = nv t n A 0 ∧ τq 0 23 = nv t n B (-99)) → wpX9_readsOne_203 K' τq 115 1) → (nOK t n A 0 (nI (2 ^ m - 1)) → ¬ nOK t n B (-99) 99 → ∀ τq, md sE τ τq → TM τq t n B → K' 0 τq) → (¬ nOK t n A 0 (nI (2 ^ m - 1)) → ∀ τq, md sE τ τq → TM τq t n A → K' 0 τq) → wpX9_readsOne τ K' := by
    intro τ hM hR K' hyy hyn hno
    have a1 : τ 1 1 = nI m := (mk1 hR).2.2.1.trans s1.2.1
    refine k_mid hM hs ex (lt7_0.mpr (by decide)) (fun τ2 m2 T2 => ⟨fun _ => ⟨fun z => absurd z (by decide), fun _ => ⟨fun _ => ⟨fun z => absurd z (by decide), fun _ => ⟨fun z => absurd rfl z, fun _ => ?_⟩⟩, fun z => absurd z (by decide)⟩⟩, fun z => absurd z (by decide)⟩)
    unfold wpX9_readsOne_156
    apply k_places ((m1_22 m2 1).trans a1) h5
    rw [eM]
    have t24 : ∀ {τ3 τ4 : wx_Z} {q : Nat} {v : Int32}, τ4 = wx_up τ3 0 24 v → TM τ3 t n q → TM τ4 t n q := by
      intro τ3 τ4 q v e4 T3
      rw [e4]
      refine T3.of ?_ ?_ (fun k => ?_)
      · rw [up_k (by decide)]
      · rw [up_k (by decide)]
      · rw [up_c (by decide)]
    apply k_takes T2
    · rw [hA]
      intro ok τ3 m3 T3 e23 τ4 e4
      refine ⟨fun z => absurd z (by decide), fun _ => ⟨fun z => absurd z (by decide), fun _ => ?_⟩⟩
      have m4 : md sE τ τ4 := by rw [e4]; exact ((mdE_22 m2).tr (md_RE (md_R2 m3))).up (by decide)
      have l4 : ∀ k, τ4 1 k = τ 1 k := fun k => by rw [e4, up_c (by decide)]; exact (m1_E2 m3 k).trans (m1_22 m2 k)
      have e24 : τ4 0 24 = nv t n A 0 := by rw [e4, up_s, e23]
      apply k_takes (t24 e4 T3)
      · rw [hB]
        intro ok2 τ5 m5 T5 e5
        exact ⟨fun z => absurd z (by decide), fun _ => hyy ok ok2 τ5 (m4.tr (md_RE (md_R2 m5))) T5 ⟨fun k => (m1_E2 m5 k).trans (l4 k), (m5 0 24 rfl).trans e24, e5⟩⟩
      · rw [hB]
        intro no τ5 m5 T5
        exact ⟨fun _ => ⟨fun _ => hyn ok no τ5 (m4.tr (md_RE (md_R2 m5))) T5, fun z => absurd rfl z⟩, fun z => absurd rfl z⟩
    · rw [hA]
      intro no τ3 m3 T3 τ4 e4
      refine ⟨fun _ => ⟨fun _ => hno no τ4 ?_ (t24 e4 T3), fun z => absurd rfl z⟩, fun z => absurd rfl z⟩
      rw [e4]; exact ((mdE_22 m2).tr (md_RE (md_R2 m3))).up (by decide)
  have b99 : ∀ v : Int32, -99 ≤ v → v ≤ 99 → -99 ≤ v.toInt ∧ v.toInt ≤ 99 := by
    intro v h1 h2
    rw [Int32.le_iff_toInt_le] at h1 h2
    exact ⟨h1, h2⟩
  have tl1 : ∀ (σ2 σ3 : wx_Z) (j : Nat) (v : Int32), md sT σ1 σ2 → σ3 = wx_up σ2 (cSo 0) j v → ∀ {q f}, TS σ2 t n q f → TS σ3 t n q f ∧ md sD σ σ3 := by
    intro σ2 σ3 j v m2 e3 q f T2
    refine ⟨T2.of (fun k => by rw [e3, up_c (by decide)]) (fun k => by rw [e3, up_c (by decide)]), ?_⟩
    rw [e3]
    exact ((md_TD m1).tr (md_TD m2)).up rfl
  have bad : ∀ (σ2 σ3 : wx_Z) (j s q : Nat) (v : Int32), md sT σ1 σ2 → σ3 = wx_up σ2 (cSo 0) j v → TS σ2 t n q (nI s) → p < q → s ≤ 120 → (∀ τ, TM τ t n p → RLv σ τ o m → MB τ s) → wpX8_carryOutNext_293 K σ3 := by
    intro σ2 σ3 j s q v m2 e3 T2 hpq hs2 hMB
    obtain ⟨T3, D3⟩ := tl1 σ2 σ3 j v m2 e3 T2
    refine e_tail (x := 115) (o' := o) (m' := m) (D := fun _ _ => True) hK T3 D3 hpq (Or.inr ⟨s, hs2, rfl, hMB⟩) (fun _ _ _ _ _ => trivial) ?_ ?_ ?_
    · intro z; exact absurd z (nI_nm hs2)
    · intro z; exact absurd z (nI_nm hs2)
    · intro z; exact absurd z (nI_nm hs2)
  unfold wpX8_orderSoft
  rw [s1.2.2.1, eM]
  apply q_readNumber T1
  · rw [hA]
    intro ok σ2 m2 T2
    obtain ⟨j, hj, ej⟩ := nI_of2 (M := nI (2 ^ m - 1)) (n := 2 ^ m - 1) (nI_toInt (by omega)) (nn0.mpr ok.2.1) ok.2.2
    apply q_readNumber T2
    · rw [hB]
      intro ok2 σ3 m3 T3
      rw [ej, cln (by omega)]
      refine ⟨vi (by omega), fun σ4 e4 => ?_⟩
      obtain ⟨T4, D4⟩ := tl1 σ3 σ4 _ _ (m2.tr m3) e4 T3
      refine e_tail (x := 115) (o' := o) (m' := m) (D := fun τ τ' => (∀ k, τ' 1 k = τ 1 k) ∧ τ' 0 24 = nv t n A 0 ∧ τ' 0 23 = nv t n B (-99)) hK T4 D4 (by omega) (Or.inl rfl) (fun τ τ1 τ2 hm hd => ⟨fun k => (m1_22 hm k).trans (hd.1 k), (hm 0 24 rfl).trans hd.2.1, (hm 0 23 rfl).trans hd.2.2⟩) ?_ ?_ ?_
      · intro _
        rw [e4]
        exact ST.soft0 (ST.same0 ⟨s1, s2, s3, s4⟩ (fun c k h1 h2 => (m2.tr m3) c k (by unfold sT; simp; omega))) (by omega) (b99 _ ok2.2.1 ok2.2.2)
      · intro _ τ hM hR K' hk
        exact mid τ hM hR K' (fun _ _ => hk) (fun _ z => absurd ok2 z) (fun z => absurd ok z)
      · intro _ τ hM hR τ3 p' T3' D3' K' hk
        have hR1 := mk1 hR
        refine ⟨fun z => absurd z (by decide), fun z => absurd z (by decide), fun z => absurd z (by decide), fun _ => ?_, fun z => absurd z (by decide), fun z => absurd z (by decide), fun _ _ _ z => absurd rfl z⟩
        unfold wpX9_softens wpX9_softOf
        rw [D3'.2.1, D3'.2.2, ej, nI_3, cln (by omega)]
        refine ⟨vi (by omega), vi (by omega), fun τ5 e5 => ?_⟩
        refine hk τ5 ?_ ?_ ?_
        · rw [e5]; exact md.rf.up rfl
        · exact T3'.of (by rw [e5, up_c (by decide)]) (by rw [e5, up_c (by decide)]) (fun k => by rw [e5, up_c (by decide)])
        · rw [e4, e5]
          exact RLv.soft (hR1.same (fun c k h1 h2 => (m2.tr m3) c k (by unfold sT; simp; omega)) (fun k => D3'.1 k)) (by omega) (b99 _ ok2.2.1 ok2.2.2)
    · rw [hB]
      intro no σ3 m3 T3
      rw [ej, cln (by omega)]
      refine ⟨vi (by omega), fun σ4 e4 => ?_⟩
      exact bad σ3 σ4 j B _ (-99) (m2.tr m3) e4 T3 (by omega) (by omega) (fun τ hM hR K' hk => mid τ hM hR K' (fun _ z => absurd z no) (fun _ _ τq mq Tq => hk τq mq Tq.2.2.1) (fun z => absurd ok z))
  · rw [hA]
    intro no σ2 m2 T2
    have hMB : ∀ τ, TM τ t n p → RLv σ τ o m → MB τ A := fun τ hM hR K' hk => mid τ hM hR K' (fun z => absurd z no) (fun z => absurd z no) (fun _ τq mq Tq => hk τq mq Tq.2.2.1)
    apply q_readNumber T2
    · rw [hB]
      intro _ σ3 m3 T3
      refine ⟨vi (n := 0) (by decide), fun σ4 e4 => ?_⟩
      exact bad σ3 σ4 _ A _ _ (m2.tr m3) e4 T3 (by omega) (by omega) hMB
    · rw [hB]
      intro _ σ3 m3 T3
      refine ⟨vi (n := 0) (by decide), fun σ4 e4 => ?_⟩
      have T3' : TS σ3 t n (nE t n B (-99)) (nI A) := by
        have : fa (fa (-1) A) B = nI A := by
          show fa (nI A) B = nI A
          unfold fa
          rw [if_neg (nI_nm (by omega))]
        rw [this] at T3
        exact T3
      exact bad σ3 σ4 _ A _ _ (m2.tr m3) e4 T3' (by omega) (by omega) hMB
end Next2

/-! ===== the seven orders ===== -/
section Next
variable {σ : wx_Z} {t : Nat → Int32} {n p o m : Nat} {K : wx_Z → Prop}
theorem mdE_22 {τ τ' : wx_Z} (h : md (fun c k => c == 0 && k == 22) τ τ') : md sE τ τ' := md_RE (md_22 h)
theorem m1_E2 {τ τ' : wx_Z} (h : md sR2 τ τ') : ∀ k, τ' 1 k = τ 1 k := fun k => h 1 k rfl
theorem m1_22 {τ τ' : wx_Z} (h : md (fun c k => c == 0 && k == 22) τ τ') : ∀ k, τ' 1 k = τ 1 k := fun k => h 1 k rfl
theorem ST.word0 {σ : wx_Z} {o m : Nat} {w : Int32} (h : ST σ 0 o m) (hw : wi w (2 ^ m)) : ST (wx_up σ (cSt 0) 2 w) 0 o m := by
  obtain ⟨s1, s2, s3, s4⟩ := h
  obtain ⟨n1, n2, n3, n4, n5, n6⟩ := c_ne 0
  refine ⟨s1.same (fun k => up_c n2) (fun k => up_c n4), by rw [up_s]; exact hw, fun i hi => ?_, fun i h1 hi => ?_⟩
  · rw [up_c (fun z => n6 z.symm)]; exact s3 i hi
  · rw [up_c (fun z => n6 z.symm)]; exact s4 i h1 hi
theorem e_v (hK : ∀ σ', QN σ t n p o m σ' → K σ') (hS : ST σ 0 o m) (hpn : p ≤ n) (hs : sb t n p < n) (ex : t (sb t n p) = 118) {σ1 : wx_Z} (m1 : md sT σ σ1) (T1 : TS σ1 t n (sb t n p + 1) (-1)) : wpX0_hold 0 σ1 (σ1 (cSt 0) 2) (fun σ234 => (∀ σ248 : wx_Z, σ248 = wx_up σ234 (cSt 0) 2 (σ234 45 1) → wpX8_carryOutNext_293 K σ248)) := by
  have hb := sb_le (t := t) hpn
  have hn := T1.2.2.2.2.1
  have hS1 : ST σ1 0 o m := hS.same0 (fun c k h1 h2 => m1 c k (by unfold sT; simp; omega))
  have mk1 : ∀ {τ}, RLv σ τ o m → RLv σ1 τ o m := fun hR => hR.same (fun c k h1 h2 => m1 c k (by unfold sT; simp; omega)) (fun _ => rfl)
  obtain ⟨s1, s2, s3, s4⟩ := hS1
  have h5 := s1.2.2.2.2.2.2
  have hom := s1.2.2.2.2.2.1
  apply q_hold s1 s2
  intro σ2 f2 e2 b2 σ3 e3
  have w3 : σ3 = wx_up σ2 (cSt 0) 2 (wMs m (tl o m) (vall o m (σ1 (cSt 0) 2)).2.1) := by rw [e3, e2, vall_mend hom h5]
  refine e_tail (q := sb t n p + 1) (f := -1) (x := 118) (o' := o) (m' := m) (D := fun τ τ' => ∀ k, τ' 1 k = τ 1 k) hK ?_ ?_ (by omega) (Or.inl rfl) (fun τ τ1 τ2 hm hd k => (m1_22 hm k).trans (hd k)) ?_ ?_ ?_
  · refine T1.of (fun k => ?_) (fun k => ?_)
    · rw [e3, up_c (by decide), f2 43 (by decide)]
    · rw [e3, up_c (by decide), f2 44 (by decide)]
  · rw [e3]
    exact ((md_TD m1).tr (md_FD f2 (fun c hc => by simp at hc; omega))).up (by decide)
  · intro _
    rw [w3]
    refine ST.word0 (ST.same0 ⟨s1, s2, s3, s4⟩ (fun c k h1 h2 => by rw [f2 c (by simp; omega)])) ?_
    rw [← vall_mend hom h5]; exact vall_wi h5 hom s2
  · intro _ τ hM hR K' hk
    refine k_mid hM hs ex (lt7_0.mpr (by decide)) (fun τ2 m2 T2 => ⟨fun _ => ⟨fun z => absurd z (by decide), fun _ => ⟨fun _ => ⟨fun z => absurd z (by decide), fun _ => ⟨fun _ => hk τ2 (mdE_22 m2) T2 (m1_22 m2), fun z => absurd z (by decide)⟩⟩, fun z => absurd z (by decide)⟩⟩, fun z => absurd z (by decide)⟩)
  · intro _ τ hM hR τ3 p' T3 D3 K' hk
    have hR1 := mk1 hR
    have a0 : τ3 1 0 = nI o := (D3 0).trans (hR1.2.1.trans s1.1)
    have a1 : τ3 1 1 = nI m := (D3 1).trans (hR1.2.2.1.trans s1.2.1)
    have a2 : τ3 1 2 = σ1 (cSt 0) 2 := (D3 2).trans hR1.2.2.2.1
    refine ⟨fun z => absurd z (by decide), fun z => absurd z (by decide), fun z => absurd z (by decide), fun z => absurd z (by decide), fun _ => ?_, fun z => absurd z (by decide), fun _ _ _ _ z => absurd rfl z⟩
    unfold wpX9_mendsNow
    apply k_votesNow a0 a1 hom h5
    intro τ4 d4 _ e7 _ _ _
    apply k_theWord
    apply k_bits
    refine ⟨vi (n := 2) (by decide), fun τ5 e5 => ?_⟩
    rw [show Int32.toNatClampNeg 2 = 2 from rfl, e7, a2] at e5
    have dE : md sE τ3 τ4 := d4.mono (fun c k q => by unfold sE at q; unfold sVo; simp at q ⊢; omega)
    refine hk τ5 ?_ ?_ ?_
    · rw [e5]; exact dE.up (by decide)
    · refine T3.of ?_ ?_ (fun k => ?_)
      · rw [e5, up_c (by decide)]; exact d4 0 21 rfl
      · rw [e5, up_c (by decide)]; exact d4 0 22 rfl
      · rw [e5, up_c (by decide)]; exact d4 11 k rfl
    · rw [e5, w3]
      refine RLv.word (hR1.same (fun c k h1 h2 => by rw [f2 c (by simp; omega)]) (fun k => ?_)) ?_
      · exact (d4 1 k rfl).trans (D3 k)
      · rw [← vall_mend hom h5]; exact vall_wi h5 hom s2
theorem e_h (hK : ∀ σ', QN σ t n p o m σ' → K σ') (hS : ST σ 0 o m) (hpn : p ≤ n) (hs : sb t n p < n) (ex : t (sb t n p) = 104) {σ1 : wx_Z} (m1 : md sT σ σ1) (T1 : TS σ1 t n (sb t n p + 1) (-1)) : wpX2_solve 0 σ1 (fun r252 σ252 => (∀ σ255 : wx_Z, σ255 = wx_up σ252 (cSt 0) 2 r252 → wpX8_carryOutNext_293 K σ255)) := by
  have hb := sb_le (t := t) hpn
  have hn := T1.2.2.2.2.1
  have hS1 : ST σ1 0 o m := hS.same0 (fun c k h1 h2 => m1 c k (by unfold sT; simp; omega))
  have mk1 : ∀ {τ}, RLv σ τ o m → RLv σ1 τ o m := fun hR => hR.same (fun c k h1 h2 => m1 c k (by unfold sT; simp; omega)) (fun _ => rfl)
  obtain ⟨s1, s2, s3, s4⟩ := hS1
  have h5 := s1.2.2.2.2.2.2
  have hom := s1.2.2.2.2.2.1
  apply q_solve (by omega) s1
  intro σ2 f2 σ3 e3
  refine e_tail (q := sb t n p + 1) (f := -1) (x := 104) (o' := o) (m' := m) (D := fun τ τ' => ∀ k, τ' 1 k = τ 1 k) hK ?_ ?_ (by omega) (Or.inl rfl) (fun τ τ1 τ2 hm hd k => (m1_22 hm k).trans (hd k)) ?_ ?_ ?_
  · refine T1.of (fun k => ?_) (fun k => ?_)
    · rw [e3, up_c (by decide), f2 43 (by decide)]
    · rw [e3, up_c (by decide), f2 44 (by decide)]
  · rw [e3]
    refine md.up ((md_TD m1).tr (fun c k q => ?_)) (by decide)
    rw [f2 c (fun z => by unfold sD at q; simp at q; omega)]
  · intro _
    rw [e3]
    exact ST.word0 (ST.same0 ⟨s1, s2, s3, s4⟩ (fun c k h1 h2 => by rw [f2 c (by omega)])) (hv_wi m o _ h5)
  · intro _ τ hM hR K' hk
    refine k_mid hM hs ex (lt7_0.mpr (by decide)) (fun τ2 m2 T2 => ⟨fun _ => ⟨fun z => absurd z (by decide), fun _ => ⟨fun _ => ⟨fun z => absurd z (by decide), fun _ => ⟨fun _ => hk τ2 (mdE_22 m2) T2 (m1_22 m2), fun z => absurd z (by decide)⟩⟩, fun z => absurd z (by decide)⟩⟩, fun z => absurd z (by decide)⟩)
  · intro _ τ hM hR τ3 p' T3 D3 K' hk
    have hR1 := mk1 hR
    have a0 : τ3 1 0 = nI o := (D3 0).trans (hR1.2.1.trans s1.1)
    have a1 : τ3 1 1 = nI m := (D3 1).trans (hR1.2.2.1.trans s1.2.1)
    refine ⟨fun z => absurd z (by decide), fun z => absurd z (by decide), fun z => absurd z (by decide), fun z => absurd z (by decide), fun z => absurd z (by decide), fun z => absurd z (by decide), fun _ _ _ _ _ _ => ?_⟩
    apply k_halvesOfE (f := σ1 (cSo 0)) a0 a1 hom h5 (fun i hi => (D3 _).trans (by have := hR1.2.2.2.2 i hi; rw [show 0 + 3 + i = 3 + i by omega] at this; exact this))
    intro τ4 d4
    refine ⟨vi (n := 2) (by decide), fun τ5 e5 => ?_⟩
    rw [show Int32.toNatClampNeg 2 = 2 from rfl] at e5
    refine hk τ5 ?_ ?_ ?_
    · rw [e5]
      refine md.up (fun c k q => d4 c k (fun z => ?_)) (by decide)
      unfold sE at q; simp at q; omega
    · refine T3.of ?_ ?_ (fun k => ?_)
      · rw [e5, up_c (by decide)]; exact d4 0 21 (by omega)
      · rw [e5, up_c (by decide)]; exact d4 0 22 (by omega)
      · rw [e5, up_c (by decide)]; exact d4 11 k (by omega)
    · rw [e5, e3]
      refine RLv.word (hR1.same (fun c k h1 h2 => by rw [f2 c (by omega)]) (fun k => ?_)) (hv_wi m o _ h5)
      exact (d4 1 k (by omega)).trans (D3 k)
theorem e_f (hK : ∀ σ', QN σ t n p o m σ' → K σ') (hS : ST σ 0 o m) (hpn : p ≤ n) (hs : sb t n p < n) (ex : t (sb t n p) = 102) {σ1 : wx_Z} (m1 : md sT σ σ1) (T1 : TS σ1 t n (sb t n p + 1) (-1)) : wpX6_readNumber σ1 0 ((σ1 (cCo 0) 2) - 1) (fun r205 σ205 => (∀ σ210 : wx_Z, σ210 = wx_up σ205 (cSt 0) 2 ((σ1 (cSt 0) 2) ^^^ (1 <<< (r205 &&& 31))) → wpX8_carryOutNext_293 K σ210)) := by
  have hb := sb_le (t := t) hpn
  have hn := T1.2.2.2.2.1
  have hS1 : ST σ1 0 o m := hS.same0 (fun c k h1 h2 => m1 c k (by unfold sT; simp; omega))
  have mk1 : ∀ {τ}, RLv σ τ o m → RLv σ1 τ o m := fun hR => hR.same (fun c k h1 h2 => m1 c k (by unfold sT; simp; omega)) (fun _ => rfl)
  obtain ⟨s1, s2, s3, s4⟩ := hS1
  have h5 := s1.2.2.2.2.2.2
  have hp := p2_le h5
  have hpos := p2_pos m
  have eM : nI (2 ^ m) - 1 = nI (2 ^ m - 1) := by
    obtain ⟨q, e⟩ : ∃ q, 2 ^ m = q + 1 := ⟨2 ^ m - 1, by omega⟩
    rw [e]; exact nI_pred q
  rw [s1.2.2.1, eM]
  have hb2 := sb_le (t := t) (show sb t n p + 1 ≤ n by omega)
  have hE := nE_le (t := t) (lo := 0) hb2.2
  have mid : ∀ (τ : wx_Z), TM τ t n p → RLv σ τ o m → ∀ (K' : Int32 → wx_Z → Prop), (nOK t n (sb t n (sb t n p + 1)) 0 (nI (2 ^ m - 1)) → ∀ τq, md sE τ τq → TM τq t n (nE t n (sb t n (sb t n p + 1)) 0) → ((∀ k, τq 1 k = τ 1 k) ∧ τq 0 24 = nv t n (sb t n (sb t n p + 1)) 0) → wpX9_readsOne_203 K' τq 102 1) → (¬ nOK t n (sb t n (sb t n p + 1)) 0 (nI (2 ^ m - 1)) → ∀ τq, md sE τ τq → TM τq t n (sb t n (sb t n p + 1)) → K' 0 τq) → wpX9_readsOne τ K' := by
    intro τ hM hR K' hy hn
    have a1 : τ 1 1 = nI m := (mk1 hR).2.2.1.trans s1.2.1
    refine k_mid hM hs ex (lt7_0.mpr (by decide)) (fun τ2 m2 T2 => ⟨fun _ => ⟨fun z => absurd z (by decide), fun _ => ⟨fun _ => ⟨fun _ => ?_, fun z => absurd rfl z⟩, fun z => absurd z (by decide)⟩⟩, fun z => absurd z (by decide)⟩)
    unfold wpX9_readsOne_156
    apply k_places ((m1_22 m2 1).trans a1) h5
    rw [eM]
    apply k_takes T2
    · intro ok τ3 m3 T3 e23 τ4 e4
      refine ⟨fun z => absurd z (by decide), fun _ => ⟨fun _ => ?_, fun z => absurd rfl z⟩⟩
      refine hy ok τ4 ?_ ?_ ⟨fun k => ?_, ?_⟩
      · rw [e4]; exact ((mdE_22 m2).tr (md_RE (md_R2 m3))).up (by decide)
      · rw [e4]
        refine T3.of ?_ ?_ (fun k => ?_)
        · rw [up_k (by decide)]
        · rw [up_k (by decide)]
        · rw [up_c (by decide)]
      · rw [e4, up_c (by decide)]; exact (m1_E2 m3 k).trans (m1_22 m2 k)
      · rw [e4, up_s, e23]
    · intro no τ3 m3 T3 τ4 e4
      refine ⟨fun _ => ?_, fun z => absurd rfl z⟩
      refine ⟨fun _ => hn no τ4 ?_ ?_, fun z => absurd rfl z⟩
      · rw [e4]; exact ((mdE_22 m2).tr (md_RE (md_R2 m3))).up (by decide)
      · rw [e4]
        refine T3.of ?_ ?_ (fun k => ?_)
        · rw [up_k (by decide)]
        · rw [up_k (by decide)]
        · rw [up_c (by decide)]
  have wr : ∀ v : Int32, 0 ≤ v → v ≤ nI (2 ^ m - 1) → wi (σ1 (cSt 0) 2 ^^^ (1 <<< (v &&& 31))) (2 ^ m) := by
    intro v h1 h2
    obtain ⟨j, hj, rfl⟩ := nI_of2 (M := nI (2 ^ m - 1)) (n := 2 ^ m - 1) (nI_toInt (by omega)) (nn0.mpr h1) h2
    refine wi_xor s2 (fun i hi1 hi2 => ?_)
    rw [bt_sh1 (by omega) hi2]
    exact decide_eq_false (by omega)
  have tl1 : ∀ (σ2 σ3 : wx_Z) (v : Int32), md sT σ1 σ2 → σ3 = wx_up σ2 (cSt 0) 2 v → ∀ {q f}, TS σ2 t n q f → TS σ3 t n q f ∧ md sD σ σ3 := by
    intro σ2 σ3 v m2 e3 q f T2
    refine ⟨T2.of (fun k => by rw [e3, up_c (by decide)]) (fun k => by rw [e3, up_c (by decide)]), ?_⟩
    rw [e3]
    exact ((md_TD m1).tr (md_TD m2)).up (by decide)
  apply q_readNumber T1
  · intro ok σ2 m2 T2 σ3 e3
    obtain ⟨T3, D3⟩ := tl1 σ2 σ3 _ m2 e3 T2
    refine e_tail (x := 102) (o' := o) (m' := m) (D := fun τ τ' => (∀ k, τ' 1 k = τ 1 k) ∧ τ' 0 24 = nv t n (sb t n (sb t n p + 1)) 0) hK T3 D3 (by omega) (Or.inl rfl) (fun τ τ1 τ2 hm hd => ⟨fun k => (m1_22 hm k).trans (hd.1 k), (hm 0 24 rfl).trans hd.2⟩) ?_ ?_ ?_
    · intro _
      rw [e3]
      exact ST.word0 (ST.same0 ⟨s1, s2, s3, s4⟩ (fun c k h1 h2 => m2 c k (by unfold sT; simp; omega))) (wr _ ok.2.1 ok.2.2)
    · intro _ τ hM hR K' hk
      exact mid τ hM hR K' (fun _ => hk) (fun z => absurd ok z)
    · intro _ τ hM hR τ3 p' T3' D3' K' hk
      have hR1 := mk1 hR
      refine ⟨fun z => absurd z (by decide), fun _ => ?_, fun z => absurd z (by decide), fun z => absurd z (by decide), fun z => absurd z (by decide), fun z => absurd z (by decide), fun _ z => absurd rfl z⟩
      refine ⟨vi (n := 2) (by decide), vi (n := 2) (by decide), fun τ5 e5 => ?_⟩
      rw [show Int32.toNatClampNeg 2 = 2 from rfl, D3'.1 2, hR1.2.2.2.1, D3'.2] at e5
      have fin : RLv σ3 τ5 o m := by
        rw [e3, e5]
        exact RLv.word (hR1.same (fun c k h1 h2 => m2 c k (by unfold sT; simp; omega)) (fun k => D3'.1 k)) (wr _ ok.2.1 ok.2.2)
      have mE : md sE τ3 τ5 := by rw [e5]; exact md.rf.up (by decide)
      have tm : TM τ5 t n p' := T3'.of (by rw [e5, up_c (by decide)]) (by rw [e5, up_c (by decide)]) (fun k => by rw [e5, up_c (by decide)])
      obtain ⟨j, hj, ej⟩ := nI_of2 (M := nI (2 ^ m - 1)) (n := 2 ^ m - 1) (nI_toInt (by omega)) (nn0.mpr ok.2.1) ok.2.2
      apply k_theWord
      rw [D3'.2, ej]
      apply k_has (by omega)
      exact ⟨fun _ => hk τ5 mE tm fin, fun _ => hk τ5 mE tm fin⟩
  · intro no σ2 m2 T2 σ3 e3
    obtain ⟨T3, D3⟩ := tl1 σ2 σ3 _ m2 e3 T2
    refine e_tail (x := 102) (o' := o) (m' := m) (D := fun _ _ => True) hK T3 D3 (by omega) (Or.inr ⟨sb t n (sb t n p + 1), by omega, rfl, ?_⟩) (fun _ _ _ _ _ => trivial) ?_ ?_ ?_
    · intro τ hM hR K' hk
      exact mid τ hM hR K' (fun z => absurd z no) (fun _ τq mq Tq => hk τq mq Tq.2.2.1)
    · intro z
      exact absurd z (nI_nm (by omega))
    · intro z
      exact absurd z (nI_nm (by omega))
    · intro z
      exact absurd z (nI_nm (by omega))
end Next

/-! ===== orders of a text ===== -/
def sD (c k : Nat) : Bool := (decide (1 ≤ c) && decide (c ≤ 4)) || decide (45 ≤ c) || (c == 43 && (k == 1 || k == 3))
def sE (c k : Nat) : Bool := !(c == 2 || c == 3 || c == 11 || c == 12 || (c == 0 && (k == 2 || k == 21)))
theorem md_TD {σ σ' : wx_Z} (h : md sT σ σ') : md sD σ σ' := h.mono (fun c k q => by
  unfold sD at q
  unfold sT
  simp at q ⊢
  omega)
theorem md_RE {τ τ' : wx_Z} (h : md sR τ τ') : md sE τ τ' := h.mono (fun c k q => by
  unfold sE at q
  unfold sR
  simp at q ⊢
  omega)
theorem RLv.same {σ σ' τ τ' : wx_Z} {o m : Nat} (h : RLv σ τ o m) (hc : ∀ c k, 1 ≤ c → c ≤ 4 → σ' c k = σ c k) (hm : ∀ k, τ' 1 k = τ 1 k) : RLv σ' τ' o m := by
  obtain ⟨⟨s1, s2, s3, s4⟩, e1, e2, e3, e4⟩ := h
  have a1 : ∀ k, σ' (cSt 0) k = σ (cSt 0) k := fun k => hc 1 k (by omega) (by omega)
  have a2 : ∀ k, σ' (cSo 0) k = σ (cSo 0) k := fun k => hc 2 k (by omega) (by omega)
  have a3 : ∀ k, σ' (cCo 0) k = σ (cCo 0) k := fun k => hc 3 k (by omega) (by omega)
  have a4 : ∀ k, σ' (cTe 0) k = σ (cTe 0) k := fun k => hc 4 k (by omega) (by omega)
  refine ⟨⟨s1.same a3 a4, by rw [a1]; exact s2, fun i hi => by rw [a2]; exact s3 i hi, fun i h1 hi => by rw [a2]; exact s4 i h1 hi⟩, ?_, ?_, ?_, ?_⟩
  · rw [hm, a3]; exact e1
  · rw [hm, a3]; exact e2
  · rw [hm, a1]; exact e3
  · intro i hi; rw [hm, a2]; exact e4 i hi
theorem RLv.soft {σ τ : wx_Z} {o m j : Nat} {v : Int32} (h : RLv σ τ o m) (hj : j < 2 ^ m) (hv : -99 ≤ v.toInt ∧ v.toInt ≤ 99) : RLv (wx_up σ (cSo 0) j v) (wx_up τ 1 (3 + j) v) o m := by
  obtain ⟨⟨s1, s2, s3, s4⟩, e1, e2, e3, e4⟩ := h
  obtain ⟨n1, n2, n3, n4, n5, n6⟩ := c_ne 0
  refine ⟨⟨s1.same (fun k => up_c n3) (fun k => up_c n5), ?_, ?_, ?_⟩, ?_, ?_, ?_, ?_⟩
  · rw [up_c n6]; exact s2
  · intro i hi
    by_cases q : i = j
    · subst q; rw [up_s]; exact hv
    · rw [up_k q]; exact s3 i hi
  · intro i h1 hi
    rw [up_k (by omega)]; exact s4 i h1 hi
  · rw [up_k (by omega), up_c n3]; exact e1
  · rw [up_k (by omega), up_c n3]; exact e2
  · rw [up_k (by omega), up_c n6]; exact e3
  · intro i hi
    by_cases q : i = j
    · subst q
      rw [up_s, up_s]
    · rw [up_k (by omega), up_k q]; exact e4 i hi
theorem TS.of {σ σ' : wx_Z} {t : Nat → Int32} {n p : Nat} {f : Int32} (h : TS σ t n p f) (h3 : ∀ k, σ' 43 k = σ 43 k) (h4 : ∀ k, σ' 44 k = σ 44 k) : TS σ' t n p f := by
  obtain ⟨a, b, c, d, e, g, i⟩ := h
  exact ⟨fun i hi => (h4 i).trans (a i hi), (h3 _).trans b, (h3 _).trans c, (h3 _).trans d, e, g, i⟩
theorem TM.of {τ τ' : wx_Z} {t : Nat → Int32} {n p : Nat} (h : TM τ t n p) (h0 : τ' 0 21 = τ 0 21) (h2 : τ' 0 22 = τ 0 22) (h1 : ∀ k, τ' 11 k = τ 11 k) : TM τ' t n p := by
  obtain ⟨a, b, c, e, g⟩ := h
  exact ⟨fun i hi => (h1 i).trans (a i hi), h0.trans b, h2.trans c, e, g⟩
theorem lt7_0 {c : Int32} : lt7 0 c ↔ (c = 99 ∨ c = 109 ∨ c = 119 ∨ c = 102 ∨ c = 118 ∨ c = 115 ∨ c = 104) := by
  constructor
  · rintro ⟨i, hi, e⟩
    have hi : i < 7 := hi
    rcases (show i = 0 ∨ i = 1 ∨ i = 2 ∨ i = 3 ∨ i = 4 ∨ i = 5 ∨ i = 6 by omega) with rfl | rfl | rfl | rfl | rfl | rfl | rfl
    · exact Or.inl e.symm
    · exact Or.inr (Or.inl e.symm)
    · exact Or.inr (Or.inr (Or.inl e.symm))
    · exact Or.inr (Or.inr (Or.inr (Or.inl e.symm)))
    · exact Or.inr (Or.inr (Or.inr (Or.inr (Or.inl e.symm))))
    · exact Or.inr (Or.inr (Or.inr (Or.inr (Or.inr (Or.inl e.symm)))))
    · exact Or.inr (Or.inr (Or.inr (Or.inr (Or.inr (Or.inr e.symm)))))
  · rintro (e | e | e | e | e | e | e)
    · exact ⟨0, by decide, e.symm⟩
    · exact ⟨1, by decide, e.symm⟩
    · exact ⟨2, by decide, e.symm⟩
    · exact ⟨3, by decide, e.symm⟩
    · exact ⟨4, by decide, e.symm⟩
    · exact ⟨5, by decide, e.symm⟩
    · exact ⟨6, by decide, e.symm⟩
theorem lt7_1 {c : Int32} : lt7 1 c ↔ c = 59 := by
  constructor
  · rintro ⟨i, hi, e⟩
    have hi : i < 1 := hi
    have : i = 0 := by omega
    subst this
    exact e.symm
  · intro e
    exact ⟨0, by decide, e.symm⟩
def MB (τ : wx_Z) (s : Nat) : Prop := ∀ K : Int32 → wx_Z → Prop, (∀ τ', md sE τ τ' → τ' 0 22 = nI s → K 0 τ') → wpX9_readsOne τ K
def MG (τ : wx_Z) (P : wx_Z → Prop) : Prop := ∀ K : Int32 → wx_Z → Prop, (∀ τ', md sE τ τ' → P τ' → K 1 τ') → wpX9_readsOne τ K
def QN (σ : wx_Z) (t : Nat → Int32) (n p o m : Nat) (σ' : wx_Z) : Prop := (∃ s, s ≤ 120 ∧ σ' 43 3 = nI s ∧ md sD σ σ' ∧ ∀ τ, TM τ t n p → RLv σ τ o m → MB τ s) ∨ (∃ p' o' m', p < p' ∧ md sD σ σ' ∧ TS σ' t n p' (-1) ∧ ST σ' 0 o' m' ∧ ∀ τ, TM τ t n p → RLv σ τ o m → MG τ (fun τ' => TM τ' t n p' ∧ RLv σ' τ' o' m'))
theorem nI_nm {s : Nat} (h : s ≤ 120) : ¬ nI s = -1 := (by decide +kernel : ∀ s, s < 121 → ¬ nI s = -1) s (by omega)
/-- the order's end, and what it did -/
theorem ST.same0 {σ σ' : wx_Z} {o m : Nat} (h : ST σ 0 o m) (hc : ∀ c k, 1 ≤ c → c ≤ 4 → σ' c k = σ c k) : ST σ' 0 o m := by
  obtain ⟨s1, s2, s3, s4⟩ := h
  have a1 : ∀ k, σ' (cSt 0) k = σ (cSt 0) k := fun k => hc 1 k (by omega) (by omega)
  have a2 : ∀ k, σ' (cSo 0) k = σ (cSo 0) k := fun k => hc 2 k (by omega) (by omega)
  have a3 : ∀ k, σ' (cCo 0) k = σ (cCo 0) k := fun k => hc 3 k (by omega) (by omega)
  have a4 : ∀ k, σ' (cTe 0) k = σ (cTe 0) k := fun k => hc 4 k (by omega) (by omega)
  exact ⟨s1.same a3 a4, by rw [a1]; exact s2, fun i hi => by rw [a2]; exact s3 i hi, fun i h1 hi => by rw [a2]; exact s4 i h1 hi⟩
theorem e_tail {σ σ2 : wx_Z} {t : Nat → Int32} {n p q o m o' m' : Nat} {f x : Int32} {D : wx_Z → wx_Z → Prop} {K : wx_Z → Prop} (hK : ∀ σ', QN σ t n p o m σ' → K σ') (hT : TS σ2 t n q f) (hmd : md sD σ σ2) (hpq : p < q)
    (hf : f = -1 ∨ ∃ s, s ≤ 120 ∧ f = nI s ∧ ∀ τ, TM τ t n p → RLv σ τ o m → MB τ s) (hD : ∀ τ τ1 τ2, md (fun c k => c == 0 && k == 22) τ1 τ2 → D τ τ1 → D τ τ2)
    (hST : f = -1 → ST σ2 0 o' m')
    (hmid : f = -1 → ∀ τ, TM τ t n p → RLv σ τ o m → ∀ K', (∀ τq, md sE τ τq → TM τq t n q → D τ τq → wpX9_readsOne_203 K' τq x 1) → wpX9_readsOne τ K')
    (hdo : f = -1 → ∀ τ, TM τ t n p → RLv σ τ o m → ∀ τ3 p', TM τ3 t n p' → D τ τ3 → ∀ K', (∀ τ', md sE τ3 τ' → TM τ' t n p' → RLv σ2 τ' o' m' → K' τ') → wpX9_doesOne τ3 x K') : wpX8_carryOutNext_293 K σ2 := by
  have hb := sb_le (t := t) hT.2.2.2.2.2.1
  have hn := hT.2.2.2.2.1
  have k203 : ∀ (τ : wx_Z) (K' : Int32 → wx_Z → Prop) (τq : wx_Z), TM τq t n q → D τ τq → (∀ τ', md (fun c k => c == 0 && k == 22) τq τ' → TM τ' t n (sb t n q) → D τ τ' → ¬ (sb t n q < n ∧ t (sb t n q) = 59) → K' 0 τ') → (sb t n q < n → t (sb t n q) = 59 → ∀ τ', md (fun c k => c == 0 && k == 22) τq τ' → TM τ' t n (sb t n q + 1) → D τ τ' → wpX9_doesOne τ' x (fun σ => K' 1 σ)) → wpX9_readsOne_203 K' τq x 1 := by
    intro τ K' τq Tq Dq h0 h1
    refine ⟨fun z => absurd z (by decide), fun _ => ?_⟩
    apply k_here Tq
    intro τ1 m1 T1
    refine ⟨fun z τ2 e2 => ?_, fun z => ?_⟩
    · have hs : sb t n q < n := by
        apply Decidable.byContradiction
        intro y
        rw [if_neg y] at z
        exact absurd z (by decide)
      rw [if_pos hs] at z
      rw [T1.2.2.1, nI_1] at e2
      have m2 : md (fun c k => c == 0 && k == 22) τq τ2 := by rw [e2]; exact m1.up rfl
      exact h1 hs z τ2 m2 (by rw [e2]; exact T1.next (by omega)) (hD _ _ _ m2 Dq)
    · refine h0 τ1 m1 T1 (hD _ _ _ m1 Dq) (fun y => z ?_)
      rw [if_pos y.1]; exact y.2
  unfold wpX8_carryOutNext_293
  apply q_readOneOf (by omega) hT
  · intro hs hl σ3 m3 T3
    rw [lt7_1] at hl
    apply hK
    rcases hf with hf | ⟨s, hs2, hf, hMB⟩
    · refine Or.inr ⟨sb t n q + 1, o', m', by omega, hmd.tr (md_TD m3), by rw [← hf]; exact T3, (hST hf).same0 (fun c k h1 h2 => m3 c k (by unfold sT; simp; omega)), ?_⟩
      intro τ hM hR K' hk
      refine hmid hf τ hM hR K' (fun τq mq Tq Dq => ?_)
      refine k203 τ K' τq Tq Dq (fun τ' _ _ _ z => absurd ⟨hs, hl⟩ z) (fun _ _ τ' m' T' D' => ?_)
      refine hdo hf τ hM hR τ' _ T' D' _ (fun τ'' m'' T'' hR => ?_)
      exact hk τ'' ((mq.tr (md_RE (md_22 m'))).tr m'') ⟨T'', hR.same (fun c k h1 h2 => m3 c k (by unfold sT; simp; omega)) (fun _ => rfl)⟩
    · exact Or.inl ⟨s, hs2, T3.2.2.2.1.trans hf, hmd.tr (md_TD m3), hMB⟩
  · intro hnl σ3 m3 T3
    rw [lt7_1] at hnl
    apply hK
    rcases hf with hf | ⟨s, hs2, hf, hMB⟩
    · refine Or.inl ⟨sb t n q, by omega, ?_, hmd.tr (md_TD m3), ?_⟩
      · rw [T3.2.2.2.1, hf]; rfl
      · intro τ hM hR K' hk
        refine hmid hf τ hM hR K' (fun τq mq Tq Dq => ?_)
        refine k203 τ K' τq Tq Dq (fun τ' m' T' _ _ => ?_) (fun y1 y2 => absurd ⟨y1, y2⟩ hnl)
        exact hk τ' (mq.tr (md_RE (md_22 m'))) T'.2.2.1
    · refine Or.inl ⟨s, hs2, ?_, hmd.tr (md_TD m3), hMB⟩
      rw [T3.2.2.2.1, hf]
      unfold fa
      rw [if_neg (nI_nm hs2)]
theorem wi_mk {N : Nat} (h1 : 1 ≤ N) (h2 : N ≤ 32) : wi (mk N) N := fun i hi hi2 => by rw [bt_mk h1 h2 hi2]; exact decide_eq_false (by omega)
theorem hv_wi : ∀ (m r : Nat) (f : Nat → Int32), m ≤ 5 → wi (hv m r f) (2 ^ m)
  | 0, r, f, _ => by
    rw [hv]
    by_cases q : r = 0
    · rw [if_pos q]; unfold al
      by_cases q2 : 0 ≤ sI f (2 ^ 0)
      · rw [if_pos q2]; exact wi_0
      · rw [if_neg q2]; exact wi_mk (by decide) (by decide)
    · rw [if_neg q]; exact wi_wd (by decide)
  | m + 1, r, f, h5 => by
    have hp := p2_le h5
    have hpos := p2_pos (m + 1)
    have h2 : 2 ^ (m + 1) = 2 ^ m + 2 ^ m := by rw [Nat.pow_succ]; omega
    rw [hv]
    by_cases q : r = 0
    · rw [if_pos q]; unfold al
      by_cases q2 : 0 ≤ sI f (2 ^ (m + 1))
      · rw [if_pos q2]; exact wi_0
      · rw [if_neg q2]; exact wi_mk hpos hp
    · rw [if_neg q]
      by_cases q1 : r = m + 1
      · rw [if_pos q1]; exact wi_wd hp
      · rw [if_neg q1]
        intro i hi hi2
        have ha := hv_wi m (r - 1) (fun i => les (f i) (f (i + 2 ^ m))) (by omega)
        have hb := hv_wi m r (tog f (2 ^ m) (hv m (r - 1) (fun i => les (f i) (f (i + 2 ^ m))))) (by omega)
        rw [b_or, hb i (by omega) hi2, b_shl (2 ^ m) (by omega) _ hi2, b_xor, hb (i - 2 ^ m) (by omega) (by omega), ha (i - 2 ^ m) (by omega) (by omega)]
        simp
theorem wMs_wi {m : Nat} {l : List Nat} {msg : Int32} (h5 : m ≤ 5) : wi (wMs m l msg) (2 ^ m) := by
  unfold wMs
  generalize l.length = N
  induction N with
  | zero => exact wi_0
  | succ n ih =>
    rw [xw]
    refine wi_xor ih ?_
    cases bt msg n
    · rw [if_neg (by decide)]; exact wi_0
    · rw [if_pos rfl]; exact wi_wT h5
theorem md_FD {σ σ' : wx_Z} {L : List Nat} (h : fr L σ σ') (hL : ∀ c ∈ L, (1 ≤ c ∧ c ≤ 4) ∨ 45 ≤ c) : md sD σ σ' := fun c k q => by
  rw [h c (fun z => by
    have := hL c z
    unfold sD at q
    simp at q
    omega)]
/-- numbers that both read -/
theorem k_mid {τ : wx_Z} {t : Nat → Int32} {n p : Nat} {x : Int32} {K : Int32 → wx_Z → Prop} (h : TM τ t n p) (hs : sb t n p < n) (ex : t (sb t n p) = x) (hl : lt7 0 x) (hK : ∀ τ2, md (fun c k => c == 0 && k == 22) τ τ2 → TM τ2 t n (sb t n p + 1) → ((¬ x = 99 → ((x = 109 → wpX9_readsOne_119 K τ2 x) ∧ (¬ (x = 109) → ((¬ x = 119 → ((x = 102 → wpX9_readsOne_156 K τ2 x) ∧ (¬ (x = 102) → ((¬ x = 115 → wpX9_readsOne_203 K τ2 x 1) ∧ (x = 115 → wpX9_readsOne_156 K τ2 x))))) ∧ (x = 119 → wpX9_readsOne_119 K τ2 x))))) ∧ (x = 99 → (wpX9_takes τ2 0 5 <| fun r70 σ70 => (∀ σ79 : wx_Z, σ79 = wx_up σ70 0 24 (σ70 0 23) → ((r70 = 0 → wpX9_readsOne_203 K σ79 x 0) ∧ (¬ (r70 = 0) → (wpX9_takes σ79 (σ79 0 24) 5 <| fun r92 σ92 => ((r92 = 0 → wpX9_readsOne_203 K σ92 x 0) ∧ (¬ (r92 = 0) → wpX9_readsOne_203 K σ92 x 1)))))))))) : wpX9_readsOne τ K := by
  unfold wpX9_readsOne
  apply k_here h
  intro τ1 m1 T1
  rw [if_pos hs, ex]
  have g : wpX9_readsOne_49 K τ1 x := by
    intro τ2 e2
    rw [T1.2.2.1, nI_1] at e2
    exact hK τ2 (by rw [e2]; exact m1.up rfl) (by rw [e2]; exact T1.next (by omega))
  refine ⟨fun _ => g, fun a1 => ⟨fun _ => g, fun a2 => ⟨fun _ => g, fun a3 => ⟨fun _ => g, fun a4 => ⟨fun _ => g, fun a5 => ⟨fun _ => g, fun a6 => ⟨fun _ => g, fun a7 => ?_⟩⟩⟩⟩⟩⟩⟩
  rw [lt7_0] at hl
  rcases hl with z | z | z | z | z | z | z
  · exact absurd z a1
  · exact absurd z a2
  · exact absurd z a3
  · exact absurd z a4
  · exact absurd z a5
  · exact absurd z a6
  · exact absurd z a7

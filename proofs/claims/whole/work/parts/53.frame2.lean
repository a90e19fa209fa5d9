/-! ===== what is left as it was ===== -/
def md (S : Nat → Nat → Bool) (σ σ' : wx_Z) : Prop := ∀ c k, S c k = false → σ' c k = σ c k
theorem md.rf {S : Nat → Nat → Bool} {σ : wx_Z} : md S σ σ := fun _ _ _ => rfl
theorem md.tr {S : Nat → Nat → Bool} {σ σ1 σ2 : wx_Z} (h1 : md S σ σ1) (h2 : md S σ1 σ2) : md S σ σ2 := fun c k h => (h2 c k h).trans (h1 c k h)
theorem md.mono {S T : Nat → Nat → Bool} {σ σ1 : wx_Z} (h1 : md S σ σ1) (h : ∀ c k, T c k = false → S c k = false) : md T σ σ1 := fun c k q => h1 c k (h c k q)
theorem up_at (σ : wx_Z) (c k : Nat) (v : Int32) (c' k' : Nat) : wx_up σ c k v c' k' = if c' = c ∧ k' = k then v else σ c' k' := by
  unfold wx_up va_up upd
  by_cases h : c' = c
  · subst h
    by_cases h2 : k' = k <;> simp [h2]
  · simp [h]
theorem up_s (σ : wx_Z) (c k : Nat) (v : Int32) : wx_up σ c k v c k = v := by rw [up_at]; simp
theorem up_c {σ : wx_Z} {c k : Nat} {v : Int32} {c' k' : Nat} (h : c' ≠ c) : wx_up σ c k v c' k' = σ c' k' := by rw [up_at]; simp [h]
theorem up_k {σ : wx_Z} {c k : Nat} {v : Int32} {c' k' : Nat} (h : k' ≠ k) : wx_up σ c k v c' k' = σ c' k' := by rw [up_at]; simp [h]
theorem up_row {σ : wx_Z} {c k : Nat} {v : Int32} {c' : Nat} (h : c' ≠ c) : wx_up σ c k v c' = σ c' := funext fun _ => up_c h
theorem md_up {S : Nat → Nat → Bool} {σ : wx_Z} {c k : Nat} {v : Int32} (h : S c k = true) : md S σ (wx_up σ c k v) := fun c' k' q => by
  rw [up_at]
  by_cases e : c' = c ∧ k' = k
  · rw [e.1, e.2, h] at q; cases q
  · rw [if_neg e]
theorem md.up {S : Nat → Nat → Bool} {σ σ1 : wx_Z} {c k : Nat} {v : Int32} (h0 : md S σ σ1) (h : S c k = true) : md S σ (wx_up σ1 c k v) := h0.tr (md_up h)
theorem vi {n N : Nat} (h : n < N) (hN : N < 2 ^ 31 := by decide) : vp_in (nI n) N := vp_in_nI h hN
theorem cln {n : Nat} (h : n < 2 ^ 31) : (nI n).toNatClampNeg = n := nI_clamp h
theorem p2_le {m : Nat} (h : m ≤ 5) : 2 ^ m ≤ 32 := (by decide +kernel : ∀ m, m < 6 → 2 ^ m ≤ 32) m (by omega)
theorem p2_pos (m : Nat) : 0 < 2 ^ m := Nat.pow_pos (by decide)
theorem sh1 : ∀ k, k < 32 → (1 : Int32) <<< (nI k &&& 31) = nI (2 ^ k) := by decide +kernel
theorem toL_le (a b : Int32) : a.toInt64 ≤ b.toInt64 ↔ a ≤ b := fa_wide_le a b
theorem litL (n : Nat) (h : n < 2 ^ 31) : (lN n) = (nI n).toInt64 := (nI_l h).symm
/-! ===== the reference: its small methods ===== -/
theorem k_in {τ : wx_Z} {a lo hi : Int64} {K : Int32 → wx_Z → Prop} (h1 : lo ≤ a → a ≤ hi → K 1 τ) (h0 : ¬ (lo ≤ a ∧ a ≤ hi) → K 0 τ) : wpX9_in τ a lo hi K := by
  unfold wpX9_in
  have c1 : lg_cmp a lo < 0 ↔ ¬ lo ≤ a := by
    rw [← lg_cmp_ge, Int32.lt_iff_toInt_lt, Int32.le_iff_toInt_le]
    omega
  have c2 : 0 < lg_cmp a hi ↔ ¬ a ≤ hi := by
    unfold lg_cmp
    simp only [gt_iff_lt, Int64.lt_iff_toInt_lt, Int64.le_iff_toInt_le, ← Int64.toInt_inj]
    by_cases q : hi.toInt < a.toInt
    · rw [if_pos q]; exact ⟨fun _ => by omega, fun _ => by decide⟩
    · rw [if_neg q]
      by_cases q2 : a.toInt = hi.toInt
      · rw [if_pos q2]; exact ⟨fun z => absurd z (by decide), fun z => absurd (by omega) z⟩
      · rw [if_neg q2]; exact ⟨fun z => absurd z (by decide), fun z => absurd (by omega) z⟩
  refine ⟨fun h => h0 (fun q => (c1.mp h) q.1), fun h => ⟨fun g => h0 (fun q => (c2.mp g) q.2), fun g => ?_⟩⟩
  exact h1 (Decidable.of_not_not (fun z => h (c1.mpr z))) (Decidable.of_not_not (fun z => g (c2.mpr z)))
theorem k_has {τ : wx_Z} {x : Int32} {k : Nat} {K : Int32 → wx_Z → Prop} (hk : k < 32) (h : K (b2i (bt x k)) τ) : wpX9_has τ x (nI k) K := by
  unfold wpX9_has
  rw [bit_s x hk]
  refine ⟨fun q => ?_, fun q => ?_⟩
  · have e : bt x k = false := by
      rcases hb : bt x k with _ | _
      · rfl
      · rw [hb] at q; exact absurd rfl q
    rw [e] at h
    exact h
  · rw [b2i_1] at q
    rw [q] at h
    exact h
theorem k_order {τ : wx_Z} {K : Int32 → wx_Z → Prop} (h : K (τ 1 0) τ) : wpX9_order τ K := ⟨vi (n := 0) (by decide), h⟩
theorem k_length {τ : wx_Z} {K : Int32 → wx_Z → Prop} (h : K (τ 1 1) τ) : wpX9_length τ K := ⟨vi (n := 1) (by decide), h⟩
theorem k_theWord {τ : wx_Z} {K : Int32 → wx_Z → Prop} (h : K (τ 1 2) τ) : wpX9_theWord τ K := ⟨vi (n := 2) (by decide), h⟩
theorem k_places {τ : wx_Z} {m : Nat} {K : Int32 → wx_Z → Prop} (hm : τ 1 1 = nI m) (h5 : m ≤ 5) (h : K (nI (2 ^ m)) τ) : wpX9_places τ K := by
  unfold wpX9_places
  apply k_length
  rw [hm, sh1 m (by omega)]
  exact h
theorem k_bad {τ : wx_Z} {x : Int32} {K : Int32 → wx_Z → Prop} (h : K x (wx_up τ 3 0 (τ 3 0 + 1))) : wpX9_bad τ x K := ⟨vi (n := 0) (by decide), vi (n := 0) (by decide), fun _ e => by rw [e]; exact h⟩
theorem k_no {τ : wx_Z} {x : Int32} {K : Int32 → wx_Z → Prop} (h : K x (wx_up τ 3 1 (τ 3 1 + 1))) : wpX9_no τ x K := ⟨vi (n := 1) (by decide), vi (n := 1) (by decide), fun _ e => by rw [e]; exact h⟩
theorem k_full {τ : wx_Z} {K : Int32 → wx_Z → Prop} (h : K (-4) (wx_up τ 3 2 (τ 3 2 + 1))) : wpX9_full τ K := ⟨vi (n := 2) (by decide), vi (n := 2) (by decide), fun _ e => by rw [e]; exact h⟩
/-! ===== terms in their order ===== -/
theorem pc_5 : ∀ t, t < 32 → pc (nI t) = pcF 5 t := by decide +kernel
def ac (m s t : Nat) : List Nat := (List.range s).flatMap (fun s => (List.range (2 ^ m)).filter (fun t => pcF 5 t == s)) ++ (List.range t).filter (fun t => pcF 5 t == s)
def tl (r m : Nat) : List Nat := ac m (r + 1) 0
theorem ac_full (m s : Nat) : ac m s (2 ^ m) = ac m (s + 1) 0 := by
  unfold ac
  rw [List.range_succ, List.flatMap_append]
  simp
theorem ac_yes {m s t : Nat} (h : pcF 5 t = s) : ac m s (t + 1) = ac m s t ++ [t] := by
  unfold ac
  rw [List.range_succ, List.filter_append]
  simp [h]
theorem ac_no {m s t : Nat} (h : ¬ pcF 5 t = s) : ac m s (t + 1) = ac m s t := by
  unfold ac
  rw [List.range_succ, List.filter_append]
  simp [h]
theorem ac_lt0 : ∀ m, m < 6 → ∀ s, s < 6 → ∀ t, t < 32 → pcF 5 t = s → t < 2 ^ m → (ac m s t).length < 32 := by decide +kernel
theorem tl_fact : ∀ m, m < 6 → ∀ r, r < 6 → (tl r m).length ≤ 32 ∧ 0 < (tl r m).length ∧ ∀ t ∈ tl r m, t < 2 ^ m ∧ pcF 5 t ≤ r := by decide +kernel
def lay (τ : wx_Z) (l : List Nat) : Prop := τ 0 5 = nI l.length ∧ ∀ j, j < l.length → τ 4 j = nI (l.getD j 0)
def sMany (c k : Nat) : Bool := c == 4 || (c == 0 && k == 5)
theorem lay_push {τ : wx_Z} {l : List Nat} {t : Nat} (h : lay τ l) (hl : l.length < 32) : lay (wx_up (wx_up τ 4 l.length (nI t)) 0 5 (nI (l.length + 1))) (l ++ [t]) := by
  refine ⟨?_, fun j hj => ?_⟩
  · rw [up_s, List.length_append]; rfl
  · rw [List.length_append] at hj
    rw [up_c (by decide)]
    by_cases e : j = l.length
    · subst e
      rw [up_s]
      simp
    · have hj2 : j < l.length := by
        have : j < l.length + 1 := hj
        omega
      rw [up_k e, h.2 j hj2, List.getD_eq_getElem?_getD, List.getD_eq_getElem?_getD, List.getElem?_append_left hj2]
theorem k_lays {τ : wx_Z} {m r : Nat} (hm : τ 1 1 = nI m) (h5 : m ≤ 5) (hr : r ≤ 5) {K : wx_Z → Prop} (hK : ∀ τ', md sMany τ τ' → lay τ' (tl r m) → K τ') : wpX9_lays τ (nI r) K := by
  have hp := p2_le h5
  have inner : ∀ (C7 : wx_Z → Int32 → Int32 → Prop) (s : Nat), s ≤ 5 → (∀ τ', md sMany τ τ' → lay τ' (ac m (s + 1) 0) → C7 τ' (nI r) (nI (s + 1))) → ∀ (d t : Nat) (τ' : wx_Z), t + d = 2 ^ m → md sMany τ τ' → lay τ' (ac m s t) → wpX9_lays_14 K C7 (d + 1) τ' (nI r) (nI s) (nI t) := by
    intro C7 s hs hC d
    induction d with
    | zero =>
      intro t τ' ht hmd hl
      unfold wpX9_lays_14
      have ht : t = 2 ^ m := by omega
      subst ht
      apply k_places (m := m) ((hmd 1 1 rfl).trans hm) h5
      refine ⟨fun _ t56 e => ?_, fun q => absurd (Int32.le_refl _) q⟩
      rw [e, nI_1]
      rw [ac_full] at hl
      exact hC τ' hmd hl
    | succ d ih =>
      intro t τ' ht hmd hl
      unfold wpX9_lays_14
      apply k_places (m := m) ((hmd 1 1 rfl).trans hm) h5
      refine ⟨fun q => ?_, fun _ => ?_⟩
      · rw [nI_leI (by omega) (by omega)] at q
        omega
      · apply k_bits
        rw [pc_5 t (by omega)]
        have hb : pcF 5 t < 2 ^ 31 := by
          have : pcF 5 t ≤ 5 := (by decide +kernel : ∀ t, t < 32 → pcF 5 t ≤ 5) t (by omega)
          omega
        refine ⟨fun q t50 e => ?_, fun q => ?_⟩
        · rw [e, nI_1]
          rw [nI_eq hb (by omega)] at q
          exact ih (t + 1) τ' (by omega) hmd (by rw [ac_no q]; exact hl)
        · rw [nI_eq hb (by omega)] at q
          have hlen := ac_lt0 m (by omega) s (by omega) t (by omega) q (by omega)
          rw [hl.1]
          refine ⟨vi hlen, fun σ39 e39 σ47 e47 t50 e => ?_⟩
          rw [e, nI_1]
          rw [cln (by omega)] at e39
          have e5 : σ39 0 5 = nI (ac m s t).length := by rw [e39, up_c (by decide), hl.1]
          rw [e5, nI_1, e39] at e47
          rw [e47]
          refine ih (t + 1) _ (by omega) ((hmd.up rfl).up rfl) ?_
          rw [ac_yes q]
          exact lay_push hl hlen
  have outer : ∀ (d s : Nat) (τ' : wx_Z), s + d = r + 1 → md sMany τ τ' → lay τ' (ac m s 0) → wpX9_lays_7 K (d + 1) τ' (nI r) (nI s) := by
    intro d
    induction d with
    | zero =>
      intro s τ' hs hmd hl
      unfold wpX9_lays_7
      have hs : s = r + 1 := by omega
      subst hs
      refine ⟨fun _ => hK τ' hmd hl, fun q => absurd (nI_lt (by omega) (by omega)) q⟩
    | succ d ih =>
      intro s τ' hs hmd hl
      unfold wpX9_lays_7
      refine ⟨fun q => ?_, fun _ => ⟨2 ^ m + 1, ?_⟩⟩
      · rw [nI_ltI (by omega) (by omega)] at q
        omega
      · exact inner _ s (by omega) (fun τ'' h1 h2 => ih (s + 1) τ'' (by omega) h1 h2) (2 ^ m) 0 τ' (by omega) hmd hl
  intro σ2 e2
  refine ⟨r + 1 + 1, ?_⟩
  rw [e2]
  exact outer (r + 1) 0 _ (by omega) (md_up rfl) ⟨by rw [up_s]; rfl, fun j hj => by simp [ac] at hj⟩
theorem k_many {τ : wx_Z} {o m : Nat} (ho : τ 1 0 = nI o) (hm : τ 1 1 = nI m) (hom : o ≤ m) (h5 : m ≤ 5) {K : Int32 → wx_Z → Prop} (hK : ∀ τ', md sMany τ τ' → lay τ' (tl o m) → K (nI (tl o m).length) τ') : wpX9_many τ K := by
  unfold wpX9_many
  apply k_order
  rw [ho]
  apply k_lays hm h5 (by omega)
  intro τ' h1 h2
  rw [h2.1]
  exact hK τ' h1 h2

/-! ===== the lowest bit ===== -/
def tz : Nat → Nat → Nat
  | 0, _ => 0
  | f + 1, k => if k % 2 = 1 then 0 else tz f (k / 2) + 1
theorem tz_lt : ∀ (f k n : Nat), 0 < k → k < 2 ^ n → n ≤ f → tz f k < n
  | 0, k, n, h0, h1, h2 => by
    have : n = 0 := by omega
    subst this
    simp at h1
    omega
  | f + 1, k, n, h0, h1, h2 => by
    rcases n with _ | n
    · simp at h1
      omega
    · rw [tz]
      by_cases q : k % 2 = 1
      · rw [if_pos q]; omega
      · rw [if_neg q]
        have := tz_lt f (k / 2) n (by omega) (by rw [Nat.pow_succ] at h1; omega) (by omega)
        omega
theorem tz_bits : ∀ (f k : Nat), 0 < k → k < 2 ^ f → ∀ j, ((k.testBit j ^^ (k - 1).testBit j) = decide (j ≤ tz f k)) ∧ ((!k.testBit j && (k - 1).testBit j) = decide (j < tz f k))
  | 0, k, h0, h1, j => by
    simp at h1
    omega
  | f + 1, k, h0, h1, j => by
    rw [tz]
    by_cases q : k % 2 = 1
    · rw [if_pos q]
      rcases j with _ | j
      · have a : k.testBit 0 = true := by rw [Nat.testBit_zero]; simp [q]
        have b : (k - 1).testBit 0 = false := by rw [Nat.testBit_zero]; simp; omega
        rw [a, b]; exact ⟨rfl, rfl⟩
      · rw [Nat.testBit_succ, Nat.testBit_succ, show (k - 1) / 2 = k / 2 by omega]
        cases (k / 2).testBit j <;> simp
    · rw [if_neg q]
      rcases j with _ | j
      · have a : k.testBit 0 = false := by rw [Nat.testBit_zero]; simp; omega
        have b : (k - 1).testBit 0 = true := by rw [Nat.testBit_zero]; simp; omega
        rw [a, b]; simp
      · rw [Nat.testBit_succ, Nat.testBit_succ, show (k - 1) / 2 = k / 2 - 1 by omega]
        have := tz_bits f (k / 2) (by omega) (by rw [Nat.pow_succ] at h1; omega) j
        rw [this.1, this.2]
        simp
def ntF (t7 : Int32) : Int32 :=
  if 0 < t7 then
    let a := if t7 ≤ 65536 then (t7, (1 : Int32)) else (wx_us t7 16, 1 + 16)
    let b := if a.1 ≤ 256 then a else (wx_us a.1 8, a.2 + 8)
    let c := if b.1 ≤ 16 then b else (wx_us b.1 4, b.2 + 4)
    if c.1 ≤ 4 then c.2 + wx_us c.1 1 else (c.2 + 2) + wx_us (wx_us c.1 2) 1
  else t7 &&& 32
theorem q_ntz {σ : wx_Z} {x : Int32} {K : Int32 → wx_Z → Prop} (h : K (ntF ((x ^^^ (-1)) &&& (x - 1))) σ) : wpJ6_numberOfTrailingZeros_0f7a4 σ x K := by
  intro t7 e7
  rw [← e7] at h
  unfold ntF at h
  have h62 : ∀ c : Int32 × Int32, K (if c.1 ≤ 4 then c.2 + wx_us c.1 1 else (c.2 + 2) + wx_us (wx_us c.1 2) 1) σ → wpJ6_numberOfTrailingZeros_0f7a4_62 K σ c.1 c.2 := by
    intro c hc
    refine ⟨fun q => ?_, fun q t67 e67 t73 e73 => ?_⟩
    · rw [if_pos q] at hc; exact hc
    · rw [if_neg q] at hc; rw [e67, e73]; exact hc
  have h49 : ∀ b : Int32 × Int32, (∀ c : Int32 × Int32, c = (if b.1 ≤ 16 then b else (wx_us b.1 4, b.2 + 4)) → wpJ6_numberOfTrailingZeros_0f7a4_62 K σ c.1 c.2) → wpJ6_numberOfTrailingZeros_0f7a4_49 K σ b.1 b.2 := by
    intro b hc
    refine ⟨fun q => ?_, fun q t55 e55 t61 e61 => ?_⟩
    · exact hc b (by rw [if_pos q])
    · rw [e55, e61]; exact hc (wx_us b.1 4, b.2 + 4) (by rw [if_neg q])
  have h34 : ∀ b : Int32 × Int32, (∀ c : Int32 × Int32, c = (if b.1 ≤ 256 then b else (wx_us b.1 8, b.2 + 8)) → wpJ6_numberOfTrailingZeros_0f7a4_49 K σ c.1 c.2) → wpJ6_numberOfTrailingZeros_0f7a4_34 K σ b.1 b.2 := by
    intro b hc
    refine ⟨fun q => ?_, fun q t55 e55 t61 e61 => ?_⟩
    · exact hc b (by rw [if_pos q])
    · rw [e55, e61]; exact hc (wx_us b.1 8, b.2 + 8) (by rw [if_neg q])
  refine ⟨fun q => ?_, fun q => ?_⟩
  · rw [if_pos q] at h
    have go : ∀ a : Int32 × Int32, a = (if t7 ≤ 65536 then (t7, (1 : Int32)) else (wx_us t7 16, 1 + 16)) → wpJ6_numberOfTrailingZeros_0f7a4_34 K σ a.1 a.2 := by
      intro a ha
      refine h34 a (fun b hb => h49 b (fun c hc => h62 c ?_))
      rw [hc, hb, ha]
      exact h
    refine ⟨fun q2 => ?_, fun q2 t26 e26 t33 e33 => ?_⟩
    · exact go (t7, 1) (by rw [if_pos q2])
    · rw [e26, e33]; exact go (wx_us t7 16, 1 + 16) (by rw [if_neg q2])
  · rw [if_neg q] at h; exact h
theorem nt_all : ∀ t, t < 17 → ntF (nI (2 ^ t - 1)) = nI t := by decide +kernel
theorem q_ntzN {σ : wx_Z} {k : Nat} {K : Int32 → wx_Z → Prop} (h0 : 0 < k) (h1 : k < 2 ^ 16) (h : K (nI (tz 16 k)) σ) : wpJ6_numberOfTrailingZeros_0f7a4 σ (nI k) K := by
  have ht := tz_lt 16 k 16 h0 h1 (by omega)
  apply q_ntz
  have e : (nI k ^^^ (-1)) &&& (nI k - 1) = nI (2 ^ tz 16 k - 1) := by
    obtain ⟨k', rfl⟩ : ∃ k', k = k' + 1 := ⟨k - 1, by omega⟩
    rw [nI_pred]
    apply b_ext
    intro i hi
    rw [b_and, b_xor, bt_nI hi, bt_nI hi, bt_nI hi, b_m1 i hi, Nat.testBit_two_pow_sub_one]
    have := (tz_bits 16 (k' + 1) (by omega) h1 i).2
    rw [Nat.add_sub_cancel] at this
    rw [← this]
    cases (k' + 1).testBit i <;> rfl
  rw [e, nt_all _ (by omega)]
  exact h
theorem q_ntz0 {σ : wx_Z} {K : Int32 → wx_Z → Prop} (h : K 32 σ) : wpJ6_numberOfTrailingZeros_0f7a4 σ 0 K := by
  apply q_ntz
  rw [show ntF ((0 ^^^ (-1)) &&& (0 - 1)) = 32 by decide +kernel]
  exact h
theorem ch_bits {k : Nat} (h0 : 0 < k) (h1 : k < 2 ^ 16) {j : Nat} (hj : j < 32) : bt (nI k ^^^ (nI k - 1)) j = decide (j ≤ tz 16 k) := by
  obtain ⟨k', rfl⟩ : ∃ k', k = k' + 1 := ⟨k - 1, by omega⟩
  rw [nI_pred, b_xor, bt_nI hj, bt_nI hj]
  have := (tz_bits 16 (k' + 1) (by omega) h1 j).1
  rw [Nat.add_sub_cancel] at this
  exact this
/-! ===== the walk over all words of the code ===== -/
def bs (m : Nat) (l : List Nat) (j : Nat) : Int32 := wT m (l.getD j 0)
def gw (m : Nat) (l : List Nat) : Nat → Int32
  | 0 => 0
  | k + 1 => gw m l k ^^^ xw (bs m l) (tz 16 (k + 1) + 1)
def WK (σ : wx_Z) (m : Nat) (l : List Nat) : Prop := σ 56 1 = nI (2 ^ l.length) ∧ ∀ j, j < l.length → σ 57 j = xw (bs m l) (j + 1)
theorem q_prepare {σ : wx_Z} {g o m : Nat} {K : wx_Z → Prop} (hg : g < 10) (h : CO σ g o m) (hl : (tl o m).length ≤ 16) (hK : ∀ σ', fr [56, 57] σ σ' → WK σ' m (tl o m) → σ' 56 2 = 0 → K σ') : wpX7_prepare g σ K := by
  have nco : cCo g ∉ [56, 57] := by unfold cCo; simp; omega
  have nte : cTe g ∉ [56, 57] := by unfold cTe; simp; omega
  have L : ∀ (d i : Nat) (σ' : wx_Z), i + d = (tl o m).length → fr [56, 57] σ σ' → (∀ j, j < i → σ' 57 j = xw (bs m (tl o m)) (j + 1)) → wpX7_prepare_15 g K (d + 1) σ' (nI (tl o m).length) (xw (bs m (tl o m)) i) (nI i) := by
    intro d
    induction d with
    | zero =>
      intro i σ' hi hf h1
      have hi : i = (tl o m).length := by omega
      subst hi
      unfold wpX7_prepare_15
      refine ⟨fun _ σ1 e1 σ2 e2 => ?_, fun q => absurd (Int32.le_refl _) q⟩
      rw [sh1 _ (by omega)] at e1
      refine hK σ2 ?_ ⟨?_, fun j hj => ?_⟩ ?_
      · rw [e2, e1]; exact (hf.up (by simp)).up (by simp)
      · rw [e2, up_k (by decide), e1, up_s]
      · rw [e2, up_c (by decide), e1, up_c (by decide)]; exact h1 j hj
      · rw [e2, up_s]
    | succ d ih =>
      intro i σ' hi hf h1
      unfold wpX7_prepare_15
      refine ⟨fun q => ?_, fun _ => ?_⟩
      · rw [nI_leI (by omega) (by omega)] at q
        omega
      · apply q_wordOfTerm (h.same (fun k => by rw [hf _ nco]) (fun k => by rw [hf _ nte])) (by omega)
        intro t29 e29
        refine ⟨vi (by omega), fun σ1 e1 t38 e38 => ?_⟩
        rw [cln (by omega)] at e1
        rw [e29, e38, nI_1, e1, e29]
        refine ih (i + 1) _ (by omega) (hf.up (by simp)) ?_
        intro j hj
        by_cases q : j = i
        · subst q; rw [up_s]; rfl
        · rw [up_k q]; exact h1 j (by omega)
  intro t6 e6
  have e6' : t6 = nI (tl o m).length := by
    rw [e6, h.2.2.2.1, show (16 : Int32) = nI 16 from rfl, if_neg (nI_nlt hl (by omega))]
  rw [e6']
  exact ⟨(tl o m).length + 1, L (tl o m).length 0 σ (by omega) fr.rf (fun j hj => absurd hj (by omega))⟩
theorem WK.up {σ : wx_Z} {m : Nat} {l : List Nat} {k : Nat} {v : Int32} (h : WK σ m l) (hk : k ≠ 1) : WK (wx_up σ 56 k v) m l := ⟨by rw [up_k (fun z => hk z.symm)]; exact h.1, fun j hj => by rw [up_c (by decide)]; exact h.2 j hj⟩
theorem p2_16 {n : Nat} (h : n ≤ 16) : 2 ^ n ≤ 65536 := Nat.pow_le_pow_right (by decide) h
theorem q_stepTo {σ : wx_Z} {m k : Nat} {l : List Nat} {K : wx_Z → Prop} (hl : l.length ≤ 16) (h : WK σ m l) (hk : k + 1 < 2 ^ l.length) (h2 : σ 56 2 = gw m l k) (hK : K (wx_up σ 56 2 (gw m l (k + 1)))) : wpX7_stepTo σ (nI (k + 1)) K := by
  have hp := p2_16 hl
  have ht := tz_lt 16 (k + 1) l.length (by omega) hk hl
  unfold wpX7_stepTo
  apply q_ntzN (by omega) (by omega)
  refine ⟨fun q => ?_, fun _ => ⟨vi (by omega), fun σ1 e1 => ?_⟩⟩
  · rw [show (16 : Int32) = nI 16 from rfl, nI_leI (by omega) (by omega)] at q
    omega
  · rw [e1, cln (by omega), h.2 _ ht, h2]
    exact hK
theorem q_step0 {σ : wx_Z} {K : wx_Z → Prop} (hK : K σ) : wpX7_stepTo σ 0 K := by
  unfold wpX7_stepTo
  apply q_ntz0
  exact ⟨fun _ => hK, fun q => absurd (by decide) q⟩
/-! ===== the reference lays its basis ===== -/
def sBa (c k : Nat) : Bool := c == 4 || c == 5 || (c == 0 && (k == 5 || k == 12 || k == 13 || k == 14))
theorem cm_Ba {τ τ' : wx_Z} (h : md sBa τ τ') : cmM τ τ' := cmM.of h (fun c k q => by
  unfold coreM at q
  unfold sBa
  simp at q ⊢
  omega)
theorem md_MB {τ τ' : wx_Z} (h : md sMany τ τ') : md sBa τ τ' := h.mono (fun c k q => by
  unfold sBa at q
  unfold sMany
  simp at q ⊢
  omega)
theorem k_laysBasis {τ : wx_Z} {o m : Nat} {K : wx_Z → Prop} (ho : τ 1 0 = nI o) (hm : τ 1 1 = nI m) (hom : o ≤ m) (h5 : m ≤ 5) (hK : ∀ τ', md sBa τ τ' → (∀ j, j < (tl o m).length → τ' 5 j = bs m (tl o m) j) → K τ') : wpX9_laysBasis τ K := by
  obtain ⟨hlen, -, hmem⟩ := tl_fact m (by omega) o (by omega)
  have hp := p2_le h5
  unfold wpX9_laysBasis
  apply k_many ho hm hom h5
  intro τ1 d1 l1
  have d1 := md_MB d1
  have L : ∀ (d i : Nat) (τ' : wx_Z), i + d = (tl o m).length → md sBa τ τ' → (∀ j, j < (tl o m).length → τ' 4 j = nI ((tl o m).getD j 0)) → (∀ j, j < i → τ' 5 j = bs m (tl o m) j) → wpX9_laysBasis_7 K (d + 1) τ' (nI (tl o m).length) (nI i) := by
    intro d
    induction d with
    | zero =>
      intro i τ' hi hmd h4 h5
      have hi : i = (tl o m).length := by omega
      subst hi
      unfold wpX9_laysBasis_7
      exact ⟨fun _ => hK τ' hmd h5, fun q => absurd (Int32.le_refl _) q⟩
    | succ d ih =>
      intro i τ' hi hmd h4 h6
      unfold wpX9_laysBasis_7
      refine ⟨fun q => ?_, fun _ => ⟨vi (by omega), ?_⟩⟩
      · rw [nI_leI (by omega) (by omega)] at q
        omega
      · rw [cln (by omega), h4 i (by omega)]
        apply k_wordOf ((hmd 1 1 rfl).trans hm) h5 (Nat.lt_of_lt_of_le (hmem _ (getD_mem (by omega))).1 hp)
        refine ⟨vi (by omega), fun τ2 et2 t28 e28 => ?_⟩
        rw [e28, nI_1, et2]
        refine ih (i + 1) _ (by omega) (hmd.up rfl) ?_ ?_
        · intro j hj; rw [up_c (by decide)]; exact h4 j hj
        · intro j hj
          by_cases q : j = i
          · subst q; rw [up_s]; rfl
          · rw [up_k q]; exact h6 j (by omega)
  exact ⟨(tl o m).length + 1, L (tl o m).length 0 τ1 (by omega) d1 l1.2 (fun j hj => absurd hj (by omega))⟩

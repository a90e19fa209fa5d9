/-! ===== frames by rows ===== -/
def fr (L : List Nat) (σ σ' : wx_Z) : Prop := ∀ c, c ∉ L → σ' c = σ c
theorem fr.rf {L : List Nat} {σ : wx_Z} : fr L σ σ := fun _ _ => rfl
theorem fr.tr {L : List Nat} {σ σ1 σ2 : wx_Z} (h1 : fr L σ σ1) (h2 : fr L σ1 σ2) : fr L σ σ2 := fun c h => (h2 c h).trans (h1 c h)
theorem fr.mono {L M : List Nat} {σ σ1 : wx_Z} (h1 : fr L σ σ1) (h : ∀ c, c ∈ L → c ∈ M) : fr M σ σ1 := fun c q => h1 c (fun z => q (h c z))
theorem fr.up {L : List Nat} {σ σ1 : wx_Z} {c k : Nat} {v : Int32} (h0 : fr L σ σ1) (h : c ∈ L) : fr L σ (wx_up σ1 c k v) := fun c' q => by
  have hne : c' ≠ c := fun e => q (by rw [e]; exact h)
  rw [up_row hne]
  exact h0 c' q
theorem CO.fr {σ σ' : wx_Z} {g o m : Nat} {L : List Nat} (h : CO σ g o m) (hf : fr L σ σ') (h1 : cCo g ∉ L) (h2 : cTe g ∉ L) : CO σ' g o m :=
  h.same (fun k => by rw [hf _ h1]) (fun k => by rw [hf _ h2])
theorem co_45 (g : Nat) : cCo g ∉ [45] ∧ cTe g ∉ [45] ∧ cSo g ∉ [45] := by
  unfold cCo cTe cSo
  simp
  omega
/-! ===== odd, parts ===== -/
theorem q_isOdd {σ : wx_Z} {x : Int32} {K : Int32 → wx_Z → Prop} (hK : K (b2i (xs (bt x) 32)) σ) : wpX8_isOdd σ x K := by
  unfold wpX8_isOdd
  apply k_bitCount
  have e : nI (pc x) &&& 1 = nI (pc x % 2) := fa_mask (pc x) 1
  rw [xs_ct] at hK
  have h1 : (1 : Int32) = nI 1 := rfl
  rw [e, h1, nI_eq (by omega) (by omega)]
  refine ⟨fun q => ?_, fun q => ?_⟩
  · rw [decide_eq_false (show ¬ fb_ct (bt x) 32 % 2 = 1 from q)] at hK
    exact hK
  · rw [decide_eq_true (show fb_ct (bt x) 32 % 2 = 1 from q)] at hK
    exact hK
def pt : Nat → Nat → Int32
  | 0, _ => 1
  | k + 1, t => if t.testBit k then pt k t ||| (pt k t <<< (nI (2 ^ k) &&& 31)) else pt k t
theorem q_partsOf {σ : wx_Z} {t : Nat} {K : Int32 → wx_Z → Prop} (hK : K (pt 5 t) σ) : wpX8_partsOf σ (nI t) K := by
  have L : ∀ (d k : Nat), k + d = 5 → wpX8_partsOf_4 K (d + 1) σ (nI t) (pt k t) (nI k) := by
    intro d
    induction d with
    | zero =>
      intro k hk
      have hk : k = 5 := by omega
      subst hk
      unfold wpX8_partsOf_4
      exact ⟨fun _ => hK, fun q => absurd (by decide) q⟩
    | succ d ih =>
      intro k hk
      unfold wpX8_partsOf_4
      have h5 : (5 : Int32) = nI 5 := rfl
      rw [h5]
      have := ih (k + 1) (by omega)
      rw [pt] at this
      refine ⟨fun q => ?_, fun _ => ?_⟩
      · rw [nI_leI (by omega) (by omega)] at q
        omega
      · rw [bit_u _ (by omega), bt_nI (by omega), b2i_1]
        refine ⟨fun q t26 e26 => ?_, fun q t25 e25 t26 e26 => ?_⟩
        · rw [e26, nI_1]
          rw [if_neg q] at this
          exact this
        · rw [e25, e26, nI_1, sh1 k (by omega)]
          rw [if_pos q] at this
          exact this
  exact ⟨6, L 5 0 (by omega)⟩
theorem pt_mask : ∀ t, t < 32 → ∀ b, b < 32 → b &&& t = 0 → ∀ i, i < 32 → bt (pt 5 t <<< (nI b &&& 31)) i = ((i &&& (31 ^^^ t)) == b) := by decide +kernel
theorem sp_32 {m t b : Nat} {w : Int32} (h5 : m ≤ 5) (hw : wi w (2 ^ m)) (ht : t < 32) (hb : b < 32) (hbt : b &&& t = 0) : xs (bt (w &&& (pt 5 t <<< (nI b &&& 31)))) 32 = sp m w t b := by
  have hp := p2_le h5
  unfold sp
  obtain ⟨d, hd⟩ : ∃ d, 32 = 2 ^ m + d := ⟨32 - 2 ^ m, by omega⟩
  have h1 : ∀ k, k < 32 → bt (w &&& (pt 5 t <<< (nI b &&& 31))) k = (((k &&& (31 ^^^ t)) == b) && bt w k && decide (k < 2 ^ m)) := by
    intro k hk
    rw [b_and, pt_mask t ht b hb hbt k hk]
    rcases Nat.lt_or_ge k (2 ^ m) with q | q
    · simp [q, Bool.and_comm]
    · simp [hw k q hk]
  rw [xs_cong h1, hd, xs_more d (fun k hk => by simp [show ¬ k < 2 ^ m by omega])]
  exact xs_cong (fun k hk => by simp [hk])
/-! ===== how far a vote can be ===== -/
theorem ldf_3 (m : Nat) (w : Int32) (t b : Nat) : (ldf m w t b).toInt = 1 ∨ (ldf m w t b).toInt = -1 ∨ (ldf m w t b).toInt = 0 := by
  unfold ldf
  by_cases h : b &&& t = 0
  · rw [if_pos h]
    cases sp m w t b
    · exact Or.inr (Or.inl rfl)
    · exact Or.inl rfl
  · rw [if_neg h]; exact Or.inr (Or.inr rfl)
theorem sI_bd {f : Nat → Int32} {B : Int} (hB : 0 ≤ B) (hB2 : B ≤ 1000) (hf : ∀ k, -B ≤ (f k).toInt ∧ (f k).toInt ≤ B) : ∀ n : Nat, n ≤ 1000000 → -(B * n) ≤ (sI f n).toInt ∧ (sI f n).toInt ≤ B * n
  | 0, _ => by
    have e : (sI f 0).toInt = 0 := rfl
    rw [e]; simp
  | n + 1, h => by
    have ih := sI_bd hB hB2 hf n (by omega)
    have h1 := hf n
    have hbn : B * n ≤ 1000 * 1000000 := Int.mul_le_mul hB2 (by omega) (by omega) (by omega)
    rw [sI, fb_addI (by omega) (by omega)]
    have e : B * ((n + 1 : Nat) : Int) = B * n + B := by rw [Int.natCast_add, Int.mul_add]; simp
    rw [e]
    omega
theorem ab_int {x : Int32} (h : -1000000000 ≤ x.toInt) : (ab x).toInt = if 0 ≤ x.toInt then x.toInt else -x.toInt := by
  unfold ab
  by_cases q : 0 ≤ x
  · rw [if_pos q]
    rw [Int32.le_iff_toInt_le] at q
    have q : 0 ≤ x.toInt := q
    rw [if_pos q]
  · rw [if_neg q]
    rw [Int32.le_iff_toInt_le] at q
    have q : ¬ 0 ≤ x.toInt := q
    rw [if_neg q, fb_negI (by omega)]
theorem ab_lead {m t : Nat} {w : Int32} (h5 : m ≤ 5) : ¬ (33 : Int32) ≤ ab (lead m w t) := by
  have hp := p2_le h5
  have h := sI_bd (f := ldf m w t) (B := 1) (by omega) (by omega) (fun k => by rcases ldf_3 m w t k with e | e | e <;> rw [e] <;> omega) (2 ^ m) (by omega)
  have hq : ((2 ^ m : Nat) : Int) ≤ 32 := by omega
  rw [Int32.le_iff_toInt_le, ab_int (by unfold lead; omega), show (33 : Int32).toInt = 33 from rfl]
  unfold lead
  split <;> omega
/-! ===== a term's vote in the class ===== -/
theorem zsub (x : Int32) : 0 - x = -x := by rw [Int32.zero_sub]
theorem q_isCarried {σ : wx_Z} {g o m t : Nat} {rest : Int32} {K : Int32 → wx_Z → Prop} (h : CO σ g o m) (hw : wi rest (2 ^ m)) (ht : t < 32)
    (hK : ∀ σ', fr [45] σ σ' → σ' 45 0 = σ 45 0 → σ' 45 1 = σ 45 1 → σ' 45 2 = σ 45 2 + (if lead m rest t = 0 then (1 : Int32) else 0) → σ' 45 3 = (if ¬ σ 45 4 ≤ ab (lead m rest t) then nI t else σ 45 3) → σ' 45 4 = (if ¬ σ 45 4 ≤ ab (lead m rest t) then ab (lead m rest t) else σ 45 4) → K (if lead m rest t ≤ 0 then 0 else 1) σ') : wpX0_isCarried g σ rest (nI t) K := by
  have h5 := h.2.2.2.2.2.2
  have hp := p2_le h5
  unfold wpX0_isCarried
  apply q_partsOf
  have h98 : ∀ σ' : wx_Z, K (if lead m rest t ≤ 0 then 0 else 1) σ' → wpX0_isCarried_98 g K σ' (lead m rest t) := by
    intro σ' hk
    refine ⟨fun q => ?_, fun q => ?_⟩
    · rw [if_pos q] at hk; exact hk
    · rw [if_neg q] at hk; exact hk
  have h72 : ∀ σ' : wx_Z, fr [45] σ σ' → σ' 45 0 = σ 45 0 → σ' 45 1 = σ 45 1 → σ' 45 2 = σ 45 2 + (if lead m rest t = 0 then (1 : Int32) else 0) → σ' 45 3 = σ 45 3 → σ' 45 4 = σ 45 4 → wpX0_isCarried_72 g K σ' (nI t) (lead m rest t) := by
    intro σ' f0 f1 f2 f3 f4 f5
    unfold wpX0_isCarried_72
    intro t74 e74
    have e74 : t74 = ab (lead m rest t) := by rw [e74, zsub]; rfl
    rw [e74, f5]
    refine ⟨fun q => ?_, fun q t87 e87 σ90 e90 σ95 e95 => ?_⟩
    · refine h98 σ' (hK σ' f0 f1 f2 f3 ?_ ?_)
      · rw [if_neg (fun z => z q)]; exact f4
      · rw [if_neg (fun z => z q)]; exact f5
    · have e87 : t87 = ab (lead m rest t) := by rw [e87, zsub]; rfl
      refine h98 σ95 (hK σ95 ?_ ?_ ?_ ?_ ?_ ?_)
      · rw [e95, e90]; exact (f0.up (by decide)).up (by decide)
      · rw [e95, e90, up_k (by decide), up_k (by decide)]; exact f1
      · rw [e95, e90, up_k (by decide), up_k (by decide)]; exact f2
      · rw [e95, e90, up_k (by decide), up_k (by decide)]; exact f3
      · rw [e95, up_s, if_pos q]
      · rw [e95, e90, up_k (by decide), up_s, if_pos q, e87]
  have L : ∀ (d b : Nat), b + d = 2 ^ m → wpX0_isCarried_12 g K (d + 1) σ rest (nI t) (pt 5 t) (sI (ldf m rest t) b) (nI b) := by
    intro d
    induction d with
    | zero =>
      intro b hb
      have hb : b = 2 ^ m := by omega
      subst hb
      unfold wpX0_isCarried_12
      rw [h.2.2.1]
      refine ⟨fun _ => ⟨fun q => ?_, fun q σ69 e69 => ?_⟩, fun q => absurd (Int32.le_refl _) q⟩
      · refine h72 σ fr.rf rfl rfl ?_ rfl rfl
        rw [if_neg (show ¬ lead m rest t = 0 from q), Int32.add_zero]
      · refine h72 σ69 ?_ ?_ ?_ ?_ ?_ ?_
        · rw [e69]; exact fr.rf.up (by decide)
        · rw [e69, up_k (by decide)]
        · rw [e69, up_k (by decide)]
        · rw [e69, up_s, if_pos (show lead m rest t = 0 from q)]
        · rw [e69, up_k (by decide)]
        · rw [e69, up_k (by decide)]
    | succ d ih =>
      intro b hb
      unfold wpX0_isCarried_12
      rw [h.2.2.1]
      refine ⟨fun q => ?_, fun _ => ?_⟩
      · rw [nI_leI (by omega) (by omega)] at q
        omega
      · have hlt : b &&& t < 2 ^ 31 := and_lt (by omega)
        have := ih (b + 1) (by omega)
        rw [sI] at this
        rw [fa_and, show (0 : Int32) = nI 0 from rfl, nI_eq hlt (by omega)]
        refine ⟨fun q t51 e51 => ?_, fun q => ?_⟩
        · rw [e51, nI_1]
          rw [show ldf m rest t b = 0 from if_neg q, Int32.add_zero] at this
          exact this
        · apply q_isOdd
          rw [sp_32 h5 hw ht (by omega) q]
          rw [show ldf m rest t b = _ from if_pos q] at this
          refine ⟨fun q2 t49 e49 t51 e51 => ?_, fun q2 t49 e49 t51 e51 => ?_⟩
          · rw [show (nI 0 : Int32) = 0 from rfl, b2i_0] at q2
            rw [e49, e51, nI_1]
            rw [q2] at this
            exact this
          · rw [show (nI 0 : Int32) = 0 from rfl, b2i_0] at q2
            rw [e49, e51, nI_1]
            rw [if_pos (by simpa using q2)] at this
            exact this
  exact ⟨2 ^ m + 1, L (2 ^ m) 0 (by omega)⟩

/-! ===== the class's code: sums over parts, done length times ===== -/
def smk (k : Nat) (x : Int32) : Int32 := x ^^^ ((x &&& wC_P k) <<< (nI (2 ^ k) &&& 31))
def sm : Nat → Int32 → Int32
  | 0, x => x
  | k + 1, x => smk k (sm k x)
theorem shl_xor (x y : Int32) {n : Nat} (hn : n < 32) : (x ^^^ y) <<< (nI n &&& 31) = (x <<< (nI n &&& 31)) ^^^ (y <<< (nI n &&& 31)) := by
  apply b_ext
  intro i hi
  rw [b_xor, b_shl n hn _ hi, b_shl n hn _ hi, b_shl n hn _ hi, b_xor]
  cases decide (n ≤ i) <;> simp
theorem and_xor (x y z : Int32) : (x ^^^ y) &&& z = (x &&& z) ^^^ (y &&& z) := by
  apply b_ext
  intro i hi
  simp only [b_xor, b_and]
  cases bt x i <;> cases bt y i <;> cases bt z i <;> rfl
theorem xor4 (a b c d : Int32) : (a ^^^ b) ^^^ (c ^^^ d) = (a ^^^ c) ^^^ (b ^^^ d) := by
  apply b_ext
  intro i hi
  simp only [b_xor]
  cases bt a i <;> cases bt b i <;> cases bt c i <;> cases bt d i <;> rfl
theorem smk_xor {k : Nat} (hk : k < 5) (x y : Int32) : smk k (x ^^^ y) = smk k x ^^^ smk k y := by
  have h : 2 ^ k < 32 := (by decide +kernel : ∀ k, k < 5 → 2 ^ k < 32) k hk
  unfold smk
  rw [and_xor, shl_xor _ _ h, xor4]
theorem sm_xor : ∀ {m : Nat}, m ≤ 5 → ∀ x y : Int32, sm m (x ^^^ y) = sm m x ^^^ sm m y
  | 0, _, _, _ => rfl
  | m + 1, h, x, y => by rw [sm, sm, sm, sm_xor (by omega), smk_xor (by omega)]
theorem sm_0 : ∀ m, m < 6 → sm m 0 = 0 := by decide +kernel
theorem sm_xw {m : Nat} (h : m ≤ 5) (f : Nat → Int32) : ∀ n, sm m (xw f n) = xw (fun k => sm m (f k)) n
  | 0 => sm_0 m (by omega)
  | n + 1 => by rw [xw, xw, sm_xor h, sm_xw h f n]
theorem sm_one : ∀ m, m < 6 → ∀ t, t < 2 ^ m → sm m (1 <<< (nI t &&& 31)) = wT m t := by decide +kernel
/-- a word out of its bits -/
theorem xw_bits (x : Int32) : xw (fun t => if bt x t then 1 <<< (nI t &&& 31) else 0) 32 = x := by
  apply b_ext
  intro i hi
  rw [bt_xw]
  have e : ∀ k, k < 32 → bt (if bt x k then 1 <<< (nI k &&& 31) else 0) i = (bt x k && decide (i = k)) := by
    intro k hk
    cases h : bt x k
    · simp [b_0]
    · rw [if_pos rfl, bt_sh1 hk hi]; simp
  rw [xs_cong e]
  have : ∀ n, n ≤ 32 → xs (fun k => bt x k && decide (i = k)) n = (decide (i < n) && bt x i) := by
    intro n
    induction n with
    | zero => intro _; simp [xs]
    | succ n ih =>
      intro hn
      rw [xs, ih (by omega)]
      by_cases h : i < n
      · simp [h, show i < n + 1 by omega, show ¬ i = n by omega]
      · by_cases e : i = n
        · subst e; simp
        · simp [h, e, show ¬ i < n + 1 by omega]
  rw [this 32 (by omega)]
  simp [hi]
theorem bt_wT {m t i : Nat} (h5 : m ≤ 5) (hi : i < 32) : bt (wT m t) i = (decide (i < 2 ^ m) && ((i &&& t) == t)) := bt_wd _ (p2_le h5) hi
theorem wi_wT {m t : Nat} (h5 : m ≤ 5) : wi (wT m t) (2 ^ m) := wi_wd (p2_le h5)
/-- the bit of a term: the sum over its parts -/
theorem bt_sm {m t : Nat} {x : Int32} (h5 : m ≤ 5) (ht : t < 2 ^ m) (hx : wi x (2 ^ m)) : bt (sm m x) t = xs (fun i => ((i &&& t) == i) && bt x i) (2 ^ m) := by
  have hp := p2_le h5
  have h1 : sm m x = xw (fun i => if bt x i then wT m i else 0) 32 := by
    have := sm_xw h5 (fun t => if bt x t then 1 <<< (nI t &&& 31) else 0) 32
    rw [xw_bits] at this
    rw [this]
    apply xw_cong
    intro k hk
    cases hb : bt x k
    · simp only [Bool.false_eq_true, if_false]; exact sm_0 m (by omega)
    · simp only [if_true]
      refine sm_one m (by omega) k ?_
      rcases Nat.lt_or_ge k (2 ^ m) with q | q
      · exact q
      · rw [hx k q hk] at hb; cases hb
  rw [h1, bt_xw]
  obtain ⟨d, hd⟩ : ∃ d, 32 = 2 ^ m + d := ⟨32 - 2 ^ m, by omega⟩
  have h2 : ∀ k, k < 32 → bt (if bt x k then wT m k else 0) t = (((k &&& t) == k) && bt x k && decide (k < 2 ^ m)) := by
    intro k hk
    cases hb : bt x k
    · simp [b_0]
    · rw [if_pos rfl, bt_wT h5 (by omega)]
      rcases Nat.lt_or_ge k (2 ^ m) with q | q
      · simp [ht, q, Nat.and_comm]
      · rw [hx k q hk] at hb; cases hb
  rw [xs_cong h2, hd, xs_more d (fun k hk => by simp [show ¬ k < 2 ^ m by omega])]
  exact xs_cong (fun k hk => by simp [hk])
/-! ===== the class's code in the world ===== -/
def CO (σ : wx_Z) (g o m : Nat) : Prop := σ (cCo g) 0 = nI o ∧ σ (cCo g) 1 = nI m ∧ σ (cCo g) 2 = nI (2 ^ m) ∧ σ (cCo g) 3 = nI (tl o m).length ∧ (∀ j, j < (tl o m).length → σ (cTe g) j = nI ((tl o m).getD j 0)) ∧ o ≤ m ∧ m ≤ 5
section KC
variable {σ : wx_Z} {g o m : Nat} {K : Int32 → wx_Z → Prop}
theorem CO.same {σ' : wx_Z} (h : CO σ g o m) (h1 : ∀ k, σ' (cCo g) k = σ (cCo g) k) (h2 : ∀ k, σ' (cTe g) k = σ (cTe g) k) : CO σ' g o m :=
  ⟨(h1 0).trans h.1, (h1 1).trans h.2.1, (h1 2).trans h.2.2.1, (h1 3).trans h.2.2.2.1, fun j hj => (h2 j).trans (h.2.2.2.2.1 j hj), h.2.2.2.2.2⟩
theorem tl_len (h : CO σ g o m) : (tl o m).length ≤ 32 ∧ 0 < (tl o m).length ∧ ∀ t ∈ tl o m, t < 2 ^ m ∧ t < 32 := by
  obtain ⟨-, -, -, -, -, h6, h7⟩ := h
  obtain ⟨a, b, c⟩ := tl_fact m (by omega) o (by omega)
  exact ⟨a, b, fun t ht => ⟨(c t ht).1, Nat.lt_of_lt_of_le (c t ht).1 (p2_le h7)⟩⟩
theorem q_summed {x : Int32} (h : CO σ g o m) (hK : K (sm m x) σ) : wpX1_summed g σ x K := by
  obtain ⟨-, h1, -, -, -, -, h5⟩ := h
  have L : ∀ (d k : Nat), k + d = m → wpX1_summed_4 g K (d + 1) σ (sm k x) (nI k) := by
    intro d
    induction d with
    | zero =>
      intro k hk
      have hk : k = m := by omega
      subst hk
      unfold wpX1_summed_4
      rw [h1]
      exact ⟨fun _ => hK, fun q => absurd (Int32.le_refl _) q⟩
    | succ d ih =>
      intro k hk
      unfold wpX1_summed_4
      rw [h1]
      refine ⟨fun q => ?_, fun _ => ⟨vi (by omega), fun t25 e25 t26 e26 => ?_⟩⟩
      · rw [nI_leI (by omega) (by omega)] at q
        omega
      · rw [e25, e26, nI_1, cln (by omega), sh1 k (by omega)]
        exact ih (k + 1) (by omega)
  exact ⟨m + 1, L m 0 (by omega)⟩
theorem q_wordOfTerm {j : Nat} (h : CO σ g o m) (hj : j < (tl o m).length) (hK : K (wT m ((tl o m).getD j 0)) σ) : wpX1_wordOfTerm g σ (nI j) K := by
  obtain ⟨h1, -, h3⟩ := tl_len h
  have ht := h3 _ (getD_mem hj)
  refine ⟨vi (by omega), ?_⟩
  rw [cln (by omega), h.2.2.2.2.1 j hj]
  apply q_summed h
  rw [sm_one m (by have := h.2.2.2.2.2.2; omega) _ ht.1]
  exact hK
end KC

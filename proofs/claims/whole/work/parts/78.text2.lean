/-! ===== the reference reads numbers ===== -/
def sR2 (c k : Nat) : Bool := c == 0 && (k == 22 || k == 23)
theorem md_R2 {τ τ' : wx_Z} (h : md sR2 τ τ') : md sR τ τ' := h.mono (fun c k q => by
  unfold sR at q
  unfold sR2
  simp at q ⊢
  omega)
theorem md_222 {τ τ' : wx_Z} (h : md (fun c k => c == 0 && k == 22) τ τ') : md sR2 τ τ' := h.mono (fun c k q => by
  unfold sR2 at q
  simp at q ⊢
  omega)
theorem lit48 : ((48 : Int64) = (48 : Int32).toInt64) ∧ ((57 : Int64) = (57 : Int32).toInt64) ∧ ((97 : Int64) = (97 : Int32).toInt64) ∧ ((102 : Int64) = (102 : Int32).toInt64) ∧ ((1 : Int64) = (1 : Int32).toInt64) ∧ ((2 : Int64) = (2 : Int32).toInt64) ∧ ((8 : Int64) = (8 : Int32).toInt64) := ⟨rfl, rfl, rfl, rfl, rfl, rfl, rfl⟩
theorem dig_iff {c : Int32} : dig c = true ↔ (48 ≤ c ∧ c ≤ 57) := by
  unfold dig
  rw [decide_eq_true_iff, Int32.not_lt, Int32.not_lt]
theorem k_isFigure {τ : wx_Z} {t : Nat → Int32} {n i p : Nat} {K : Int32 → wx_Z → Prop} (h : TM τ t n p) (hi : i ≤ n) (h0 : n ≤ i → K 0 τ) (h1 : i < n → dig (t i) = false → K 0 τ) (h2 : i < n → dig (t i) = true → K 1 τ) : wpX9_isFigure τ (nI i) K := by
  have hn := h.2.2.2.1
  unfold wpX9_isFigure
  rw [h.2.1, nI_leI (by omega) (by omega)]
  refine ⟨fun q => h0 q, fun q => ?_⟩
  rw [cln (by omega), h.1 i (by omega), lit48.1, lit48.2.1]
  refine ⟨vi (by omega), ?_⟩
  apply k_inI
  · intro a b
    exact ⟨fun z => absurd z (by decide), fun _ => h2 (by omega) (dig_iff.mpr ⟨a, b⟩)⟩
  · intro a
    refine ⟨fun _ => h1 (by omega) ?_, fun z => absurd rfl z⟩
    cases hd : dig (t i)
    · rfl
    · exact absurd (dig_iff.mp hd) a
theorem k_takes {τ : wx_Z} {t : Nat → Int32} {n p : Nat} {lo hi : Int32} {K : Int32 → wx_Z → Prop} (h : TM τ t n p) (h1 : nOK t n (sb t n p) lo hi → ∀ τ', md sR2 τ τ' → TM τ' t n (nE t n (sb t n p) lo) → τ' 0 23 = nv t n (sb t n p) lo → K 1 τ') (h0 : ¬ nOK t n (sb t n p) lo hi → ∀ τ', md sR2 τ τ' → TM τ' t n (sb t n p) → K 0 τ') : wpX9_takes τ lo hi K := by
  have hb := sb_le (t := t) h.2.2.2.2
  have hn := h.2.2.2.1
  unfold wpX9_takes
  apply k_here h
  intro τ1 m1 T1
  have m1 := md_222 m1
  generalize hs : sb t n p = s at *
  have hd := d0_le (t := t) (lo := lo) hb.2
  obtain ⟨c1, c2, c3⟩ := dcf_sp t (n - d0 t n s lo) (d0 t n s lo)
  have ec : dcf t (n - d0 t n s lo) (d0 t n s lo) = dc t n (d0 t n s lo) := rfl
  rw [ec] at c1 c2 c3
  have bad : ¬ nOK t n s lo hi → ∀ τ2 x4, md sR2 τ τ2 → TM τ2 t n s → wpX9_takes_136 K τ2 x4 0 := by
    intro q τ2 x4 m2 T2
    refine ⟨fun _ τ3 e3 => ⟨rfl, h0 q τ3 ?_ ?_⟩, fun z => absurd rfl z⟩
    · rw [e3]; exact m2.up rfl
    · rw [e3, T2.2.2.1]; exact T2.next T2.2.2.2.2
  have f97 : ∀ k, k ≤ 3 → k ≤ dc t n (d0 t n s lo) → (k < dc t n (d0 t n s lo) → k = 3) → wpX9_takes_84 K τ1 lo hi (b2i (ng t n s lo)) (nI (d0 t n s lo + k)) (nI (d0 t n s lo)) (dv t (d0 t n s lo) k) := by
    intro k hk3 hkc hkd
    have g97 : ∀ v, (k = dc t n (d0 t n s lo) → v = nv t n s lo) → wpX9_takes_97 K τ1 lo hi (nI (d0 t n s lo + k)) (nI (d0 t n s lo)) v := by
      intro v hv τ2 e2
      have T2 : TM τ2 t n s := by
        obtain ⟨a, b, c, e, g⟩ := T1
        rw [e2]
        exact ⟨fun i hi => by rw [up_c (by decide)]; exact a i hi, by rw [up_k (by decide)]; exact b, by rw [up_k (by decide)]; exact c, e, g⟩
      have m2 : md sR2 τ τ2 := by rw [e2]; exact m1.up rfl
      rw [pk_sub (by omega), Nat.add_sub_cancel_left, lit48.2.2.2.2.1, lit48.2.2.2.2.2.1]
      have e23 : τ2 0 23 = v := by rw [e2, up_s]
      apply k_inI
      · intro a b
        rw [show (1 : Int32) = nI 1 from rfl, nI_leI (by omega) (by omega)] at a
        rw [show (2 : Int32) = nI 2 from rfl, nI_leI (by omega) (by omega)] at b
        have ek : k = dc t n (d0 t n s lo) := by omega
        have hv := hv ek
        refine ⟨fun z => absurd z (by decide), fun _ => ?_⟩
        rw [e23, hv]
        apply k_inI
        · intro a2 b2
          refine ⟨fun z => absurd z (by decide), fun _ => ⟨fun z => absurd z (by decide), fun _ τ3 e3 => ⟨rfl, h1 ⟨⟨by omega, by omega⟩, a2, b2⟩ τ3 ?_ ?_ ?_⟩⟩⟩
          · rw [e3]; exact m2.up rfl
          · rw [e3, ek]; exact T2.next (by omega)
          · rw [e3, up_k (by decide), e23, hv]
        · intro z
          exact ⟨fun _ => bad (fun q => z q.2) τ2 _ m2 T2, fun z => absurd rfl z⟩
      · intro z
        refine ⟨fun _ => bad (fun q => z ?_) τ2 _ m2 T2, fun z => absurd rfl z⟩
        rw [show (1 : Int32) = nI 1 from rfl, nI_leI (by omega) (by omega), show (2 : Int32) = nI 2 from rfl, nI_leI (by omega) (by omega)]
        have := q.1
        omega
    unfold wpX9_takes_84
    rw [b2i_0]
    refine ⟨fun q => g97 _ (fun ek => ?_), fun q => g97 _ (fun ek => ?_)⟩
    · unfold nv; rw [q, if_neg (by decide), ek]
    · have hg : ng t n s lo = true := by
        cases hg : ng t n s lo
        · exact absurd hg q
        · rfl
      unfold nv; rw [hg, if_pos rfl, ek]
  have L : ∀ (e k : Nat), k + e = min (dc t n (d0 t n s lo)) 3 → wpX9_takes_42 K (e + 1) τ1 lo hi (b2i (ng t n s lo)) (nI (d0 t n s lo + k)) (nI (d0 t n s lo)) (dv t (d0 t n s lo) k) := by
    intro e
    induction e with
    | zero =>
      intro k hk
      have fin := f97 k (by omega) (by omega) (by omega)
      unfold wpX9_takes_42
      apply k_isFigure T1 (by omega)
      · intro _; exact ⟨fun _ => fin, fun z => absurd rfl z⟩
      · intro _ _; exact ⟨fun _ => fin, fun z => absurd rfl z⟩
      · intro hi2 hd2
        refine ⟨fun z => absurd z (by decide), fun _ => ?_⟩
        rw [pk_sub (by omega), Nat.add_sub_cancel_left, show (3 : Int32) = nI 3 from rfl, nI_leI (by omega) (by omega)]
        refine ⟨fun _ => fin, fun z => ?_⟩
        have hk2 : k = dc t n (d0 t n s lo) := by omega
        have := c3 (by omega)
        rw [← hk2, hd2] at this
        cases this
    | succ e ih =>
      intro k hk
      have hdg := c2 k (by omega)
      unfold wpX9_takes_42
      apply k_isFigure T1 (by omega) (fun z => absurd z (by omega)) (fun _ z => absurd (z.symm.trans hdg) (by decide))
      intro hi2 _
      refine ⟨fun z => absurd z (by decide), fun _ => ?_⟩
      rw [pk_sub (by omega), Nat.add_sub_cancel_left, show (3 : Int32) = nI 3 from rfl, nI_leI (by omega) (by omega), cln (by omega), T1.1 _ hi2]
      refine ⟨fun z => absurd z (by omega), fun _ => ⟨vi (by omega), fun t76 e76 t78 e78 => ?_⟩⟩
      rw [e76, e78, nI_1]
      exact ih (k + 1) (by omega)
  have f18 : wpX9_takes_18 K τ1 lo hi (b2i (ng t n s lo)) := by
    have f32 : wpX9_takes_32 K τ1 lo hi (b2i (ng t n s lo)) (τ1 0 22) (b2i (ng t n s lo)) := by
      intro t33 e33
      have e33 : t33 = nI (d0 t n s lo) := by
        rw [e33, T1.2.2.1]
        unfold d0
        cases ng t n s lo
        · exact Int32.add_zero _
        · exact nI_1 s
      rw [e33]
      have := L (min (dc t n (d0 t n s lo)) 3) 0 (by omega)
      exact ⟨_, this⟩
    unfold wpX9_takes_18
    rw [b2i_0]
    refine ⟨fun q => ?_, fun q => ?_⟩
    · rw [q] at f32 ⊢; exact f32
    · have hg : ng t n s lo = true := by
        cases hg : ng t n s lo
        · exact absurd hg q
        · rfl
      rw [hg] at f32 ⊢; exact f32
  have fF : ¬ (¬ 0 ≤ lo ∧ s < n ∧ t s = 45) → wpX9_takes_18 K τ1 lo hi 0 := by
    intro q
    have e : ng t n s lo = false := decide_eq_false q
    rw [e] at f18
    exact f18
  refine ⟨fun q => fF (fun z => q ?_), fun q => ⟨fun q2 => fF (fun z => z.1 q2), fun q2 => ?_⟩⟩
  · rw [if_pos z.2.1]; exact z.2.2
  · have hsn : s < n := by
      apply Decidable.byContradiction
      intro z
      rw [if_neg z] at q
      exact absurd q (by decide)
    rw [if_pos hsn] at q
    have e : ng t n s lo = true := decide_eq_true ⟨q2, hsn, q⟩
    rw [e] at f18
    exact f18
/-! ===== hex ===== -/
def hx (c : Int32) : Int32 := if ¬ c < 48 ∧ ¬ 57 < c then c - 48 else if ¬ c < 97 ∧ ¬ 102 < c then c - 97 + 10 else -1
theorem q_hexValue {σ : wx_Z} {c : Int32} {K : Int32 → wx_Z → Prop} (hK : K (hx c) σ) : wpX6_hexValue σ c K := by
  unfold hx at hK
  have f17 : ¬ (¬ c < 48 ∧ ¬ 57 < c) → wpX6_hexValue_17 K σ c := by
    intro q
    rw [if_neg q] at hK
    refine ⟨fun q2 => ?_, fun q2 => ⟨fun q3 => ?_, fun q3 => ?_⟩⟩
    · rw [if_neg (fun z => z.1 q2)] at hK; exact hK
    · rw [if_neg (fun z => z.2 q3)] at hK; exact hK
    · rw [if_pos ⟨q2, q3⟩] at hK; exact hK
  refine ⟨fun q => f17 (fun z => z.1 q), fun q => ⟨fun q2 => f17 (fun z => z.2 q2), fun q2 => ?_⟩⟩
  rw [if_pos ⟨q, q2⟩] at hK; exact hK
theorem k_hex18 {τ : wx_Z} {c : Int32} {K : Int32 → wx_Z → Prop} (hK : K (hx c) τ) : wpX9_hexAt_18 K τ c := by
  unfold hx at hK
  unfold wpX9_hexAt_18
  rw [lit48.1, lit48.2.1, lit48.2.2.1, lit48.2.2.2.1]
  apply k_inI
  · intro a b
    rw [if_pos ⟨Int32.not_lt.mpr a, Int32.not_lt.mpr b⟩] at hK
    exact ⟨fun z => absurd z (by decide), fun _ => hK⟩
  · intro a
    rw [if_neg (fun z => a ⟨Int32.not_lt.mp z.1, Int32.not_lt.mp z.2⟩)] at hK
    refine ⟨fun _ => ?_, fun z => absurd rfl z⟩
    apply k_inI
    · intro a2 b2
      rw [if_pos ⟨Int32.not_lt.mpr a2, Int32.not_lt.mpr b2⟩] at hK
      exact ⟨fun z => absurd z (by decide), fun _ => hK⟩
    · intro a2
      rw [if_neg (fun z => a2 ⟨Int32.not_lt.mp z.1, Int32.not_lt.mp z.2⟩)] at hK
      exact ⟨fun _ => hK, fun z => absurd rfl z⟩
theorem byte_nI {c : Int32} (h : 0 ≤ c.toInt ∧ c.toInt ≤ 127) : ∃ k : Nat, k < 128 ∧ c = nI k := by
  refine ⟨c.toInt.toNat, by omega, ?_⟩
  apply Int32.toInt_inj.mp
  rw [nI_toInt (by omega)]
  omega
theorem hx_all : ∀ k, k < 128 → (hx (nI k) = -1 ∨ ∃ j : Fin 16, hx (nI k) = nI j.1) := by decide +kernel
def hxd (c : Int32) : Bool := decide (¬ hx c < 0)
theorem hx_sp {c : Int32} (h : 0 ≤ c.toInt ∧ c.toInt ≤ 127) : (hxd c = false ∧ hx c = -1 ∧ hx c < 0) ∨ (hxd c = true ∧ ¬ hx c < 0 ∧ ¬ hx c = -1 ∧ ∃ j, j < 16 ∧ hx c = nI j) := by
  obtain ⟨k, hk, rfl⟩ := byte_nI h
  unfold hxd
  rcases hx_all k hk with e | ⟨j, e⟩
  · rw [e]; exact Or.inl ⟨by decide, rfl, by decide⟩
  · rw [e]
    have h1 : ¬ nI j.1 < 0 := nI_pos (by omega)
    refine Or.inr ⟨decide_eq_true h1, h1, fun z => ?_, j.1, j.2, rfl⟩
    rw [z] at h1
    exact h1 (by decide)
theorem sh_or {x : Int32} {j : Nat} (hj : j < 16) : (x <<< ((4 : Int32) &&& 31)) ||| nI j = 16 * x + nI j := by
  have e1 : x <<< ((4 : Int32) &&& 31) = nI (2 ^ 4 * uI x) := by
    apply b_ext
    intro i hi
    have := b_shl 4 (by decide) x hi
    rw [show nI 4 = (4 : Int32) from rfl] at this
    rw [this, bt_nI hi, Nat.testBit_two_pow_mul, bt_uI]
  rw [e1, fa_or_sum _ (by omega)]
  conv => rhs; rw [← nI_uI x]
  rw [show (16 : Int32) = nI 16 from rfl, pk_mul, nI_add]
def hcf (t : Nat → Int32) : Nat → Nat → Nat
  | 0, _ => 0
  | d + 1, p => if hxd (t p) then hcf t d (p + 1) + 1 else 0
def hc (t : Nat → Int32) (n p : Nat) : Nat := hcf t (n - p) p
theorem hcf_sp (t : Nat → Int32) : ∀ d p, hcf t d p ≤ d ∧ (∀ k, k < hcf t d p → hxd (t (p + k)) = true) ∧ (hcf t d p < d → hxd (t (p + hcf t d p)) = false)
  | 0, p => ⟨Nat.le_refl _, fun k h => absurd h (Nat.not_lt_zero k), fun h => absurd h (Nat.lt_irrefl _)⟩
  | d + 1, p => by
    rw [hcf]
    cases hd : hxd (t p)
    · rw [if_neg (by decide)]
      exact ⟨by omega, fun k h => absurd h (Nat.not_lt_zero k), fun _ => hd⟩
    · rw [if_pos rfl]
      obtain ⟨a, b, c⟩ := hcf_sp t d (p + 1)
      refine ⟨by omega, fun k hk => ?_, fun h => ?_⟩
      · rcases k with _ | k
        · exact hd
        · rw [show p + (k + 1) = p + 1 + k by omega]
          exact b k (by omega)
      · rw [show p + (hcf t d (p + 1) + 1) = p + 1 + hcf t d (p + 1) by omega]
        exact c (by omega)
def hval (t : Nat → Int32) (p : Nat) : Nat → Int32
  | 0 => 0
  | k + 1 => 16 * hval t p k + hx (t (p + k))
def hOK (t : Nat → Int32) (n s N : Nat) : Prop := (1 ≤ hc t n s ∧ hc t n s ≤ 8) ∧ wi (hval t s (hc t n s)) N
theorem hc_le {t : Nat → Int32} {n s : Nat} (h : s ≤ n) : s + hc t n s ≤ n := by
  have := (hcf_sp t (n - s) s).1
  unfold hc
  omega
theorem q_readHex {σ : wx_Z} {t : Nat → Int32} {n p N : Nat} {f : Int32} {K : Int32 → wx_Z → Prop} (hN1 : 1 ≤ N) (hN2 : N ≤ 32) (h : TS σ t n p f) (h1 : hOK t n (sb t n p) N → ∀ σ', md sT σ σ' → TS σ' t n (sb t n p + hc t n (sb t n p)) f → K (hval t (sb t n p) (hc t n (sb t n p))) σ') (h0 : ¬ hOK t n (sb t n p) N → ∀ σ', md sT σ σ' → TS σ' t n (sb t n p + hc t n (sb t n p)) (fa f (sb t n p)) → K 0 σ') : wpX6_readHex σ (mk N) K := by
  have hb := sb_le (t := t) h.2.2.2.2.2.1
  have hn := h.2.2.2.2.1
  have hby := h.2.2.2.2.2.2
  unfold wpX6_readHex
  apply q_skip h
  intro σ1 m1 T1
  generalize hs : sb t n p = s at *
  obtain ⟨c1, c2, c3⟩ := hcf_sp t (n - s) s
  have ec : hcf t (n - s) s = hc t n s := rfl
  rw [ec] at c1 c2 c3
  have f67 : ∀ σ2, md sT σ σ2 → TS σ2 t n (s + hc t n s) f → wpX6_readHex_67 K σ2 (mk N) (nI s) (hval t s (hc t n s)) := by
    intro σ2 m2 T2 t73 e73
    rw [T2.2.2.1, pk_sub (by omega), Nat.add_sub_cancel_left] at e73
    have bad : ¬ hOK t n s N → wpX6_readHex_96 K σ2 (nI s) := by
      intro q
      unfold wpX6_readHex_96
      apply q_failAt T2
      intro σ3 m3 T3
      exact h0 q σ3 (m2.tr m3) T3
    rw [e73, mk_wi hN1 hN2, show (1 : Int32) = nI 1 from rfl, show (8 : Int32) = nI 8 from rfl, nI_ltI (by omega) (by omega), nI_ltI (by omega) (by omega)]
    refine ⟨fun q => bad (fun z => absurd z.1.1 (by omega)), fun q => ⟨fun q2 => bad (fun z => absurd z.1.2 (by omega)), fun q2 => ⟨fun q3 => ?_, fun q3 => bad (fun z => q3 z.2)⟩⟩⟩
    exact h1 ⟨⟨by omega, by omega⟩, q3⟩ σ2 m2 T2
  have L : ∀ (e k : Nat) (σ2 : wx_Z), k + e = hc t n s → md sT σ σ2 → TS σ2 t n (s + k) f → wpX6_readHex_11 K (e + 1) σ2 (mk N) (nI s) (hval t s k) := by
    intro e
    induction e with
    | zero =>
      intro k σ2 hk m2 T2
      have hk : k = hc t n s := by omega
      subst hk
      have fin := f67 σ2 m2 T2
      unfold wpX6_readHex_11
      rw [T2.2.1, T2.2.2.1]
      refine ⟨fun _ => fin, fun q => ?_⟩
      rw [nI_leI (by omega) (by omega)] at q
      have hnd := c3 (by omega)
      rw [cln (by omega), T2.1 _ (by omega)]
      refine ⟨vi (by omega), ?_⟩
      apply q_hexValue
      rcases hx_sp (hby _ (show s + hc t n s < n by omega)) with z | z
      · exact ⟨fun _ => fin, fun z2 => absurd z.2.2 z2⟩
      · rw [z.1] at hnd; cases hnd
    | succ e ih =>
      intro k σ2 hk m2 T2
      have hdg := c2 k (by omega)
      unfold wpX6_readHex_11
      rw [T2.2.1, T2.2.2.1]
      refine ⟨fun q => ?_, fun _ => ?_⟩
      · rw [nI_leI (by omega) (by omega)] at q
        omega
      · rw [cln (by omega), T2.1 _ (by omega)]
        refine ⟨vi (by omega), ?_⟩
        apply q_hexValue
        rcases hx_sp (hby _ (show s + k < n by omega)) with z | ⟨_, z2, _, j, hj, z3⟩
        · rw [z.1] at hdg; cases hdg
        · refine ⟨fun z => absurd z z2, fun _ => ?_⟩
          rw [T2.2.2.1, cln (by omega), T2.1 _ (by omega)]
          refine ⟨vi (by omega), ?_⟩
          apply q_hexValue
          intro t53 e53 σ3 e3
          rw [T2.2.2.1, nI_1] at e3
          rw [z3, sh_or hj, ← z3] at e53
          rw [e53, e3]
          exact ih (k + 1) _ (by omega) (m2.up rfl) (T2.next (by omega))
  rw [T1.2.2.1]
  exact ⟨hc t n s + 1, L (hc t n s) 0 σ1 (by omega) m1 T1⟩
theorem k_hexAt {τ : wx_Z} {t : Nat → Int32} {n i p : Nat} {K : Int32 → wx_Z → Prop} (h : TM τ t n p) (hi : i ≤ n) (hK : K (if i < n then hx (t i) else -1) τ) : wpX9_hexAt τ (nI i) K := by
  have hn := h.2.2.2.1
  unfold wpX9_hexAt
  rw [h.2.1, nI_leI (by omega) (by omega)]
  refine ⟨fun q => ?_, fun q => ?_⟩
  · apply k_hex18
    rw [if_neg (by omega)] at hK
    exact hK
  · rw [cln (by omega), h.1 i (by omega)]
    refine ⟨vi (by omega), ?_⟩
    apply k_hex18
    rw [if_pos (by omega)] at hK
    exact hK
theorem k_takesHex {τ : wx_Z} {t : Nat → Int32} {n p N : Nat} {K : Int32 → wx_Z → Prop} (hN1 : 1 ≤ N) (hN2 : N ≤ 32) (hby : ∀ i, i < n → 0 ≤ (t i).toInt ∧ (t i).toInt ≤ 127) (h : TM τ t n p) (h1 : hOK t n (sb t n p) N → ∀ τ', md sR2 τ τ' → TM τ' t n (sb t n p + hc t n (sb t n p)) → τ' 0 23 = hval t (sb t n p) (hc t n (sb t n p)) → K 1 τ') (h0 : ¬ hOK t n (sb t n p) N → ∀ τ', md sR2 τ τ' → TM τ' t n (sb t n p) → K 0 τ') : wpX9_takesHex τ (nI N) K := by
  have hb := sb_le (t := t) h.2.2.2.2
  have hn := h.2.2.2.1
  unfold wpX9_takesHex
  apply k_here h
  intro τ1 m1 T1
  have m1 := md_222 m1
  generalize hs : sb t n p = s at *
  obtain ⟨c1, c2, c3⟩ := hcf_sp t (n - s) s
  have ec : hcf t (n - s) s = hc t n s := rfl
  rw [ec] at c1 c2 c3
  have T23 : ∀ {τ2 : wx_Z} {v : Int32}, TM τ2 t n s → TM (wx_up τ2 0 23 v) t n s := fun ⟨a, b, c, e, g⟩ => ⟨fun i hi => by rw [up_c (by decide)]; exact a i hi, by rw [up_k (by decide)]; exact b, by rw [up_k (by decide)]; exact c, e, g⟩
  have bad : ¬ hOK t n s N → ∀ τ2 x4, md sR2 τ τ2 → TM τ2 t n s → wpX9_takesHex_92 K τ2 x4 0 := by
    intro q τ2 x4 m2 T2
    refine ⟨fun _ τ3 e3 => ⟨rfl, h0 q τ3 ?_ ?_⟩, fun z => absurd rfl z⟩
    · rw [e3]; exact m2.up rfl
    · rw [e3, T2.2.2.1]; exact T2.next T2.2.2.2.2
  have f58 : ∀ (k : Nat) (τ2 : wx_Z), k ≤ 9 → k ≤ hc t n s → (k < hc t n s → k = 9) → md sR2 τ τ2 → TM τ2 t n s → τ2 0 23 = hval t s k → wpX9_takesHex_58 K τ2 (nI N) (nI (s + k)) := by
    intro k τ2 hk3 hkc hkd m2 T2 e23
    unfold wpX9_takesHex_58
    rw [T2.2.2.1, pk_sub (by omega), Nat.add_sub_cancel_left, lit48.2.2.2.2.1, lit48.2.2.2.2.2.2]
    apply k_inI
    · intro a b
      rw [show (1 : Int32) = nI 1 from rfl, nI_leI (by omega) (by omega)] at a
      rw [show (8 : Int32) = nI 8 from rfl, nI_leI (by omega) (by omega)] at b
      have ek : k = hc t n s := by omega
      subst ek
      refine ⟨fun z => absurd z (by decide), fun _ => ?_⟩
      apply k_isWithin hN1 hN2
      · intro hw
        rw [e23] at hw
        refine ⟨fun z => absurd z (by decide), fun _ => ⟨fun z => absurd z (by decide), fun _ τ3 e3 => ⟨rfl, h1 ⟨⟨by omega, by omega⟩, hw⟩ τ3 ?_ ?_ ?_⟩⟩⟩
        · rw [e3]; exact m2.up rfl
        · rw [e3]; exact T2.next (by omega)
        · rw [e3, up_k (by decide), e23]
      · intro hw
        rw [e23] at hw
        exact ⟨fun _ => bad (fun q => hw q.2) τ2 _ m2 T2, fun z => absurd rfl z⟩
    · intro z
      refine ⟨fun _ => bad (fun q => z ?_) τ2 _ m2 T2, fun z => absurd rfl z⟩
      rw [show (1 : Int32) = nI 1 from rfl, nI_leI (by omega) (by omega), show (8 : Int32) = nI 8 from rfl, nI_leI (by omega) (by omega)]
      have := q.1
      omega
  have L : ∀ (e k : Nat) (τ2 : wx_Z), k + e = min (hc t n s) 9 → md sR2 τ τ2 → TM τ2 t n s → τ2 0 23 = hval t s k → wpX9_takesHex_15 K (e + 1) τ2 (nI N) (nI (s + k)) := by
    intro e
    induction e with
    | zero =>
      intro k τ2 hk m2 T2 e23
      have fin := f58 k τ2 (by omega) (by omega) (by omega) m2 T2 e23
      unfold wpX9_takesHex_15
      apply k_hexAt T2 (by omega)
      refine ⟨fun _ => fin, fun q => ?_⟩
      rw [T2.2.2.1, pk_sub (by omega), Nat.add_sub_cancel_left, show (9 : Int32) = nI 9 from rfl, nI_leI (by omega) (by omega)]
      refine ⟨fun _ => fin, fun z => ?_⟩
      exfalso
      have hk2 : k = hc t n s := by omega
      subst hk2
      by_cases q2 : s + hc t n s < n
      · rw [if_pos q2] at q
        have := c3 (by omega)
        rcases hx_sp (hby _ q2) with y | y
        · exact q y.2.1
        · rw [y.1] at this; cases this
      · rw [if_neg q2] at q
        exact q rfl
    | succ e ih =>
      intro k τ2 hk m2 T2 e23
      have hdg := c2 k (by omega)
      unfold wpX9_takesHex_15
      have hkn : s + k < n := by omega
      apply k_hexAt T2 (by omega)
      rw [if_pos hkn]
      rcases hx_sp (hby _ hkn) with z | ⟨_, z2, z3, _⟩
      · rw [z.1] at hdg; cases hdg
      · refine ⟨fun z => absurd z z3, fun _ => ?_⟩
        rw [T2.2.2.1, pk_sub (by omega), Nat.add_sub_cancel_left, show (9 : Int32) = nI 9 from rfl, nI_leI (by omega) (by omega)]
        refine ⟨fun z => absurd z (by omega), fun _ => ?_⟩
        apply k_hexAt T2 (by omega)
        rw [if_pos hkn]
        intro τ3 e3 t52 e52
        rw [e23] at e3
        rw [e52, nI_1, e3]
        exact ih (k + 1) _ (by omega) (m2.up rfl) (T23 T2) (up_s _ _ _ _)
  intro τ2 e2
  rw [T1.2.2.1]
  refine ⟨min (hc t n s) 9 + 1, ?_⟩
  rw [e2]
  exact L (min (hc t n s) 9) 0 _ (by omega) (m1.up rfl) (T23 T1) (up_s _ _ _ _)

/-! ===== hurt ===== -/
theorem uL_16 {n : Nat} (h : n < 2 ^ 31) : wx_uL (lN n) 16 = lN (n / 65536) := by
  unfold wx_uL
  have e1 : (lN n).toUInt64 = UInt64.ofNat n := rfl
  have e2 : ((16 : Int32).toInt64.toUInt64 &&& Int64.toUInt64 63) = 16 := by decide +kernel
  rw [e1, e2]
  have e3 : UInt64.ofNat n >>> 16 = UInt64.ofNat (n / 65536) := by
    apply UInt64.toNat_inj.mp
    rw [UInt64.toNat_shiftRight, UInt64.toNat_ofNat', UInt64.toNat_ofNat', show (16 : UInt64).toNat % 64 = 16 from rfl, Nat.mod_eq_of_lt (by omega), Nat.mod_eq_of_lt (by omega), Nat.shiftRight_eq_div_pow]
  rw [e3]
  rfl
def nx (X : Nat) : Nat := (X * 1103515245 + 12345) % 2 ^ 31
def ff (m : Nat) (D : Int32) (p : Nat) : Nat := fa_first (fun t => !bt D ((p + t) % 2 ^ m)) (2 ^ m)
def hw (m s : Nat) : Nat → Nat × Int32
  | 0 => (s, 0)
  | k + 1 => (nx (hw m s k).1, (hw m s k).2 ||| (1 <<< (nI ((nx (hw m s k).1 / 65536 % 2 ^ m + ff m (hw m s k).2 (nx (hw m s k).1 / 65536 % 2 ^ m)) % 2 ^ m) &&& 31)))
theorem ff_lt {m k : Nat} {D : Int32} {p : Nat} (h5 : m ≤ 5) (hp : p < 2 ^ m) (hk : k < 2 ^ m) (hc : fb_ct (bt D) 32 = k) : ff m D p < 2 ^ m := by
  have hm := p2_le h5
  have hex : ∃ j, j < 2 ^ m ∧ bt D j = false := by
    apply Decidable.byContradiction
    intro hn
    have hall : fb_ct (bt D) (2 ^ m) = 2 ^ m := fb_ct_all.mpr (fun j hj => by
      cases hb : bt D j
      · exact absurd ⟨j, hj, hb⟩ hn
      · rfl)
    have := fb_ct_mono (bt D) hm
    omega
  obtain ⟨j, hj, hb⟩ := hex
  have ht : ∃ t, t < 2 ^ m ∧ (p + t) % 2 ^ m = j := by
    by_cases q : p ≤ j
    · exact ⟨j - p, by omega, by rw [show p + (j - p) = j by omega]; exact Nat.mod_eq_of_lt hj⟩
    · exact ⟨j + 2 ^ m - p, by omega, by rw [show p + (j + 2 ^ m - p) = j + 2 ^ m by omega, Nat.add_mod_right]; exact Nat.mod_eq_of_lt hj⟩
  obtain ⟨t, ht1, ht2⟩ := ht
  apply Decidable.byContradiction
  intro hn
  have hle := fa_first_le (fun t => !bt D ((p + t) % 2 ^ m)) (2 ^ m)
  have he : fa_first (fun t => !bt D ((p + t) % 2 ^ m)) (2 ^ m) = 2 ^ m := by
    unfold ff at hn
    omega
  have := fa_first_no (fun t => !bt D ((p + t) % 2 ^ m)) (2 ^ m) t (by rw [he]; exact ht1)
  rw [ht2, hb] at this
  cases this
theorem ff_no {m : Nat} {D : Int32} {p t : Nat} (h : t < ff m D p) : bt D ((p + t) % 2 ^ m) = true := by
  have := fa_first_no (fun t => !bt D ((p + t) % 2 ^ m)) (2 ^ m) t h
  simpa using this
theorem ff_yes {m : Nat} {D : Int32} {p : Nat} (h : ff m D p < 2 ^ m) : bt D ((p + ff m D p) % 2 ^ m) = false := by
  have := fa_first_yes (fun t => !bt D ((p + t) % 2 ^ m)) (2 ^ m) h
  unfold ff
  simpa using this
theorem nx_lt (X : Nat) : nx X < 2 ^ 31 := Nat.mod_lt _ (by decide)
theorem hw_inv {m s : Nat} (h5 : m ≤ 5) (hs : s < 2 ^ 31) : ∀ k, k ≤ 2 ^ m → (hw m s k).1 < 2 ^ 31 ∧ fb_ct (bt (hw m s k).2) 32 = k ∧ wi (hw m s k).2 (2 ^ m)
  | 0, _ => ⟨hs, fb_ct_zero.mpr (fun k _ => b_0 k), wi_0⟩
  | k + 1, hk => by
    obtain ⟨a, b, c⟩ := hw_inv h5 hs k (by omega)
    have hm := p2_le h5
    have hpos := p2_pos m
    have hp : nx (hw m s k).1 / 65536 % 2 ^ m < 2 ^ m := Nat.mod_lt _ hpos
    have hf := ff_lt h5 hp (by omega) b
    have hy := ff_yes hf
    have hq : (nx (hw m s k).1 / 65536 % 2 ^ m + ff m (hw m s k).2 (nx (hw m s k).1 / 65536 % 2 ^ m)) % 2 ^ m < 2 ^ m := Nat.mod_lt _ hpos
    refine ⟨nx_lt _, ?_, ?_⟩
    · have e : fb_ct (bt (hw m s (k + 1)).2) 32 = fb_ct (fun i => if i = (nx (hw m s k).1 / 65536 % 2 ^ m + ff m (hw m s k).2 (nx (hw m s k).1 / 65536 % 2 ^ m)) % 2 ^ m then true else bt (hw m s k).2 i) 32 := by
        apply fb_ct_cong
        intro i hi
        rw [hw, b_or, bt_sh1 (by omega) hi]
        by_cases q : i = (nx (hw m s k).1 / 65536 % 2 ^ m + ff m (hw m s k).2 (nx (hw m s k).1 / 65536 % 2 ^ m)) % 2 ^ m
        · rw [if_pos q, decide_eq_true q, Bool.or_true]
        · rw [if_neg q, decide_eq_false q, Bool.or_false]
      have := fb_ct_upd (bt (hw m s k).2) true (i := (nx (hw m s k).1 / 65536 % 2 ^ m + ff m (hw m s k).2 (nx (hw m s k).1 / 65536 % 2 ^ m)) % 2 ^ m) (n := 32) (by omega)
      rw [hy, if_neg (by decide), if_pos rfl] at this
      rw [e]
      omega
    · intro i h1 h2
      rw [hw, b_or, c i h1 h2, bt_sh1 (by omega) h2, decide_eq_false (by omega)]
      rfl
theorem hw_s1 {m s k : Nat} : (hw m s (k + 1)).1 = nx (hw m s k).1 := by rw [hw]
theorem hw_s2 {m s k : Nat} : (hw m s (k + 1)).2 = (hw m s k).2 ||| (1 <<< (nI ((nx (hw m s k).1 / 65536 % 2 ^ m + ff m (hw m s k).2 (nx (hw m s k).1 / 65536 % 2 ^ m)) % 2 ^ m) &&& 31)) := by rw [hw]
theorem nx_eq (X : Nat) : (X * 1103515245 + 12345) % 2 ^ 31 = nx X := by unfold nx; rfl
theorem lc_step (X : Nat) : lN X * 1103515245 + 12345 = lN (X * 1103515245 + 12345) := by
  rw [show (1103515245 : Int64) = lN 1103515245 from rfl, show (12345 : Int64) = lN 12345 from rfl, lN_mul, lN_add]
theorem lc_and (X : Nat) : (lN X * 1103515245 + 12345) &&& 2147483647 = lN (nx X) := by
  rw [lc_step, show (2147483647 : Int64) = lN (2 ^ 31 - 1) from rfl, fb_maskL, nx_eq]
theorem lc_rem {X : Nat} (h : X < 2 ^ 31) : (lN X * 1103515245 + 12345) - (lN X * 1103515245 + 12345) / 2147483648 * 2147483648 = lN (nx X) := by
  rw [lc_step, show (2147483648 : Int64) = lN (2 ^ 31) from rfl, pk_lRem (by omega) (by decide) (by decide), nx_eq]
theorem q_draw58 {C23 : wx_Z → Int32 → Int32 → Int32 → Int64 → Int32 → Prop} {K : Int32 → wx_Z → Prop} {σ : wx_Z} {m p k : Nat} {D N : Int32} {y : Int64} (h5 : m ≤ 5) (hp : p < 2 ^ m) (hf : ff m D p < 2 ^ m)
    (hC : C23 σ N (nI (2 ^ m - 1)) (D ||| (1 <<< (nI ((p + ff m D p) % 2 ^ m) &&& 31))) y (nI (k + 1))) : ∃ n, wpX8_drawPlaces_58 K C23 n σ N (nI (2 ^ m - 1)) D y (nI k) (nI p) 0 := by
  have hm := p2_le h5
  have hpos := p2_pos m
  have hy := ff_yes hf
  have I : ∀ (e t : Nat), t + e = ff m D p → wpX8_drawPlaces_58 K C23 (e + 1) σ N (nI (2 ^ m - 1)) D y (nI k) (nI ((p + t) % 2 ^ m)) (nI t) := by
    intro e
    induction e with
    | zero =>
      intro t ht
      have ht : t = ff m D p := by omega
      have fin : wpX8_drawPlaces_89 K C23 σ N (nI (2 ^ m - 1)) D y (nI k) (nI ((p + t) % 2 ^ m)) := by
        intro t96 e96 t98 e98
        rw [e96, e98, nI_1, ht]
        exact hC
      have hq : (p + t) % 2 ^ m < 2 ^ m := Nat.mod_lt _ hpos
      unfold wpX8_drawPlaces_58
      refine ⟨fun _ => fin, fun _ => ⟨fun _ => fin, fun q => ?_⟩⟩
      rw [bit_u _ (by omega), ht, hy] at q
      exact absurd q (by decide)
    | succ e ih3 =>
      intro t ht
      have hq : (p + t) % 2 ^ m < 2 ^ m := Nat.mod_lt _ hpos
      have hno := ff_no (m := m) (D := D) (p := p) (t := t) (by omega)
      unfold wpX8_drawPlaces_58
      refine ⟨fun q => ?_, fun _ => ⟨fun q => ?_, fun _ t81 e81 t83 e83 => ?_⟩⟩
      · rw [nI_leI (by omega) (by omega)] at q
        omega
      · rw [bit_u _ (by omega), hno] at q
        exact absurd rfl q
      · rw [nI_1, fa_mask, Nat.mod_add_mod, Nat.add_assoc] at e81
        rw [e81, e83, nI_1]
        exact ih3 (t + 1) (by omega)
  have := I (ff m D p) 0 (Nat.zero_add _)
  have e0 : (p + 0) % 2 ^ m = p := Nat.mod_eq_of_lt hp
  rw [e0] at this
  exact ⟨_, this⟩
theorem q_drawPlaces {σ : wx_Z} {o m s N : Nat} {K : Int32 → wx_Z → Prop} (h : CO σ 0 o m) (hs : s < 2 ^ 31) (hN : N ≤ 2 ^ m) (hK : K (hw m s N).2 σ) : wpX8_drawPlaces σ (nI s) (nI N) K := by
  have h5 := h.2.2.2.2.2.2
  have hm := p2_le h5
  have hpos := p2_pos m
  have hM1 : (nI (2 ^ m) : Int32) - 1 = nI (2 ^ m - 1) := by
    obtain ⟨p, e⟩ : ∃ p, 2 ^ m = p + 1 := ⟨2 ^ m - 1, by omega⟩
    rw [e]; exact nI_pred p
  have L : ∀ (d k : Nat), k + d = N → wpX8_drawPlaces_23 K (d + 1) σ (nI N) (nI (2 ^ m - 1)) (hw m s k).2 (lN (hw m s k).1) (nI k) := by
    intro d
    induction d with
    | zero =>
      intro k hk
      have hk : k = N := by omega
      subst hk
      unfold wpX8_drawPlaces_23
      exact ⟨fun _ => hK, fun q => absurd (Int32.le_refl _) q⟩
    | succ d ih =>
      intro k hk
      obtain ⟨a, b, c⟩ := hw_inv h5 hs k (by omega)
      have ih2 := ih (k + 1) (by omega)
      rw [hw_s1, hw_s2] at ih2
      generalize (hw m s k).1 = X at a ih2 ⊢
      generalize (hw m s k).2 = D at b c ih2 ⊢
      unfold wpX8_drawPlaces_23
      refine ⟨fun q => ?_, fun _ t43 e43 t53 e53 => ?_⟩
      · rw [nI_leI (by omega) (by omega)] at q
        omega
      · rw [lc_and] at e43
        have hnx := nx_lt X
        generalize nx X = Y at e43 ih2 hnx
        rw [e43, uL_16 hnx, lN_i, fa_mask] at e53
        have hp : Y / 65536 % 2 ^ m < 2 ^ m := Nat.mod_lt _ hpos
        rw [e43, e53]
        generalize Y / 65536 % 2 ^ m = P at hp ih2 ⊢
        exact q_draw58 h5 hp (ff_lt h5 hp (by omega) b) ih2
  intro t12 e12 t18 e18
  rw [h.2.2.1, hM1] at e12
  rw [nI_l hs] at e18
  rw [e12, e18]
  exact ⟨N + 1, L N 0 (by omega)⟩
theorem k_hurt80 {C46 : wx_Z → Int32 → Int64 → Int32 → Int32 → Prop} {K : Int32 → wx_Z → Prop} {τ : wx_Z} {m p k : Nat} {D N : Int32} {y : Int64} (hm1 : τ 1 1 = nI m) (h5 : m ≤ 5) (hp : p < 2 ^ m) (hf : ff m D p < 2 ^ m)
    (hC : C46 τ N y (D ||| (1 <<< (nI ((p + ff m D p) % 2 ^ m) &&& 31))) (nI (k + 1))) : ∃ n, wpX9_hurt_80 K C46 n τ N y D (nI k) (nI p) := by
  have hm := p2_le h5
  have hpos := p2_pos m
  have hy := ff_yes hf
  have I : ∀ (e t : Nat), t + e = ff m D p → wpX9_hurt_80 K C46 (e + 1) τ N y D (nI k) (nI ((p + t) % 2 ^ m)) := by
    intro e
    induction e with
    | zero =>
      intro t ht
      have ht : t = ff m D p := by omega
      have hq : (p + t) % 2 ^ m < 2 ^ m := Nat.mod_lt _ hpos
      unfold wpX9_hurt_80
      apply k_has (by omega)
      rw [b2i_0]
      refine ⟨fun _ t111 e111 t113 e113 => ?_, fun q => ?_⟩
      · rw [e111, e113, nI_1, ht]
        exact hC
      · rw [ht] at q
        exact absurd hy q
    | succ e ih3 =>
      intro t ht
      have hq : (p + t) % 2 ^ m < 2 ^ m := Nat.mod_lt _ hpos
      have hno := ff_no (m := m) (D := D) (p := p) (t := t) (by omega)
      unfold wpX9_hurt_80
      apply k_has (by omega)
      rw [b2i_0]
      refine ⟨fun q => ?_, fun _ => ?_⟩
      · rw [hno] at q
        cases q
      · apply k_places hm1 h5
        refine ⟨?_, fun t99 e99 => ?_⟩
        · rw [show (0 : Int32) = nI 0 from rfl, nI_eq (by omega) (by omega)]
          omega
        · rw [nI_1, pk_rem (by omega) hpos (by omega), Nat.mod_add_mod, Nat.add_assoc] at e99
          rw [e99]
          exact ih3 (t + 1) (by omega)
  have := I (ff m D p) 0 (Nat.zero_add _)
  have e0 : (p + 0) % 2 ^ m = p := Nat.mod_eq_of_lt hp
  rw [e0] at this
  exact ⟨_, this⟩
theorem k_hurt46 {τ : wx_Z} {m s N : Nat} {K : Int32 → wx_Z → Prop} (hm1 : τ 1 1 = nI m) (h5 : m ≤ 5) (hs : s < 2 ^ 31) (hN : N ≤ 2 ^ m) (hK : K (nI (pc (τ 1 2 ^^^ (hw m s N).2))) (wx_up τ 1 2 (τ 1 2 ^^^ (hw m s N).2))) : ∃ n, wpX9_hurt_46 K n τ (nI N) (lN s) 0 0 := by
  have hm := p2_le h5
  have hpos := p2_pos m
  have L : ∀ (d k : Nat), k + d = N → wpX9_hurt_46 K (d + 1) τ (nI N) (lN (hw m s k).1) (hw m s k).2 (nI k) := by
    intro d
    induction d with
    | zero =>
      intro k hk
      have hk : k = N := by omega
      subst hk
      unfold wpX9_hurt_46
      refine ⟨fun _ => ⟨vi (n := 2) (by decide), vi (n := 2) (by decide), fun σ1 e1 => ?_⟩, fun q => absurd (Int32.le_refl _) q⟩
      rw [show Int32.toNatClampNeg 2 = 2 from rfl] at e1
      apply k_theWord
      apply k_bits
      rw [e1, up_s]
      exact hK
    | succ d ih =>
      intro k hk
      obtain ⟨a, b, c⟩ := hw_inv h5 hs k (by omega)
      have ih2 := ih (k + 1) (by omega)
      rw [hw_s1, hw_s2] at ih2
      generalize (hw m s k).1 = X at a ih2 ⊢
      generalize (hw m s k).2 = D at b c ih2 ⊢
      unfold wpX9_hurt_46
      refine ⟨fun q => ?_, fun _ => ⟨by decide, fun t65 e65 => ⟨by decide, ?_⟩⟩⟩
      · rw [nI_leI (by omega) (by omega)] at q
        omega
      · rw [lc_rem a] at e65
        have hnx := nx_lt X
        generalize nx X = Y at e65 ih2 hnx
        apply k_places hm1 h5
        have hp : Y / 65536 % 2 ^ m < 2 ^ m := Nat.mod_lt _ hpos
        rw [nI_l (by omega), e65, show (65536 : Int64) = lN 65536 from rfl, pk_lDiv (by omega) (by decide) (by decide), pk_lRem (by omega) hpos (by omega), lN_i]
        refine ⟨?_, fun t78 e78 => ?_⟩
        · rw [show (0 : Int64) = lN 0 from rfl, lN_eq (by omega) (by omega)]
          omega
        · rw [e78]
          generalize Y / 65536 % 2 ^ m = P at hp ih2 ⊢
          exact k_hurt80 hm1 h5 hp (ff_lt h5 hp (by omega) b) ih2
  exact ⟨N + 1, L N 0 (by omega)⟩
theorem e_hurt {σ τ : wx_Z} (x y : Int32) (h : RR σ τ) : wpX8_hurt σ x y (fun a σ' => wpX9_hurt τ x y (fun a' τ' => a = a' ∧ RR σ' τ')) := by
  obtain ⟨o, m, x', c, n, hx⟩ := id (RR.rx h)
  have h5 := hx.h5
  have hp := p2_le h5
  have co := hx.co
  have lit : ((0 : Int64) = (0 : Int32).toInt64) ∧ ((999999 : Int64) = (999999 : Int32).toInt64) := ⟨rfl, rfl⟩
  have bad : ¬ ((0 ≤ x ∧ x ≤ 999999) ∧ (0 ≤ y ∧ y ≤ nI (2 ^ m))) → wpX8_refuseBad σ (-2) (fun r30 σ30 => wpX9_hurt τ x y (fun a' τ' => r30 = a' ∧ RR σ30 τ')) := by
    intro q
    apply q_bad
    show wpX9_hurt τ x y _
    unfold wpX9_hurt
    rw [lit.1, lit.2]
    apply k_inI
    · intro h1 h2
      refine ⟨fun z => absurd z (by decide), fun _ => ?_⟩
      apply k_places hx.t1 h5
      apply k_inI
      · intro h3 h4; exact absurd ⟨⟨h1, h2⟩, h3, h4⟩ q
      · intro _
        exact ⟨fun z => absurd rfl z, fun _ => k_bad ⟨rfl, R_bad h⟩⟩
    · intro _
      exact ⟨fun _ => k_bad ⟨rfl, R_bad h⟩, fun z => absurd rfl z⟩
  unfold wpX8_hurt
  rw [co.2.2.1]
  refine ⟨fun q => bad (fun z => absurd q (nn0.mpr z.1.1)), fun q => ⟨fun q2 => bad (fun z => absurd q2 (Int32.not_lt.mpr z.1.2)), fun q2 => ⟨fun q3 => bad (fun z => absurd q3 (nn0.mpr z.2.1)), fun q3 => ⟨fun q4 => ?_, fun q4 => bad (fun z => q4 z.2.2)⟩⟩⟩⟩
  have q2 := Int32.not_lt.mp q2
  obtain ⟨s, hs, rfl⟩ := nI_of2 (M := 999999) (n := 999999) rfl q q2
  obtain ⟨N, hN, rfl⟩ := nI_of2 (M := nI (2 ^ m)) (n := 2 ^ m) (nI_toInt (by omega)) q3 q4
  have q := nn0.mp q
  have q3 := nn0.mp q3
  apply hx.qk
  intro σ1 hC
  have hs1 := hx.live0 hC
  apply q_drawPlaces hs1.1.1 (by omega) hN
  intro σ2 e2
  unfold wpX8_weight
  apply k_bitCount
  show wpX9_hurt τ (nI s) (nI N) _
  unfold wpX9_hurt
  rw [lit.1, lit.2]
  apply k_inI _ (fun z => absurd ⟨q, q2⟩ z)
  intro _ _
  refine ⟨fun z => absurd z (by decide), fun _ => ?_⟩
  apply k_places hx.t1 h5
  apply k_inI _ (fun z => absurd ⟨q3, q4⟩ z)
  intro _ _
  refine ⟨fun _ t35 e35 => ?_, fun z => absurd z (by decide)⟩
  rw [nI_l (by omega)] at e35
  apply hx.kk
  intro τ1 hM
  have hx1 := hx.keep hC hM
  rw [e35]
  apply k_hurt46 hx1.t1 h5 (by omega) hN
  rw [hx1.tw, e2, up_s]
  refine ⟨rfl, hx1.word ?_⟩
  exact wi_xor hx1.hw (hw_inv h5 (by omega) N hN).2.2
/-! ===== back ===== -/
theorem e_back {σ τ : wx_Z} (h : RR σ τ) : wpX8_back σ (fun a σ' => wpX9_back τ (fun a' τ' => a = a' ∧ RR σ' τ')) := by
  obtain ⟨o, m, x, c, n, hx⟩ := id (RR.rx h)
  obtain ⟨p1, p2, p3, p4, p5, p6⟩ := hx.2.1
  unfold wpX8_back
  rw [p4]
  refine ⟨fun q => ?_, fun q => ?_⟩
  · rw [show (0 : Int32) = nI 0 from rfl, nI_eq (by omega) (by omega)] at q
    unfold wpX4_giveBack
    rw [p3, p4]
    refine ⟨fun z => ?_, fun _ => ⟨by decide, fun σ1 e1 σ2 e2 => ?_⟩⟩
    · rw [show (0 : Int32) = nI 0 from rfl, nI_leI (by omega) (by omega)] at z
      omega
    · rw [show (8 : Int32) = nI 8 from rfl, nI_add, show x + 8 = x + 7 + 1 by omega, nI_pred, pk_rem (by omega) (by omega) (by omega)] at e1
      obtain ⟨c', rfl⟩ : ∃ c', c = c' + 1 := ⟨c - 1, by omega⟩
      have e1c : σ1 41 2 = nI (c' + 1) := by rw [e1, up_k (by decide), p4]
      rw [e1c, nI_pred] at e2
      have e21 : σ2 41 1 = nI ((x + 7) % 8) := by rw [e2, up_k (by decide), e1, up_s]
      rw [e21, cln (by omega)]
      refine ⟨vi (by omega), ?_⟩
      obtain ⟨⟨o', m', hst⟩, hE⟩ := p6 c' (by omega)
      have hrg : rg x (c' + 1) c' = 2 + (x + 7) % 8 := by unfold rg; omega
      rw [hrg] at hst hE
      have f2 : fr [41] σ σ2 := by rw [e2, e1]; exact (fr.rf.up (by simp)).up (by simp)
      have g41 : ∀ g, g < 10 → ∀ c ∈ gl g, c ∉ [41] := fun g hg c hc z => by
        have := gl_in hc
        simp at z
        omega
      have hst2 := hst.fr f2 (g41 _ (by omega))
      have hE2 := hE.fr f2 (g41 _ (by omega))
      apply q_copy (by omega) hst2
      intro σ3 f3 s3 w3 so3
      have hp3 : RP σ2 (wx_up τ 0 2 (nI c')) ((x + 7) % 8) c' := by
        refine ⟨by omega, by omega, e21, by rw [e2, up_s], by rw [up_s], fun i hi => ?_⟩
        obtain ⟨⟨o2, m2, k1⟩, k2⟩ := p6 i (by omega)
        have er : rg ((x + 7) % 8) c' i = rg x (c' + 1) i := by unfold rg; omega
        have hr := rg_in x (c' + 1) i
        rw [er]
        refine ⟨⟨o2, m2, k1.fr f2 (g41 _ hr.2)⟩, ?_⟩
        have k3 := k2.fr f2 (g41 _ hr.2)
        refine ⟨?_, ?_, ?_, fun j hj => ?_⟩
        · rw [up_c (by decide)]; exact k3.1
        · rw [up_c (by decide)]; exact k3.2.1
        · rw [up_c (by decide)]; exact k3.2.2.1
        · rw [up_c (by decide)]; exact k3.2.2.2 j hj
      have ht3 : RT σ2 (wx_up τ 0 2 (nI c')) n := by
        obtain ⟨t1, t2, t3, t4⟩ := hx.2.2.1
        refine ⟨t1, by rw [f2 43 (by decide)]; exact t2, by rw [up_k (by decide)]; exact t3, fun i hi => ?_⟩
        rw [f2 44 (by decide), up_c (by decide)]
        exact t4 i hi
      have hc3 : RC σ2 (wx_up τ 0 2 (nI c')) := by
        obtain ⟨c1, c2, c3⟩ := hx.2.2.2
        refine ⟨?_, ?_, ?_⟩
        · rw [f2 0 (by decide), up_c (by decide)]; exact c1
        · rw [f2 0 (by decide), up_c (by decide)]; exact c2
        · rw [f2 0 (by decide), up_c (by decide)]; exact c3
      show wpX9_back τ _
      unfold wpX9_back
      rw [p5]
      refine ⟨fun _ τ1 et1 => ?_, fun z => ?_⟩
      · rw [nI_pred] at et1
        subst et1
        have L : ∀ (d k : Nat) (τ' : wx_Z), k + d = 35 → (∀ c k, ¬ c = 1 → τ' c k = wx_up τ 0 2 (nI c') c k) → (∀ j, j < k → τ' 1 j = τ 2 (35 * c' + j)) → wpX9_back_26 (fun a' τ' => σ3 41 2 = a' ∧ RR σ3 τ') (d + 1) τ' (nI k) := by
          intro d
          induction d with
          | zero =>
            intro k τ' hk hm h1
            have hk : k = 35 := by omega
            subst hk
            unfold wpX9_back_26
            refine ⟨fun _ => ⟨?_, ?_⟩, fun q => absurd (by decide) q⟩
            · rw [hm 0 2 (by decide), up_s, f3 41 (fun z => by have := gl_in z; omega), e2, up_s]
            · refine RR.live (o := o') (m := m') hp3 ht3 hc3 f3 (fun c k hc _ => hm c k hc) ⟨s3, ?_, ?_, ?_, ?_⟩
              · rw [h1 0 (by omega), s3.1.1, ← hst2.1.1]; exact hE2.1
              · rw [h1 (0 + 1) (by omega), s3.1.2.1, ← hst2.1.2.1]; exact hE2.2.1
              · rw [h1 (0 + 2) (by omega), w3]; exact hE2.2.2.1
              · intro i hi
                rw [h1 (0 + 3 + i) (by omega), so3 i hi, show 35 * c' + (0 + 3 + i) = 35 * c' + 3 + i by omega]
                exact hE2.2.2.2 i hi
          | succ d ih =>
            intro k τ' hk hm h1
            unfold wpX9_back_26
            have e02 : τ' 0 2 = nI c' := by rw [hm 0 2 (by decide), up_s]
            rw [e02, show (35 : Int32) = nI 35 from rfl, pk_mul, nI_add, cln (by omega), cln (by omega)]
            refine ⟨fun z => ?_, fun _ => ⟨vi (by omega), vi (by omega), fun τ2 et2 t52 e52 => ?_⟩⟩
            · rw [nI_leI (by omega) (by omega)] at z
              omega
            · rw [e52, nI_1, et2]
              refine ih (k + 1) _ (by omega) ?_ ?_
              · intro c2 k2 hn
                rw [up_c hn]
                exact hm c2 k2 hn
              · intro j hj
                by_cases q : j = k
                · subst q
                  rw [up_s, hm 2 _ (by decide), up_c (by decide)]
                · rw [up_k q]; exact h1 j (by omega)
        exact ⟨36, L 35 0 _ (by omega) (fun _ _ _ => rfl) (fun j hj => absurd hj (by omega))⟩
      · rw [show (0 : Int32) = nI 0 from rfl, nI_eq (by omega) (by omega)] at z
        omega
  · apply q_no
    show wpX9_back τ _
    unfold wpX9_back
    rw [p5]
    exact ⟨fun z => absurd q z, fun _ => k_no ⟨rfl, R_no h⟩⟩

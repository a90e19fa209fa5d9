/-! ===== halves: what it answers ===== -/
def les (x y : Int32) : Int32 := if (decide (0 ≤ x)) = (decide (0 ≤ y)) then (if ab y ≤ ab x then ab y else ab x) else -(if ab y ≤ ab x then ab y else ab x)
def tog (f : Nat → Int32) (h : Nat) (a : Int32) (i : Nat) : Int32 := f i + (if bt a i then -f (i + h) else f (i + h))
def al (m : Nat) (f : Nat → Int32) : Int32 := if 0 ≤ sI f (2 ^ m) then 0 else mk (2 ^ m)
def ea (m : Nat) (f : Nat → Int32) : Int32 := wd (fun i => decide (¬ 0 ≤ f i)) (2 ^ m)
def hv : Nat → Nat → (Nat → Int32) → Int32
  | 0, r, f => if r = 0 then al 0 f else ea 0 f
  | m + 1, r, f => if r = 0 then al (m + 1) f else if r = m + 1 then ea (m + 1) f else
      hv m r (tog f (2 ^ m) (hv m (r - 1) (fun i => les (f i) (f (i + 2 ^ m))))) ||| ((hv m r (tog f (2 ^ m) (hv m (r - 1) (fun i => les (f i) (f (i + 2 ^ m))))) ^^^ hv m (r - 1) (fun i => les (f i) (f (i + 2 ^ m)))) <<< (nI (2 ^ m) &&& 31))
def fl : Nat → Nat → Nat
  | 0, _ => 1
  | m + 1, r => if r = 0 then 1 else if r = m + 1 then 1 else 3 + fl m (r - 1) + fl m r
theorem al_cong {m : Nat} {f g : Nat → Int32} (h : ∀ i, i < 2 ^ m → f i = g i) : al m f = al m g := by
  unfold al
  rw [sI_cong h]
theorem wd_cong {p q : Nat → Bool} : ∀ {n : Nat}, (∀ i, i < n → p i = q i) → wd p n = wd q n
  | 0, _ => rfl
  | n + 1, h => by rw [wd, wd, wd_cong (fun k hk => h k (by omega)), h n (by omega)]
theorem ea_cong {m : Nat} {f g : Nat → Int32} (h : ∀ i, i < 2 ^ m → f i = g i) : ea m f = ea m g := by
  unfold ea
  exact wd_cong (fun i hi => by rw [h i hi])
theorem hv_cong : ∀ (m r : Nat) {f g : Nat → Int32}, (∀ i, i < 2 ^ m → f i = g i) → hv m r f = hv m r g
  | 0, r, f, g, h => by rw [hv, hv, al_cong h, ea_cong h]
  | m + 1, r, f, g, h => by
    have hp : 2 ^ (m + 1) = 2 ^ m + 2 ^ m := by rw [Nat.pow_succ]; omega
    have e1 : hv m (r - 1) (fun i => les (f i) (f (i + 2 ^ m))) = hv m (r - 1) (fun i => les (g i) (g (i + 2 ^ m))) := hv_cong m (r - 1) (fun i hi => by
      show les _ _ = les _ _
      rw [h i (by omega), h (i + 2 ^ m) (by omega)])
    have e2 : hv m r (tog f (2 ^ m) (hv m (r - 1) (fun i => les (g i) (g (i + 2 ^ m))))) = hv m r (tog g (2 ^ m) (hv m (r - 1) (fun i => les (g i) (g (i + 2 ^ m))))) := hv_cong m r (fun i hi => by
      unfold tog
      rw [h i (by omega), h (i + 2 ^ m) (by omega)])
    rw [hv, hv, al_cong h, ea_cong h, e1, e2]
theorem or_0 (x : Int32) : x ||| 0 = x := Int32.or_zero
/-! ===== the class ===== -/
theorem q_allAlike {σ : wx_Z} {m : Nat} {f : Nat → Int32} {K : Int32 → wx_Z → Prop} (h5 : m ≤ 5) (hf : ∀ i, i < 2 ^ m → σ (48 + m) i = f i) (hK : K (al m f) σ) : wpX2_allAlike σ (nI m) K := by
  have hp := p2_le h5
  unfold al at hK
  intro t3 e3
  rw [sh1 m (by omega)] at e3
  rw [e3]
  have L : ∀ (d i : Nat), i + d = 2 ^ m → wpX2_allAlike_9 K (d + 1) σ (nI m) (nI (2 ^ m)) (sI f i) (nI i) := by
    intro d
    induction d with
    | zero =>
      intro i hi
      have hi : i = 2 ^ m := by omega
      subst hi
      unfold wpX2_allAlike_9
      refine ⟨fun _ => ⟨fun q => ?_, fun q => ?_⟩, fun q => absurd (Int32.le_refl _) q⟩
      · apply q_lowest
        rw [if_neg (fun z => nn0.mpr z q)] at hK
        exact hK
      · rw [if_pos (nn0.mp q)] at hK
        exact hK
    | succ d ih =>
      intro i hi
      unfold wpX2_allAlike_9
      refine ⟨fun q => ?_, fun _ => ⟨vi (by omega), vi (by omega), fun t26 e26 t27 e27 => ?_⟩⟩
      · rw [nI_leI (by omega) (by omega)] at q
        omega
      · rw [cln (by omega), cln (by omega), hf i (by omega)] at e26
        rw [e26, e27, nI_1]
        exact ih (i + 1) (by omega)
  exact ⟨2 ^ m + 1, L (2 ^ m) 0 (by omega)⟩
theorem q_eachAlone {σ : wx_Z} {m : Nat} {f : Nat → Int32} {K : Int32 → wx_Z → Prop} (h5 : m ≤ 5) (hf : ∀ i, i < 2 ^ m → σ (48 + m) i = f i) (hK : K (ea m f) σ) : wpX2_eachAlone σ (nI m) K := by
  have hp := p2_le h5
  have L : ∀ (d i : Nat), i + d = 2 ^ m → wpX2_eachAlone_4 K (d + 1) σ (nI m) (wd (fun i => decide (¬ 0 ≤ f i)) i) (nI i) := by
    intro d
    induction d with
    | zero =>
      intro i hi
      have hi : i = 2 ^ m := by omega
      subst hi
      unfold wpX2_eachAlone_4
      rw [sh1 m (by omega)]
      exact ⟨fun _ => hK, fun q => absurd (Int32.le_refl _) q⟩
    | succ d ih =>
      intro i hi
      unfold wpX2_eachAlone_4
      rw [sh1 m (by omega), cln (by omega), cln (by omega), hf i (by omega)]
      refine ⟨fun q => ?_, fun _ => ⟨vi (by omega), vi (by omega), fun q t28 e28 => ?_, fun q t27 e27 t28 e28 => ?_⟩⟩
      · rw [nI_leI (by omega) (by omega)] at q
        omega
      · have ih2 := ih (i + 1) (by omega)
        rw [wd, decide_eq_false (fun z => z q), if_neg (by decide), or_0] at ih2
        rw [e28, nI_1]; exact ih2
      · have ih2 := ih (i + 1) (by omega)
        rw [wd, decide_eq_true q, if_pos rfl] at ih2
        rw [e27, e28, nI_1]; exact ih2
  exact ⟨2 ^ m + 1, L (2 ^ m) 0 (by omega)⟩
theorem min_ab (x y : Int32) : (if ab y < ab x then ab y else ab x) = if ab y ≤ ab x then ab y else ab x := by
  by_cases q : ab y ≤ ab x
  · rw [if_pos q]
    by_cases q2 : ab y < ab x
    · rw [if_pos q2]
    · rw [if_neg q2]
      exact Int32.le_antisymm (Int32.not_lt.mp q2) q
  · rw [if_neg q, if_neg (fun z => q (fa_of_lt z).1)]
theorem q_putLesser {σ : wx_Z} {m : Nat} {f : Nat → Int32} {K : wx_Z → Prop} (h5 : m + 1 ≤ 5) (hf : ∀ i, i < 2 ^ (m + 1) → σ (48 + (m + 1)) i = f i) (hK : ∀ σ', fr [48 + m] σ σ' → (∀ i, i < 2 ^ m → σ' (48 + m) i = les (f i) (f (i + 2 ^ m))) → K σ') : wpX2_putLesser σ (nI (m + 1)) K := by
  have hp := p2_le h5
  have h2 : 2 ^ (m + 1) = 2 ^ m + 2 ^ m := by rw [Nat.pow_succ]; omega
  intro t5 e5
  rw [nI_pred, sh1 m (by omega)] at e5
  rw [e5]
  have L : ∀ (d i : Nat) (σ' : wx_Z), i + d = 2 ^ m → fr [48 + m] σ σ' → (∀ j, j < i → σ' (48 + m) j = les (f j) (f (j + 2 ^ m))) → wpX2_putLesser_8 K (d + 1) σ' (nI (m + 1)) (nI (2 ^ m)) (nI i) := by
    intro d
    induction d with
    | zero =>
      intro i σ' hi hfr h1
      have hi : i = 2 ^ m := by omega
      subst hi
      unfold wpX2_putLesser_8
      exact ⟨fun _ => hK σ' hfr h1, fun q => absurd (Int32.le_refl _) q⟩
    | succ d ih =>
      intro i σ' hi hfr h1
      have er : σ' (48 + (m + 1)) = σ (48 + (m + 1)) := hfr _ (by simp)
      unfold wpX2_putLesser_8
      refine ⟨fun q => ?_, fun _ => ?_⟩
      · rw [nI_leI (by omega) (by omega)] at q
        omega
      · rw [nI_add, cln (by omega), cln (by omega), cln (by omega), er, hf i (by omega), hf (i + 2 ^ m) (by omega), nI_pred, cln (by omega)]
        refine ⟨vi (by omega), vi (by omega), vi (by omega), vi (by omega), fun t33 e33 t37 e37 t42 e42 t45 e45 => ⟨vi (by omega), ?_⟩⟩
        rw [e33, ab_0] at e42
        rw [ab_0] at e37
        rw [e42, e37, min_ab] at e45
        have fin : ∀ u, u = les (f i) (f (i + 2 ^ m)) → wpX2_putLesser_8 K (d + 1) (wx_up σ' (48 + m) i u) (nI (m + 1)) (nI (2 ^ m)) (nI (i + 1)) := by
          intro u hu
          refine ih (i + 1) _ (by omega) (hfr.up (by simp)) ?_
          intro j hj
          by_cases q : j = i
          · subst q; rw [up_s]; exact hu
          · rw [up_k q]; exact h1 j (by omega)
        have g79 : ∀ a b : Bool, decide (0 ≤ f i) = !a → decide (0 ≤ f (i + 2 ^ m)) = !b → wpX2_putLesser_79 K (wpX2_putLesser_8 K (d + 1)) σ' (nI (m + 1)) (nI (2 ^ m)) (nI i) t45 m (nI i) (b2i a) (b2i b) := by
          intro a b ha hb
          unfold wpX2_putLesser_79
          rw [b2i_inj, cln (by omega)]
          refine ⟨fun q => ⟨vi (by omega), fun σ90 e90 t91 e91 => ?_⟩, fun q => ⟨vi (by omega), fun σ90 e90 t91 e91 => ?_⟩⟩
          · rw [e90, e91, nI_1]
            refine fin _ ?_
            unfold les
            rw [ha, hb, if_neg (fun z => q (Bool.not_inj z)), e45]
          · rw [e90, e91, nI_1]
            refine fin _ ?_
            unfold les
            rw [ha, hb, if_pos (by rw [q]), e45]
        have g69 : ∀ a : Bool, decide (0 ≤ f i) = !a → wpX2_putLesser_69 K (wpX2_putLesser_8 K (d + 1)) σ' (nI (m + 1)) (nI (2 ^ m)) (nI i) t33 t45 m (nI i) (b2i a) := by
          intro a ha
          unfold wpX2_putLesser_69
          rw [e33]
          exact ⟨fun q => g79 a false ha (decide_eq_true q), fun q => g79 a true ha (decide_eq_false q)⟩
        exact ⟨fun q => g69 false (decide_eq_true q), fun q => g69 true (decide_eq_false q)⟩
  exact ⟨2 ^ m + 1, L (2 ^ m) 0 σ (by omega) fr.rf (fun j hj => absurd hj (by omega))⟩
theorem q_putTogether {σ : wx_Z} {m : Nat} {f : Nat → Int32} {a : Int32} {K : wx_Z → Prop} (h5 : m + 1 ≤ 5) (hf : ∀ i, i < 2 ^ (m + 1) → σ (48 + (m + 1)) i = f i) (hK : ∀ σ', fr [48 + m] σ σ' → (∀ i, i < 2 ^ m → σ' (48 + m) i = tog f (2 ^ m) a i) → K σ') : wpX2_putTogether σ (nI (m + 1)) a K := by
  have hp := p2_le h5
  have h2 : 2 ^ (m + 1) = 2 ^ m + 2 ^ m := by rw [Nat.pow_succ]; omega
  intro t5 e5
  rw [nI_pred, sh1 m (by omega)] at e5
  rw [e5]
  have L : ∀ (d i : Nat) (σ' : wx_Z), i + d = 2 ^ m → fr [48 + m] σ σ' → (∀ j, j < i → σ' (48 + m) j = tog f (2 ^ m) a j) → wpX2_putTogether_9 K (d + 1) σ' (nI (m + 1)) a (nI (2 ^ m)) (nI i) := by
    intro d
    induction d with
    | zero =>
      intro i σ' hi hfr h1
      have hi : i = 2 ^ m := by omega
      subst hi
      unfold wpX2_putTogether_9
      exact ⟨fun _ => hK σ' hfr h1, fun q => absurd (Int32.le_refl _) q⟩
    | succ d ih =>
      intro i σ' hi hfr h1
      have er : σ' (48 + (m + 1)) = σ (48 + (m + 1)) := hfr _ (by simp)
      unfold wpX2_putTogether_9
      refine ⟨fun q => ?_, fun _ => ?_⟩
      · rw [nI_leI (by omega) (by omega)] at q
        omega
      · rw [nI_add, cln (by omega), cln (by omega), cln (by omega), er, hf i (by omega), hf (i + 2 ^ m) (by omega), nI_pred, cln (by omega), bit_u _ (by omega), b2i_1]
        refine ⟨vi (by omega), vi (by omega), fun t26 e26 => ⟨vi (by omega), vi (by omega), vi (by omega), fun q => ⟨vi (by omega), fun σ66 e66 t67 e67 => ?_⟩, fun q => ⟨vi (by omega), fun σ66 e66 t67 e67 => ?_⟩⟩⟩
        · rw [cln (by omega)] at e66
          rw [e66, e67, nI_1]
          refine ih (i + 1) _ (by omega) (hfr.up (by simp)) ?_
          intro j hj
          by_cases q2 : j = i
          · subst q2; rw [up_s, e26]; unfold tog; rw [if_neg q]
          · rw [up_k q2]; exact h1 j (by omega)
        · rw [cln (by omega)] at e66
          rw [e66, e67, nI_1]
          refine ih (i + 1) _ (by omega) (hfr.up (by simp)) ?_
          intro j hj
          by_cases q2 : j = i
          · subst q2; rw [up_s, e26]; unfold tog; rw [if_pos q]
          · rw [up_k q2]; exact h1 j (by omega)
  exact ⟨2 ^ m + 1, L (2 ^ m) 0 σ (by omega) fr.rf (fun j hj => absurd hj (by omega))⟩
def fH (m : Nat) (σ σ' : wx_Z) : Prop := ∀ c, ¬ (48 ≤ c ∧ c < 48 + m) → σ' c = σ c
theorem q_wordFor : ∀ (m r d : Nat) {σ : wx_Z} {f : Nat → Int32} {K : Int32 → wx_Z → Prop}, m ≤ 5 → r ≤ m → m < d → (∀ i, i < 2 ^ m → σ (48 + m) i = f i) → (∀ σ', fH m σ σ' → K (hv m r f) σ') → wpX2_wordFor d σ (nI r) (nI m) K
  | m, r, 0, _, _, _, _, _, h, _, _ => absurd h (by omega)
  | 0, r, d + 1, σ, f, K, h5, hr, hd, hf, hK => by
    have hr : r = 0 := by omega
    subst hr
    refine ⟨fun q => absurd q (by decide), fun _ => ?_⟩
    apply q_allAlike h5 hf
    exact hK σ (fun _ _ => rfl)
  | m + 1, r, d + 1, σ, f, K, h5, hr, hd, hf, hK => by
    have h2 : 2 ^ (m + 1) = 2 ^ m + 2 ^ m := by rw [Nat.pow_succ]; omega
    show (0 < nI r → _) ∧ (¬ 0 < nI r → _)
    rw [show (0 : Int32) = nI 0 from rfl, nI_ltI (by omega) (by omega), nI_ltI (by omega) (by omega)]
    refine ⟨fun q => ⟨fun q2 => ?_, fun q2 => ?_⟩, fun q => ?_⟩
    · obtain ⟨r', rfl⟩ : ∃ r', r = r' + 1 := ⟨r - 1, by omega⟩
      apply q_putLesser h5 hf
      intro σ1 f1 g1
      rw [nI_pred, nI_pred]
      refine q_wordFor m r' d (by omega) (by omega) (by omega) g1 (fun σ2 f2 => ?_)
      have hf2 : ∀ i, i < 2 ^ (m + 1) → σ2 (48 + (m + 1)) i = f i := fun i hi => by
        rw [f2 _ (by omega), f1 _ (by simp)]
        exact hf i hi
      apply q_putTogether h5 hf2
      intro σ3 f3 g3
      rw [sh1 m (by omega)]
      refine q_wordFor m (r' + 1) d (by omega) (by omega) (by omega) g3 (fun σ4 f4 => ?_)
      have hfin := hK σ4 (fun c hc => by
        rw [f4 c (by omega), f3 c (by simp; omega), f2 c (by omega), f1 c (by simp; omega)])
      rw [hv, if_neg (by omega), if_neg (by omega)] at hfin
      exact hfin
    · have hr2 : r = m + 1 := by omega
      subst hr2
      apply q_eachAlone h5 hf
      have hfin := hK σ (fun _ _ => rfl)
      rw [hv, if_neg (by omega), if_pos rfl] at hfin
      exact hfin
    · have hr2 : r = 0 := by omega
      subst hr2
      apply q_allAlike h5 hf
      have hfin := hK σ (fun _ _ => rfl)
      rw [hv, if_pos rfl] at hfin
      exact hfin
theorem q_solve {σ : wx_Z} {g o m : Nat} {K : Int32 → wx_Z → Prop} (hg : g < 10) (h : CO σ g o m) (hK : ∀ σ', fH 6 σ σ' → K (hv m o (σ (cSo g))) σ') : wpX2_solve g σ K := by
  have h5 := h.2.2.2.2.2.2
  have hom := h.2.2.2.2.2.1
  have hp := p2_le h5
  unfold wpX2_solve
  rw [h.2.1, h.2.2.1, cln (by omega), cln (by omega), show Int32.toNatClampNeg 0 = 0 from rfl]
  refine ⟨vi (by omega), ⟨by decide, by decide, nI_pos (by omega), by omega, by omega⟩, fun σ1 e1 => ?_⟩
  have n1 : cCo g ≠ 48 + m := by unfold cCo; omega
  have er : ∀ c, c ≠ 48 + m → σ1 c = σ c := fun c hc => by
    rw [e1]
    unfold va_up
    rw [if_neg hc]
  rw [er _ n1, h.1, h.2.1]
  have hrow : ∀ i, i < 2 ^ m → σ1 (48 + m) i = σ (cSo g) i := fun i hi => by
    rw [e1]
    unfold va_up
    rw [if_pos rfl]
    unfold va_cpy
    rw [if_pos (by omega)]
    rw [show 0 + (i - 0) = i by omega]
  refine q_wordFor m o 6 h5 hom (by omega) hrow (fun σ2 f2 => ?_)
  exact hK σ2 (fun c hc => by rw [f2 c (by omega), er c (by omega)])

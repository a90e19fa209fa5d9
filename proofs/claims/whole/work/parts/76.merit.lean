/-! ===== merits ===== -/
def mf (f : Nat → Int32) (w : Int32) (i : Nat) : Int32 := if bt w i then -f i else f i
theorem k_meritOf {τ : wx_Z} {m : Nat} {f : Nat → Int32} {w : Int32} {K : Int32 → wx_Z → Prop} (hm : τ 1 1 = nI m) (h5 : m ≤ 5) (hf : ∀ i, i < 32 → τ 1 (3 + i) = f i) (hK : K (sI (mf f w) (2 ^ m)) τ) : wpX9_meritOf τ w K := by
  have hp := p2_le h5
  have L : ∀ (d i : Nat), i + d = 2 ^ m → wpX9_meritOf_4 K (d + 1) τ w (sI (mf f w) i) (nI i) := by
    intro d
    induction d with
    | zero =>
      intro i hi
      have hi : i = 2 ^ m := by omega
      subst hi
      unfold wpX9_meritOf_4
      apply k_places hm h5
      exact ⟨fun _ => hK, fun q => absurd (Int32.le_refl _) q⟩
    | succ d ih =>
      intro i hi
      unfold wpX9_meritOf_4
      apply k_places hm h5
      refine ⟨fun q => ?_, fun _ => ?_⟩
      · rw [nI_leI (by omega) (by omega)] at q
        omega
      · apply k_has (by omega)
        rw [b2i_0]
        unfold wpX9_softOf
        rw [nI_3, cln (by omega), hf i (by omega)]
        have ih2 := ih (i + 1) (by omega)
        rw [sI] at ih2
        refine ⟨fun q => ⟨vi (by omega), fun t36 e36 t37 e37 => ?_⟩, fun q => ⟨vi (by omega), fun t36 e36 t37 e37 => ?_⟩⟩
        · rw [show mf f w i = f i by unfold mf; rw [q]; rfl] at ih2
          rw [e36, e37, nI_1]; exact ih2
        · rw [show mf f w i = -f i by
            unfold mf
            cases hb : bt w i
            · exact absurd hb q
            · rfl] at ih2
          rw [e36, e37, nI_1]; exact ih2
  exact ⟨2 ^ m + 1, L (2 ^ m) 0 (by omega)⟩
theorem sI_split (g : Nat → Int32) (a : Nat) : ∀ n, sI g (a + n) = sI g a + sI (fun k => g (a + k)) n
  | 0 => (Int32.add_zero _).symm
  | n + 1 => by
    show sI g (a + n) + g (a + n) = sI g a + (sI (fun k => g (a + k)) n + g (a + n))
    rw [sI_split g a n, Int32.add_assoc]
theorem sI_more {g : Nat → Int32} {n : Nat} : ∀ d, (∀ k, n ≤ k → k < n + d → g k = 0) → sI g (n + d) = sI g n
  | 0, _ => rfl
  | d + 1, h => by
    show sI g (n + d) + g (n + d) = _
    rw [sI_more d (fun k h1 h2 => h k h1 (by omega)), h (n + d) (by omega) (by omega), Int32.add_zero]
theorem sI_one {g g' : Nat → Int32} {t : Nat} : ∀ n, t < n → (∀ i, i < n → i ≠ t → g i = g' i) → sI g n = sI g' n - g' t + g t
  | 0, h, _ => absurd h (by omega)
  | n + 1, h, hg => by
    show sI g n + g n = sI g' n + g' n - g' t + g t
    by_cases e : t = n
    · subst e
      rw [sI_cong (fun i hi => hg i (by omega) (by omega)), Int32.add_sub_cancel]
    · rw [sI_one n (by omega) (fun i hi hn => hg i (by omega) hn), hg n (by omega) (fun z => e z.symm)]
      grind
def wtF (f : Nat → Int32) (b v : Nat) : Int32 := sI (fun i => if v.testBit i then -f (8 * b + i) else f (8 * b + i)) 8
theorem wt_step {f : Nat → Int32} {b v : Nat} (h0 : 0 < v) (h1 : v < 256) : wtF f b v = wtF f b (v &&& (v - 1)) - 2 * f (8 * b + tz 16 v) := by
  have ht := tz_lt 16 v 8 h0 h1 (by omega)
  have hb := tz_bits 16 v h0 (by omega)
  have hat : v.testBit (tz 16 v) = true ∧ (v - 1).testBit (tz 16 v) = false := by
    have := hb (tz 16 v)
    rw [decide_eq_true (Nat.le_refl _), decide_eq_false (Nat.lt_irrefl _)] at this
    revert this
    cases v.testBit (tz 16 v) <;> cases (v - 1).testBit (tz 16 v) <;> simp
  have hne : ∀ i, i ≠ tz 16 v → (v &&& (v - 1)).testBit i = v.testBit i := by
    intro i hi
    rw [Nat.testBit_and]
    have := hb i
    by_cases q : i < tz 16 v
    · rw [decide_eq_true q] at this
      revert this
      cases v.testBit i <;> cases (v - 1).testBit i <;> simp
    · rw [decide_eq_false q, decide_eq_false (by omega)] at this
      revert this
      cases v.testBit i <;> cases (v - 1).testBit i <;> simp
  unfold wtF
  rw [sI_one (t := tz 16 v) (g' := fun i => if (v &&& (v - 1)).testBit i then -f (8 * b + i) else f (8 * b + i)) 8 ht (fun i hi hn => by
    show (if v.testBit i = true then _ else _) = if (v &&& (v - 1)).testBit i = true then _ else _
    rw [hne i hn])]
  have e1 : (v &&& (v - 1)).testBit (tz 16 v) = false := by rw [Nat.testBit_and, hat.1, hat.2]; rfl
  rw [hat.1, e1, if_pos rfl, if_neg (by decide)]
  grind
def WS (σ : wx_Z) (f : Nat → Int32) : Prop := ∀ b, b < 4 → ∀ v, v < 256 → σ 55 (256 * b + v) = wtF f b v
theorem q_weigh {σ : wx_Z} {g : Nat} {K : wx_Z → Prop} (hg : g < 10) (hK : ∀ σ', fr [55] σ σ' → WS σ' (σ (cSo g)) → K σ') : wpX3_weigh g σ K := by
  have nso : cSo g ∉ [55] := by unfold cSo; simp; omega
  generalize hf : σ (cSo g) = f at hK
  have inner : ∀ (C : wx_Z → Int32 → Prop) (b : Nat), b < 4 → (∀ σ', fr [55] σ σ' → (∀ b', b' < b + 1 → ∀ v, v < 256 → σ' 55 (256 * b' + v) = wtF f b' v) → C σ' (nI (b + 1))) → ∀ (d v : Nat) (σ' : wx_Z), v + d = 256 → 0 < v → fr [55] σ σ' → (∀ b', b' < b → ∀ v, v < 256 → σ' 55 (256 * b' + v) = wtF f b' v) → (∀ v', v' < v → σ' 55 (256 * b + v') = wtF f b v') → wpX3_weigh_57 g K C (d + 1) σ' (nI b) (nI (256 * b)) (nI v) := by
    intro C b hb hC d
    induction d with
    | zero =>
      intro v σ' hv h0 hfr hbs hvs
      have hv : v = 256 := by omega
      subst hv
      unfold wpX3_weigh_57
      refine ⟨fun _ t e => ?_, fun q => absurd (by decide) q⟩
      rw [e, nI_1]
      refine hC σ' hfr (fun b' hb' v hv => ?_)
      by_cases q : b' = b
      · subst q; exact hvs v hv
      · exact hbs b' (by omega) v hv
    | succ d ih =>
      intro v σ' hv h0 hfr hbs hvs
      have ht := tz_lt 16 v 8 h0 (by omega) (by omega)
      have hlt : v &&& (v - 1) < v := Nat.lt_of_le_of_lt Nat.and_le_right (by omega)
      unfold wpX3_weigh_57
      refine ⟨fun q => ?_, fun _ => ?_⟩
      · rw [show (256 : Int32) = nI 256 from rfl, nI_leI (by omega) (by omega)] at q
        omega
      · apply q_ntzN h0 (by omega)
        intro t73 e73
        have e73 : t73 = nI (tz 16 v) := by
          rw [e73]
          have := fa_mask (tz 16 v) 3
          rw [Nat.mod_eq_of_lt (by omega)] at this
          exact this
        have ep : nI v &&& (nI v - 1) = nI (v &&& (v - 1)) := by
          obtain ⟨v', rfl⟩ : ∃ v', v = v' + 1 := ⟨v - 1, by omega⟩
          rw [nI_pred, fa_and, Nat.add_sub_cancel]
        rw [ep, e73, show (8 : Int32) = nI 8 from rfl, pk_mul, nI_add, nI_add, nI_add, cln (by omega), cln (by omega), cln (by omega)]
        refine ⟨vi (by omega), vi (by omega), vi (by omega), fun σ1 e1 t e => ?_⟩
        rw [hvs _ hlt, hfr _ nso, hf, ← wt_step h0 (by omega)] at e1
        rw [e, nI_1, e1]
        refine ih (v + 1) _ (by omega) (by omega) (hfr.up (by simp)) ?_ ?_
        · intro b' hb' v2 hv2
          rw [up_k (by omega)]; exact hbs b' hb' v2 hv2
        · intro v2 hv2
          by_cases q : v2 = v
          · subst q; rw [up_s]
          · rw [up_k (by omega)]; exact hvs v2 (by omega)
  have mid : ∀ (C : wx_Z → Int32 → Prop) (b : Nat), b < 4 → (∀ σ', fr [55] σ σ' → (∀ b', b' < b + 1 → ∀ v, v < 256 → σ' 55 (256 * b' + v) = wtF f b' v) → C σ' (nI (b + 1))) → ∀ (d i : Nat) (σ' : wx_Z), i + d = 8 → fr [55] σ σ' → (∀ b', b' < b → ∀ v, v < 256 → σ' 55 (256 * b' + v) = wtF f b' v) → σ' 55 (256 * b) = sI (fun i => f (8 * b + i)) i → wpX3_weigh_23 g K C (d + 1) σ' (nI b) (nI (256 * b)) (nI i) := by
    intro C b hb hC d
    induction d with
    | zero =>
      intro i σ' hi hfr hbs hs
      have hi : i = 8 := by omega
      subst hi
      unfold wpX3_weigh_23
      refine ⟨fun _ => ⟨256, ?_⟩, fun q => absurd (by decide) q⟩
      refine inner C b hb hC 255 1 σ' (by omega) (by omega) hfr hbs (fun v' hv' => ?_)
      have : v' = 0 := by omega
      subst this
      rw [Nat.add_zero, hs]
      unfold wtF
      apply sI_cong
      intro i hi
      show _ = if (0 : Nat).testBit i = true then _ else _
      rw [Nat.zero_testBit, if_neg (by decide)]
    | succ d ih =>
      intro i σ' hi hfr hbs hs
      unfold wpX3_weigh_23
      refine ⟨fun q => ?_, fun _ => ?_⟩
      · rw [show (8 : Int32) = nI 8 from rfl, nI_leI (by omega) (by omega)] at q
        omega
      · rw [show (8 : Int32) = nI 8 from rfl, pk_mul, nI_add, cln (by omega), cln (by omega), hs, hfr _ nso, hf]
        refine ⟨vi (by omega), vi (by omega), vi (by omega), fun σ1 e1 t e => ?_⟩
        rw [e, nI_1, e1]
        refine ih (i + 1) _ (by omega) (hfr.up (by simp)) ?_ ?_
        · intro b' hb' v2 hv2
          rw [up_k (by omega)]; exact hbs b' hb' v2 hv2
        · rw [up_s]; rfl
  have L : ∀ (d b : Nat) (σ' : wx_Z), b + d = 4 → fr [55] σ σ' → (∀ b', b' < b → ∀ v, v < 256 → σ' 55 (256 * b' + v) = wtF f b' v) → wpX3_weigh_2 g K (d + 1) σ' (nI b) := by
    intro d
    induction d with
    | zero =>
      intro b σ' hb hfr hbs
      have hb : b = 4 := by omega
      subst hb
      unfold wpX3_weigh_2
      exact ⟨fun _ => hK σ' hfr hbs, fun q => absurd (by decide) q⟩
    | succ d ih =>
      intro b σ' hb hfr hbs
      unfold wpX3_weigh_2
      refine ⟨fun q => ?_, fun _ t12 e12 => ?_⟩
      · rw [show (4 : Int32) = nI 4 from rfl, nI_leI (by omega) (by omega)] at q
        omega
      · rw [show (256 : Int32) = nI 256 from rfl, pk_mul, Nat.mul_comm] at e12
        rw [e12, cln (by omega)]
        refine ⟨vi (by omega), fun σ1 e1 => ⟨9, ?_⟩⟩
        rw [e1]
        refine mid _ b (by omega) (fun σ'' h1 h2 => ih (b + 1) σ'' (by omega) h1 h2) 8 0 _ (by omega) (hfr.up (by simp)) ?_ ?_
        · intro b' hb' v2 hv2
          rw [up_k (by omega)]; exact hbs b' hb' v2 hv2
        · rw [up_s]; rfl
  exact ⟨5, L 4 0 σ (by omega) fr.rf (fun b hb => absurd hb (by omega))⟩
theorem wt_byte {f : Nat → Int32} {w : Int32} {b : Nat} (hb : b < 4) : wtF f b (uI w / 2 ^ (8 * b) % 2 ^ 8) = sI (fun k => mf f w (8 * b + k)) 8 := by
  unfold wtF
  apply sI_cong
  intro i hi
  show (if (uI w / 2 ^ (8 * b) % 2 ^ 8).testBit i = true then _ else _) = mf f w (8 * b + i)
  unfold mf
  rw [bt_uI, Nat.testBit_mod_two_pow, decide_eq_true hi, Bool.true_and, Nat.testBit_div_two_pow, Nat.add_comm i]
theorem q_sumFor {σ : wx_Z} {m : Nat} {f : Nat → Int32} {w : Int32} {K : Int32 → wx_Z → Prop} (h5 : m ≤ 5) (hs : WS σ f) (hz : ∀ i, 2 ^ m ≤ i → i < 32 → f i = 0) (hK : K (sI (mf f w) (2 ^ m)) σ) : wpX3_sumFor σ w K := by
  have hp := p2_le h5
  have hU := uI_lt w
  have hw := nI_uI w
  have i0 : w &&& 255 = nI (256 * 0 + uI w / 2 ^ (8 * 0) % 2 ^ 8) := by
    rw [← hw]
    have := fa_mask (uI w) 8
    rw [hw]
    rw [hw] at this
    rw [show 256 * 0 + uI w / 2 ^ (8 * 0) % 2 ^ 8 = uI w % 2 ^ 8 by simp]
    exact this
  have i1 : 256 + (wx_us w 8 &&& 255) = nI (256 * 1 + uI w / 2 ^ (8 * 1) % 2 ^ 8) := by
    have := us_nI (n := uI w) (k := 8) hU (by omega)
    rw [hw] at this
    rw [show (8 : Int32) = nI 8 from rfl, this]
    have h2 := fa_mask (uI w / 2 ^ 8) 8
    rw [show (255 : Int32) = nI (2 ^ 8 - 1) from rfl, h2, show (256 : Int32) = nI 256 from rfl, nI_add]
  have i2 : 512 + (wx_us w 16 &&& 255) = nI (256 * 2 + uI w / 2 ^ (8 * 2) % 2 ^ 8) := by
    have := us_nI (n := uI w) (k := 16) hU (by omega)
    rw [hw] at this
    rw [show (16 : Int32) = nI 16 from rfl, this]
    have h2 := fa_mask (uI w / 2 ^ 16) 8
    rw [show (255 : Int32) = nI (2 ^ 8 - 1) from rfl, h2, show (512 : Int32) = nI 512 from rfl, nI_add]
  have i3 : 768 + wx_us w 24 = nI (256 * 3 + uI w / 2 ^ (8 * 3) % 2 ^ 8) := by
    have := us_nI (n := uI w) (k := 24) hU (by omega)
    rw [hw] at this
    rw [show (24 : Int32) = nI 24 from rfl, this, show (768 : Int32) = nI 768 from rfl, nI_add, Nat.mod_eq_of_lt (by omega)]
  have b0 : uI w / 2 ^ (8 * 0) % 2 ^ 8 < 256 := Nat.mod_lt _ (by decide)
  have b1 : uI w / 2 ^ (8 * 1) % 2 ^ 8 < 256 := Nat.mod_lt _ (by decide)
  have b2 : uI w / 2 ^ (8 * 2) % 2 ^ 8 < 256 := Nat.mod_lt _ (by decide)
  have b3 : uI w / 2 ^ (8 * 3) % 2 ^ 8 < 256 := Nat.mod_lt _ (by decide)
  unfold wpX3_sumFor
  rw [i0, i1, i2, i3, cln (by omega), cln (by omega), cln (by omega), cln (by omega), hs 0 (by omega) _ b0, hs 1 (by omega) _ b1, hs 2 (by omega) _ b2, hs 3 (by omega) _ b3]
  refine ⟨vi (by omega), vi (by omega), vi (by omega), vi (by omega), ?_⟩
  rw [wt_byte (by omega), wt_byte (by omega), wt_byte (by omega), wt_byte (by omega)]
  have e : sI (mf f w) (2 ^ m) = sI (mf f w) 8 + sI (fun k => mf f w (8 + k)) 8 + sI (fun k => mf f w (16 + k)) 8 + sI (fun k => mf f w (24 + k)) 8 := by
    have := sI_more (g := mf f w) (n := 2 ^ m) (32 - 2 ^ m) (fun k h1 h2 => by
      unfold mf
      rw [hz k h1 (by omega)]
      cases bt w k <;> rfl)
    rw [← this, show 2 ^ m + (32 - 2 ^ m) = 8 + 8 + 8 + 8 by omega, sI_split, sI_split, sI_split]
  rw [e] at hK
  have z : (fun k => mf f w (8 * 0 + k)) = mf f w := funext fun k => by rw [show 8 * 0 + k = k by omega]
  rw [z]
  exact hK
/-! ===== the greatest merit ===== -/
def gr (M : Nat → Int32) : Nat → Int32
  | 0 => M 0
  | k + 1 => if gr M k < M (k + 1) then M (k + 1) else gr M k
theorem q_greatest {σ : wx_Z} {g o m : Nat} {f : Nat → Int32} {K : Int32 → wx_Z → Prop} (hg : g < 10) (h : CO σ g o m) (hl : (tl o m).length ≤ 16) (hs : WS σ f) (hz : ∀ i, 2 ^ m ≤ i → i < 32 → f i = 0) (hK : ∀ σ', fr [56, 57] σ σ' → K (gr (fun k => sI (mf f (gw m (tl o m) k)) (2 ^ m)) (2 ^ (tl o m).length - 1)) σ') : wpX7_greatest g σ K := by
  have h5 := h.2.2.2.2.2.2
  have hp := p2_16 hl
  have hpos := p2_pos (tl o m).length
  have ws : ∀ {σ'}, fr [56, 57] σ σ' → WS σ' f := fun hf b hb v hv => by rw [hf 55 (by decide)]; exact hs b hb v hv
  unfold wpX7_greatest
  apply q_prepare hg h hl
  intro σ2 f2 w2 z2
  generalize hG : gw m (tl o m) = G at hK
  apply q_sumFor h5 (ws f2) hz
  have L : ∀ (d k : Nat) (σ' : wx_Z), k + 1 + d = 2 ^ (tl o m).length → fr [56, 57] σ σ' → WK σ' m (tl o m) → σ' 56 2 = G k → wpX7_greatest_14 g K (d + 1) σ' (gr (fun k => sI (mf f (G k)) (2 ^ m)) k) (nI (k + 1)) := by
    intro d
    induction d with
    | zero =>
      intro k σ' hk hf hw hF
      unfold wpX7_greatest_14
      rw [hw.1, ← hk]
      refine ⟨fun _ => ?_, fun q => absurd (Int32.le_refl _) q⟩
      have := hK σ' hf
      rw [← hk] at this
      exact this
    | succ d ih =>
      intro k σ' hk hf hw hF
      unfold wpX7_greatest_14
      rw [hw.1]
      refine ⟨fun q => ?_, fun _ => ?_⟩
      · rw [nI_leI (by omega) (by omega)] at q
        omega
      · apply q_stepTo hl hw (by omega) (by rw [hG]; exact hF)
        rw [hG, up_s]
        have hf' : fr [56, 57] σ (wx_up σ' 56 2 (G (k + 1))) := hf.up (by simp)
        apply q_sumFor h5 (ws hf') hz
        intro t38 e38 t42 e42
        rw [e38, e42, nI_1]
        exact ih (k + 1) _ (by omega) hf' (hw.up (by decide)) (up_s _ _ _ _)
  refine ⟨2 ^ (tl o m).length + 1, ?_⟩
  obtain ⟨N, hN⟩ : ∃ N, 2 ^ (tl o m).length = N + 1 := ⟨2 ^ (tl o m).length - 1, by omega⟩
  have hG0 : G 0 = 0 := by rw [← hG]; rfl
  unfold wpX7_greatest_14
  rw [w2.1]
  refine ⟨fun q => ?_, fun _ => ?_⟩
  · rw [show (0 : Int32) = nI 0 from rfl, nI_leI (by omega) (by omega)] at q
    omega
  · apply q_step0
    rw [z2]
    apply q_sumFor h5 (ws f2) hz
    intro t38 e38 t42 e42
    rw [if_neg Int32.lt_irrefl] at e38
    have ih2 := L N 0 σ2 (by omega) f2 w2 (by rw [z2, hG0])
    rw [e38, e42, hN]
    rw [gr, hG0] at ih2
    exact ih2
theorem k_greatest {τ : wx_Z} {o m : Nat} {f : Nat → Int32} {K : Int32 → wx_Z → Prop} (ho : τ 1 0 = nI o) (hm : τ 1 1 = nI m) (hom : o ≤ m) (h5 : m ≤ 5) (hl : (tl o m).length ≤ 16) (hf : ∀ i, i < 32 → τ 1 (3 + i) = f i) (hK : ∀ τ', cmM τ τ' → K (gr (fun k => sI (mf f (gw m (tl o m) k)) (2 ^ m)) (2 ^ (tl o m).length - 1)) τ') : wpX9_greatest τ K := by
  have hp := p2_16 hl
  have hpos := p2_pos (tl o m).length
  unfold wpX9_greatest
  apply k_many ho hm hom h5
  intro τ0 d0 l0
  have d0 := md_MB d0
  apply k_laysBasis ((d0 1 0 rfl).trans ho) ((d0 1 1 rfl).trans hm) hom h5
  intro τ1 d1 b1
  have d1 := cm_Ba (d0.tr d1)
  have hm1 : τ1 1 1 = nI m := (d1 1 1 rfl).trans hm
  have hf1 : ∀ i, i < 32 → τ1 1 (3 + i) = f i := fun i hi => (d1 1 _ rfl).trans (hf i hi)
  generalize hG : gw m (tl o m) = G at hK
  apply k_meritOf hm1 h5 hf1
  have step : ∀ (n k : Nat), k + 1 < 2 ^ (tl o m).length → wpX9_greatest_20 K n τ1 (G (k + 1)) (nI (tl o m).length) (gr (fun k => sI (mf f (G k)) (2 ^ m)) (k + 1)) (nI (k + 2)) → ∃ n78, wpX9_greatest_40 K (wpX9_greatest_20 K n) n78 τ1 (G k) (nI (tl o m).length) (gr (fun k => sI (mf f (G k)) (2 ^ m)) k) (nI (k + 1)) (nI (k + 1) ^^^ (nI (k + 1) - 1)) 0 := by
    intro n k hk hC
    have ht := tz_lt 16 (k + 1) (tl o m).length (by omega) hk hl
    have f83 : wpX9_greatest_72 K (wpX9_greatest_20 K n) τ1 (G k ^^^ xw (bs m (tl o m)) (tz 16 (k + 1) + 1)) (nI (tl o m).length) (gr (fun k => sI (mf f (G k)) (2 ^ m)) k) (nI (k + 1)) := by
      have eg : G k ^^^ xw (bs m (tl o m)) (tz 16 (k + 1) + 1) = G (k + 1) := by rw [← hG]; rfl
      rw [eg]
      unfold wpX9_greatest_72
      apply k_meritOf hm1 h5 hf1
      rw [gr] at hC
      refine ⟨fun q t91 e91 => ?_, fun q => ?_⟩
      · rw [if_neg (Int32.not_lt.mpr q)] at hC
        rw [e91, nI_1]; exact hC
      · apply k_meritOf hm1 h5 hf1
        intro t91 e91
        rw [if_pos (Int32.not_le.mp q)] at hC
        rw [e91, nI_1]; exact hC
    have I : ∀ (e j : Nat), j + e = tz 16 (k + 1) + 1 → wpX9_greatest_40 K (wpX9_greatest_20 K n) (e + 1) τ1 (G k ^^^ xw (bs m (tl o m)) j) (nI (tl o m).length) (gr (fun k => sI (mf f (G k)) (2 ^ m)) k) (nI (k + 1)) (nI (k + 1) ^^^ (nI (k + 1) - 1)) (nI j) := by
      intro e
      induction e with
      | zero =>
        intro j hj
        have hj : j = tz 16 (k + 1) + 1 := by omega
        subst hj
        unfold wpX9_greatest_40
        refine ⟨fun _ => f83, fun q => ?_⟩
        apply k_has (by omega)
        rw [ch_bits (by omega) (by omega) (by omega), decide_eq_false (by omega)]
        exact ⟨fun _ => f83, fun z => absurd rfl z⟩
      | succ e ih3 =>
        intro j hj
        unfold wpX9_greatest_40
        refine ⟨fun q => ?_, fun _ => ?_⟩
        · rw [nI_leI (by omega) (by omega)] at q
          omega
        · apply k_has (by omega)
          rw [ch_bits (by omega) (by omega) (by omega), decide_eq_true (by omega)]
          refine ⟨fun z => absurd z (by decide), fun _ => ⟨vi (by omega), fun t76 e76 t77 e77 => ?_⟩⟩
          rw [e76, e77, nI_1, cln (by omega), b1 j (by omega), Int32.xor_assoc]
          exact ih3 (j + 1) (by omega)
    have := I (tz 16 (k + 1) + 1) 0 (by omega)
    have e0 : G k ^^^ xw (bs m (tl o m)) 0 = G k := Int32.xor_zero
    rw [e0] at this
    exact ⟨_, this⟩
  have L : ∀ (d k : Nat), k + 1 + d = 2 ^ (tl o m).length → wpX9_greatest_20 K (d + 1) τ1 (G k) (nI (tl o m).length) (gr (fun k => sI (mf f (G k)) (2 ^ m)) k) (nI (k + 1)) := by
    intro d
    induction d with
    | zero =>
      intro k hk
      unfold wpX9_greatest_20
      rw [sh1 _ (by omega), ← hk]
      refine ⟨fun _ => ?_, fun q => absurd (Int32.le_refl _) q⟩
      have := hK τ1 d1
      rw [← hk] at this
      exact this
    | succ d ih =>
      intro k hk
      unfold wpX9_greatest_20
      rw [sh1 _ (by omega)]
      refine ⟨fun q => ?_, fun _ t46 e46 => ?_⟩
      · rw [nI_leI (by omega) (by omega)] at q
        omega
      · rw [e46]
        exact step (d + 1) k (by omega) (ih (k + 1) (by omega))
  refine ⟨2 ^ (tl o m).length, ?_⟩
  obtain ⟨N, hN⟩ : ∃ N, 2 ^ (tl o m).length = N + 1 := ⟨2 ^ (tl o m).length - 1, by omega⟩
  have hG0 : G 0 = 0 := by rw [← hG]; rfl
  have := L N 0 (by omega)
  rw [gr, hG0] at this
  rw [hN]
  exact this
theorem fr_55 {σ σ' : wx_Z} (h : fr [55] σ σ') : fr scr σ σ' := h.mono (fun c hc => by simp at hc; subst hc; decide)
theorem e_merit {σ τ : wx_Z} (v : Int32) (h : RR σ τ) : wpX8_merit σ v (fun a σ' => wpX9_merit τ v (fun a' τ' => a = a' ∧ RR σ' τ')) := by
  obtain ⟨o, m, x, c, n, hx⟩ := id (RR.rx h)
  have h5 := hx.h5
  have lit : ((0 : Int64) = (0 : Int32).toInt64) ∧ ((2 : Int64) = (2 : Int32).toInt64) := ⟨rfl, rfl⟩
  have bad : ¬ (0 ≤ v ∧ v ≤ 2) → wpX8_refuseBad σ (-2) (fun r30 σ30 => wpX9_merit τ v (fun a' τ' => r30 = a' ∧ RR σ30 τ')) := by
    intro q
    apply q_bad
    show wpX9_merit τ v _
    unfold wpX9_merit
    rw [lit.1, lit.2]
    apply k_inI
    · intro h1 h2; exact absurd ⟨h1, h2⟩ q
    · intro _
      exact ⟨fun z => absurd rfl z, fun _ => k_bad ⟨rfl, R_bad h⟩⟩
  unfold wpX8_merit
  refine ⟨fun q => bad (fun z => absurd q (nn0.mpr z.1)), fun q => ⟨fun q2 => ?_, fun q2 => bad (fun z => q2 z.2)⟩⟩
  have q1 : 0 ≤ v := nn0.mp q
  have hz : ∀ i, 2 ^ m ≤ i → i < 32 → σ (cSo 0) i = 0 := hx.1.1.2.2.2
  have kin : ∀ K : Int32 → wx_Z → Prop, ((¬ v = 2 → wpX9_merit_38 K τ v) ∧ (v = 2 → (wpX9_isFew τ <| fun r25 σ25 => ((¬ r25 = 0 → wpX9_merit_38 K σ25 v) ∧ (r25 = 0 → (wpX9_no σ25 (-3) <| fun r34 σ34 => K r34 σ34)))))) → wpX9_merit τ v K := by
    intro K hK
    unfold wpX9_merit
    rw [lit.1, lit.2]
    apply k_inI _ (fun z => absurd ⟨q1, q2⟩ z)
    intro _ _
    exact ⟨fun _ => hK, fun z => absurd z (by decide)⟩
  refine ⟨fun q3 => ?_, fun q3 => ?_⟩
  · unfold wpX8_merit_41
    apply q_weigh (by omega)
    intro σ1 f1 s1
    have co1 : CO σ1 0 o m := hx.co.fr f1 (by decide) (by decide)
    refine ⟨fun _ => ⟨fun q4 => ?_, fun q4 => ?_⟩, fun z => absurd z q3⟩
    · unfold wpX8_halves
      apply q_solve (by omega) co1
      intro σ2 f2
      have s2 : WS σ2 (σ (cSo 0)) := fun b hb v hv => by rw [f2 55 (by decide)]; exact s1 b hb v hv
      apply q_sumFor h5 s2 hz
      refine kin _ ⟨fun _ => ⟨fun _ => ⟨fun q5 => ?_, fun _ => ?_⟩, fun z => absurd z q4⟩, fun z => absurd z q3⟩
      · exfalso
        obtain ⟨j, hj, rfl⟩ := nI_of2 (M := 2) (n := 2) rfl q q2
        rcases (show j = 0 ∨ j = 1 ∨ j = 2 by omega) with rfl | rfl | rfl
        · exact q4 rfl
        · exact q5 rfl
        · exact q3 rfl
      · apply k_halvesOf (f := σ (cSo 0)) hx.t0 hx.t1 hx.hom h5 (fun i hi => hx.ts hi)
        intro τ1 d1
        apply k_meritOf (f := σ (cSo 0)) ((d1 1 1 rfl).trans hx.t1) h5 (fun i hi => (d1 1 _ rfl).trans (hx.ts hi))
        refine ⟨?_, ((h.frC (fr_55 f1)).frC (fr_H f2)).frM d1⟩
        rw [f1 (cSo 0) (by decide)]
    · apply q_sumFor h5 s1 hz
      refine kin _ ⟨fun _ => ⟨fun z => absurd q4 z, fun _ => ?_⟩, fun z => absurd z q3⟩
      apply k_theWord
      apply k_meritOf (f := σ (cSo 0)) hx.t1 h5 (fun i hi => hx.ts hi)
      refine ⟨?_, h.frC (fr_55 f1)⟩
      rw [hx.tw, f1 (cSt 0) (by decide)]
  · apply q_canBeWalked hx.co
    · intro hl
      refine ⟨fun z => absurd rfl z, fun _ => ?_⟩
      apply q_no
      refine kin _ ⟨fun z => absurd q3 z, fun _ => ?_⟩
      apply k_isFew hx.t0 hx.t1 hx.hom h5 _ (fun z => absurd hl (by omega))
      intro _ τ1 d1
      exact ⟨fun z => absurd rfl z, fun _ => k_no ⟨rfl, R_no (h.frM d1)⟩⟩
    · intro hl
      refine ⟨fun _ => ?_, fun z => absurd z (by decide)⟩
      unfold wpX8_merit_41
      apply q_weigh (by omega)
      intro σ1 f1 s1
      have co1 : CO σ1 0 o m := hx.co.fr f1 (by decide) (by decide)
      refine ⟨fun z => absurd q3 z, fun _ => ?_⟩
      apply q_greatest (by omega) co1 hl s1 hz
      intro σ2 f2
      refine kin _ ⟨fun z => absurd q3 z, fun _ => ?_⟩
      apply k_isFew hx.t0 hx.t1 hx.hom h5 (fun z => absurd hl (by omega))
      intro _ τ1 d1
      refine ⟨fun _ => ?_, fun z => absurd z (by decide)⟩
      refine ⟨fun _ => ⟨fun _ => ?_, fun z => absurd (q3.symm.trans z) (by decide)⟩, fun z => absurd (q3.symm.trans z) (by decide)⟩
      apply k_greatest (f := σ (cSo 0)) ((d1 1 0 rfl).trans hx.t0) ((d1 1 1 rfl).trans hx.t1) hx.hom h5 hl (fun i hi => (d1 1 _ rfl).trans (hx.ts hi))
      intro τ2 d2
      exact ⟨rfl, (((h.frC (fr_55 f1)).frC (fr_56 f2)).frM d1).frM d2⟩
/-! ===== digest ===== -/
theorem e_digest {σ τ : wx_Z} (h : RR σ τ) : wpX8_digest σ (fun a σ' => wpX9_digest τ (fun a' τ' => a = a' ∧ RR σ' τ')) := by
  obtain ⟨o, m, x, c, n, hx⟩ := id (RR.rx h)
  have h5 := hx.h5
  have hp := p2_le h5
  have hpos := p2_pos m
  have co := hx.co
  obtain ⟨c1, c2, c3⟩ := hx.2.2.2
  obtain ⟨t1, t2, t3, t4⟩ := hx.2.2.1
  obtain ⟨p1, p2, p3, p4, p5, p6⟩ := hx.2.1
  have tld : ∀ j, j < 5 → ∃ v : Int32, (∀ K : Int32 → wx_Z → Prop, K v σ → wpX8_told σ (nI j) K) ∧ (∀ K : Int32 → wx_Z → Prop, K v τ → wpX9_toldOf τ (nI j) K) := by
    intro j hj
    rcases (show j = 0 ∨ j = 1 ∨ j = 2 ∨ j = 3 ∨ j = 4 by omega) with rfl | rfl | rfl | rfl | rfl
    · refine ⟨σ 0 8, fun K hK => ⟨fun _ => hK, fun z => absurd z (by decide), fun z => absurd z (by decide), fun z => absurd z (by decide), fun z => absurd z (by decide), fun z => absurd rfl z⟩, fun K hK => ⟨fun z => absurd z (by decide), fun _ => ⟨vi (n := 0) (by decide), ?_⟩⟩⟩
      rw [← c1] at hK; exact hK
    · refine ⟨σ 0 9, fun K hK => ⟨fun z => absurd z (by decide), fun _ => hK, fun z => absurd z (by decide), fun z => absurd z (by decide), fun z => absurd z (by decide), fun _ z => absurd rfl z⟩, fun K hK => ⟨fun z => absurd z (by decide), fun _ => ⟨vi (n := 1) (by decide), ?_⟩⟩⟩
      rw [← c2] at hK; exact hK
    · refine ⟨σ 0 10, fun K hK => ⟨fun z => absurd z (by decide), fun z => absurd z (by decide), fun _ => hK, fun z => absurd z (by decide), fun z => absurd z (by decide), fun _ _ z => absurd rfl z⟩, fun K hK => ⟨fun z => absurd z (by decide), fun _ => ⟨vi (n := 2) (by decide), ?_⟩⟩⟩
      rw [← c3] at hK; exact hK
    · refine ⟨σ 43 2, fun K hK => ⟨fun z => absurd z (by decide), fun z => absurd z (by decide), fun z => absurd z (by decide), fun _ => hK, fun z => absurd z (by decide), fun _ _ _ z => absurd rfl z⟩, fun K hK => ⟨fun _ => ⟨fun z => absurd rfl z, fun _ => ?_⟩, fun z => absurd (by decide) z⟩⟩
      rw [t2, ← t3] at hK; exact hK
    · refine ⟨σ 41 2, fun K hK => ⟨fun z => absurd z (by decide), fun z => absurd z (by decide), fun z => absurd z (by decide), fun z => absurd z (by decide), fun _ => hK, fun _ _ _ _ z => absurd rfl z⟩, fun K hK => ⟨fun _ => ⟨fun _ => ?_, fun z => absurd z (by decide)⟩, fun z => absurd (by decide) z⟩⟩
      rw [p4, ← p5] at hK; exact hK
  obtain ⟨v0, a0, b0⟩ := tld 0 (by omega)
  obtain ⟨v1, a1, b1⟩ := tld 1 (by omega)
  obtain ⟨v2, a2, b2⟩ := tld 2 (by omega)
  obtain ⟨v3, a3, b3⟩ := tld 3 (by omega)
  obtain ⟨v4, a4, b4⟩ := tld 4 (by omega)
  have dg : ∃ Y : Nat → Int64 → Int64, (∀ y, Y 0 y = y) ∧ ∀ i y, Y (i + 1) y = 31 * Y i y + (σ (cSo 0) i).toInt64 := ⟨fun i y => Nat.rec y (fun i z => 31 * z + (σ (cSo 0) i).toInt64) i, fun _ => rfl, fun _ _ => rfl⟩
  obtain ⟨Y, Y0, Y1⟩ := dg
  -- the reference
  have km : ∀ (K : Int64 → wx_Z → Prop) (y : Int64), (∀ τ', cmM τ τ' → K (31 * (31 * Y (2 ^ m) (31 * (31 * (31 * y + (nI o).toInt64) + (nI m).toInt64) + (σ (cSt 0) 2).toInt64) + (vall o m (σ (cSt 0) 2)).2.1.toInt64) + (hv m o (σ (cSo 0))).toInt64) τ') → ∃ n, wpX9_digest_32 K n τ y 0 := by
    intro K y hK
    have L : ∀ (d i : Nat), i + d = 2 ^ m → wpX9_digest_32 K (d + 1) τ (Y i (31 * (31 * (31 * y + (nI o).toInt64) + (nI m).toInt64) + (σ (cSt 0) 2).toInt64)) (nI (3 + i)) := by
      intro d
      induction d with
      | zero =>
        intro i hi
        have hi : i = 2 ^ m := by omega
        subst hi
        unfold wpX9_digest_32
        apply k_places hx.t1 h5
        rw [nI_3]
        refine ⟨fun _ => ?_, fun q => absurd (Int32.le_refl _) q⟩
        unfold wpX9_votes
        apply k_votesNow hx.t0 hx.t1 hx.hom h5
        intro τ1 d1 e6 _ _ _ _
        have c1 := cm_Vo d1
        apply k_halvesOf (f := σ (cSo 0)) ((c1 1 0 rfl).trans hx.t0) ((c1 1 1 rfl).trans hx.t1) hx.hom h5 (fun i hi => (c1 1 _ rfl).trans (hx.ts hi))
        intro τ2 d2
        rw [e6, hx.tw]
        exact hK τ2 (c1.tr d2)
      | succ d ih =>
        intro i hi
        unfold wpX9_digest_32
        apply k_places hx.t1 h5
        rw [nI_3, cln (by omega), hx.ts (by omega)]
        refine ⟨fun q => ?_, fun _ => ⟨vi (by omega), fun t55 e55 t56 e56 => ?_⟩⟩
        · rw [nI_leI (by omega) (by omega)] at q
          omega
        · rw [e55, e56, nI_1, ← Y1]
          exact ih (i + 1) (by omega)
    have s : ∀ (j : Nat) (y' : Int64) (n : Nat), j < 3 → wpX9_digest_32 K n τ (31 * y' + (τ 1 j).toInt64) (nI (j + 1)) → wpX9_digest_32 K (n + 1) τ y' (nI j) := by
      intro j y' n hj hn
      unfold wpX9_digest_32
      apply k_places hx.t1 h5
      rw [nI_3, cln (by omega)]
      refine ⟨fun q => ?_, fun _ => ⟨vi (by omega), fun t55 e55 t56 e56 => ?_⟩⟩
      · rw [nI_leI (by omega) (by omega)] at q
        omega
      · rw [e55, e56, nI_1]
        exact hn
    refine ⟨2 ^ m + 1 + 1 + 1 + 1, s 0 y _ (by omega) (s 1 _ _ (by omega) (s 2 _ _ (by omega) ?_))⟩
    rw [hx.t0, hx.t1, hx.tw]
    have := L (2 ^ m) 0 (by omega)
    rw [Y0] at this
    exact this
  have kM : ∀ (K : Int64 → wx_Z → Prop), (∀ τ', cmM τ τ' → K (31 * (31 * Y (2 ^ m) (31 * (31 * (31 * (31 * (31 * (31 * (31 * (31 * 2111 + v0.toInt64) + v1.toInt64) + v2.toInt64) + v3.toInt64) + v4.toInt64) + (nI o).toInt64) + (nI m).toInt64) + (σ (cSt 0) 2).toInt64) + (vall o m (σ (cSt 0) 2)).2.1.toInt64) + (hv m o (σ (cSo 0))).toInt64) τ') → wpX9_digest τ K := by
    intro K hK
    have s : ∀ (j : Nat) (y' : Int64) (n : Nat) (v : Int32), j < 5 → (∀ K : Int32 → wx_Z → Prop, K v τ → wpX9_toldOf τ (nI j) K) → wpX9_digest_6 K n τ (31 * y' + v.toInt64) (nI (j + 1)) → wpX9_digest_6 K (n + 1) τ y' (nI j) := by
      intro j y' n v hj hv hn
      unfold wpX9_digest_6
      refine ⟨fun q => ?_, fun _ => ?_⟩
      · rw [show (5 : Int32) = nI 5 from rfl, nI_leI (by omega) (by omega)] at q
        omega
      · apply hv
        intro t23 e23 t24 e24
        rw [e23, e24, nI_1]
        exact hn
    refine ⟨1 + 1 + 1 + 1 + 1 + 1, s 0 _ _ v0 (by omega) b0 (s 1 _ _ v1 (by omega) b1 (s 2 _ _ v2 (by omega) b2 (s 3 _ _ v3 (by omega) b3 (s 4 _ _ v4 (by omega) b4 ?_))))⟩
    unfold wpX9_digest_6
    refine ⟨fun _ => km K _ hK, fun q => absurd (by decide) q⟩
  -- the class
  have L : ∀ (d i : Nat) (y : Int64), i + d = 2 ^ m → (∀ σ', fr scr σ σ' → wpX9_digest τ (fun a' τ' => 31 * (31 * Y (2 ^ m) y + (vall o m (σ (cSt 0) 2)).2.1.toInt64) + (hv m o (σ (cSo 0))).toInt64 = a' ∧ RR σ' τ')) → wpX8_digest_83 (fun a σ' => wpX9_digest τ (fun a' τ' => a = a' ∧ RR σ' τ')) (d + 1) σ (Y i y) (nI i) := by
    intro d
    induction d with
    | zero =>
      intro i y hi hK
      have hi : i = 2 ^ m := by omega
      subst hi
      unfold wpX8_digest_83
      rw [co.2.2.1]
      refine ⟨fun _ => ?_, fun q => absurd (Int32.le_refl _) q⟩
      unfold wpX8_votes
      apply q_hold co hx.hw
      intro σ1 f1 e1 b1 t131 e131
      have co1 : CO σ1 0 o m := co.fr f1 (by decide) (by decide)
      unfold wpX8_halves
      apply q_solve (by omega) co1
      intro σ2 f2
      rw [e131, b1.1, f1 (cSo 0) (by decide)]
      exact hK σ2 ((fr_45 f1).tr (fr_H f2))
    | succ d ih =>
      intro i y hi hK
      unfold wpX8_digest_83
      rw [co.2.2.1, cln (by omega)]
      refine ⟨fun q => ?_, fun _ => ⟨vi (by omega), fun t55 e55 t56 e56 => ?_⟩⟩
      · rw [nI_leI (by omega) (by omega)] at q
        omega
      · rw [e55, e56, nI_1, ← Y1]
        exact ih (i + 1) y (by omega) hK
  have s : ∀ (j : Nat) (y' : Int64) (n : Nat) (v : Int32), j < 5 → (∀ K : Int32 → wx_Z → Prop, K v σ → wpX8_told σ (nI j) K) → wpX8_digest_6 (fun a σ' => wpX9_digest τ (fun a' τ' => a = a' ∧ RR σ' τ')) n σ (31 * y' + v.toInt64) (nI (j + 1)) → wpX8_digest_6 (fun a σ' => wpX9_digest τ (fun a' τ' => a = a' ∧ RR σ' τ')) (n + 1) σ y' (nI j) := by
    intro j y' n v hj hv hn
    unfold wpX8_digest_6
    refine ⟨fun q => ?_, fun _ => ?_⟩
    · rw [show (5 : Int32) = nI 5 from rfl, nI_leI (by omega) (by omega)] at q
      omega
    · apply hv
      intro t23 e23 t24 e24
      rw [e23, e24, nI_1]
      exact hn
  refine ⟨1 + 1 + 1 + 1 + 1 + 1, s 0 _ _ v0 (by omega) a0 (s 1 _ _ v1 (by omega) a1 (s 2 _ _ v2 (by omega) a2 (s 3 _ _ v3 (by omega) a3 (s 4 _ _ v4 (by omega) a4 ?_))))⟩
  unfold wpX8_digest_6
  refine ⟨fun _ t47 e47 t65 e65 t80 e80 => ⟨2 ^ m + 1, ?_⟩, fun q => absurd (by decide) q⟩
  rw [co.1] at e47
  rw [co.2.1, e47] at e65
  rw [e65] at e80
  rw [e80]
  have := L (2 ^ m) 0 (31 * (31 * (31 * (31 * (31 * (31 * (31 * (31 * 2111 + v0.toInt64) + v1.toInt64) + v2.toInt64) + v3.toInt64) + v4.toInt64) + (nI o).toInt64) + (nI m).toInt64) + (σ (cSt 0) 2).toInt64) (by omega) (fun σ' f' => kM _ (fun τ' d' => ⟨rfl, (h.frC f').frM d'⟩))
  rw [Y0] at this
  exact this

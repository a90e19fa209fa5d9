/-! ===== parts of the relation, under frames ===== -/
def RX (σ τ : wx_Z) (o m x c n : Nat) : Prop := RLv σ τ o m ∧ RP σ τ x c ∧ RT σ τ n ∧ RC σ τ
theorem RX.rr {σ τ : wx_Z} {o m x c n : Nat} (h : RX σ τ o m x c n) : RR σ τ := ⟨⟨o, m, h.1⟩, ⟨x, c, h.2.1⟩, ⟨n, h.2.2.1⟩, h.2.2.2⟩
theorem RR.rx {σ τ : wx_Z} (h : RR σ τ) : ∃ o m x c n, RX σ τ o m x c n := by
  obtain ⟨⟨o, m, hl⟩, ⟨x, c, hp⟩, ⟨n, ht⟩, hc⟩ := h
  exact ⟨o, m, x, c, n, hl, hp, ht, hc⟩
theorem RX.frM {σ τ τ' : wx_Z} {o m x c n : Nat} (h : RX σ τ o m x c n) (hf : cmM τ τ') : RX σ τ' o m x c n := by
  obtain ⟨⟨hl1, l1, l2, l3, l4⟩, ⟨p1, p2, p3, p4, p5, p6⟩, ⟨t1, t2, t3, t4⟩, c1, c2, c3⟩ := h
  refine ⟨⟨hl1, (hf 1 0 rfl).trans l1, (hf 1 1 rfl).trans l2, (hf 1 2 rfl).trans l3, fun i hi => (hf 1 _ rfl).trans (l4 i hi)⟩, ⟨p1, p2, p3, p4, (hf 0 2 rfl).trans p5, fun i hi => ?_⟩, ⟨t1, t2, (hf 0 21 rfl).trans t3, fun i hi => ⟨(hf 11 _ rfl).trans (t4 i hi).1, (t4 i hi).2⟩⟩, (hf 3 0 rfl).trans c1, (hf 3 1 rfl).trans c2, (hf 3 2 rfl).trans c3⟩
  obtain ⟨q1, k1, k2, k3, k4⟩ := p6 i hi
  exact ⟨q1, (hf 2 _ rfl).trans k1, (hf 2 _ rfl).trans k2, (hf 2 _ rfl).trans k3, fun j hj => (hf 2 _ rfl).trans (k4 j hj)⟩
theorem RX.frC {σ σ' τ : wx_Z} {o m x c n : Nat} (h : RX σ τ o m x c n) (hf : fr scr σ σ') : RX σ' τ o m x c n := by
  obtain ⟨⟨hl1, hl2⟩, ⟨p1, p2, p3, p4, p5, p6⟩, ⟨t1, t2, t3, t4⟩, c1, c2, c3⟩ := h
  have e41 := hf 41 (by decide)
  have e43 := hf 43 (by decide)
  have e44 := hf 44 (by decide)
  have e0 := hf 0 (by decide)
  refine ⟨⟨hl1.fr hf scr_g0, hl2.fr hf scr_g0⟩, ⟨p1, p2, by rw [e41]; exact p3, by rw [e41]; exact p4, p5, fun i hi => ?_⟩, ⟨t1, by rw [e43]; exact t2, t3, fun i hi => by rw [e44]; exact t4 i hi⟩, by rw [e0]; exact c1, by rw [e0]; exact c2, by rw [e0]; exact c3⟩
  obtain ⟨⟨o', m', q1⟩, q2⟩ := p6 i hi
  have hr := rg_in x c i
  exact ⟨⟨o', m', q1.fr hf (scr_ring hr.1 hr.2)⟩, q2.fr hf (scr_ring hr.1 hr.2)⟩
theorem RX.keep {σ τ σ1 τ1 : wx_Z} {o m x c n : Nat} (h : RX σ τ o m x c n) (hC : KC σ σ1 0 o m x c) (hM : KM τ τ1 c) : RX σ1 τ1 o m ((x + 1) % 8) (min (c + 1) 8) n := both_keep h.1 h.2.1 h.2.2.1 h.2.2.2 hC hM
theorem RX.word {σ τ : wx_Z} {o m x c n : Nat} {w : Int32} (h : RX σ τ o m x c n) (hw : wi w (2 ^ m)) : RR (wx_up σ (cSt 0) 2 w) (wx_up τ 1 2 w) := RR.word h.1 h.2.1 h.2.2.1 h.2.2.2 hw
section RXf
variable {σ τ : wx_Z} {o m x c n : Nat}
theorem RX.co (h : RX σ τ o m x c n) : CO σ 0 o m := h.1.1.1
theorem RX.h5 (h : RX σ τ o m x c n) : m ≤ 5 := h.1.1.1.2.2.2.2.2.2
theorem RX.hom (h : RX σ τ o m x c n) : o ≤ m := h.1.1.1.2.2.2.2.2.1
theorem RX.t0 (h : RX σ τ o m x c n) : τ 1 0 = nI o := h.1.2.1.trans h.1.1.1.1
theorem RX.t1 (h : RX σ τ o m x c n) : τ 1 1 = nI m := h.1.2.2.1.trans h.1.1.1.2.1
theorem RX.tw (h : RX σ τ o m x c n) : τ 1 2 = σ (cSt 0) 2 := h.1.2.2.2.1
theorem RX.ts (h : RX σ τ o m x c n) {i : Nat} (hi : i < 32) : τ 1 (3 + i) = σ (cSo 0) i := by
  have := h.1.2.2.2.2 i hi
  rw [show 0 + 3 + i = 3 + i by omega] at this
  exact this
theorem RX.hw (h : RX σ τ o m x c n) : wi (σ (cSt 0) 2) (2 ^ m) := h.1.1.2.1
theorem RX.qk {K : wx_Z → Prop} (h : RX σ τ o m x c n) (hK : ∀ σ', KC σ σ' 0 o m x c → K σ') : wpX4_keep 0 σ K := q_keep (by omega) h.1.1 h.2.1.2.1 h.2.1.1 h.2.1.2.2.1 h.2.1.2.2.2.1 hK
theorem RX.kk {K : wx_Z → Prop} (h : RX σ τ o m x c n) (hK : ∀ τ', KM τ τ' c → K τ') : wpX9_keep τ K := k_keep h.2.1.1 h.2.1.2.2.2.2.1 hK
/-- the live state is still there when one is left -/
theorem RX.live0 (h : RX σ τ o m x c n) {σ1 : wx_Z} (hC : KC σ σ1 0 o m x c) : ST σ1 0 o m ∧ σ1 (cSt 0) 2 = σ (cSt 0) 2 ∧ σ1 (cSo 0) = σ (cSo 0) := by
  have hx := h.2.1.2.1
  have n0 : ∀ c' ∈ gl 0, c' ∉ 41 :: gl (2 + x) := fun c' h z => by
    have := gl_in h
    rcases List.mem_cons.mp z with z | z
    · omega
    · have := gl_in z
      omega
  exact ⟨h.1.1.fr hC.1 n0, by rw [hC.1 _ (n0 _ (by simp [gl]))], hC.1 _ (n0 _ (by simp [gl]))⟩
end RXf
theorem e_flip {σ τ : wx_Z} (i : Int32) (h : RR σ τ) : wpX8_flip σ i (fun a σ' => wpX9_flip τ i (fun a' τ' => a = a' ∧ RR σ' τ')) := by
  obtain ⟨o, m, x, c, n, hx⟩ := id (RR.rx h)
  have h5 := hx.h5
  have hp := p2_le h5
  unfold wpX8_flip
  apply q_hasPlace hx.co
  · intro j hj e
    subst e
    refine ⟨fun _ => ?_, fun z => absurd z (by decide)⟩
    apply hx.qk
    intro σ1 hC σ2 e2
    show wpX9_flip τ (nI j) _
    unfold wpX9_flip
    apply k_isPlace hx.t1 h5 _ (fun z => absurd rfl (out_not (by omega) z hj))
    intro j' _ _
    refine ⟨fun _ => ?_, fun z => absurd z (by decide)⟩
    apply hx.kk
    intro τ1 hM
    have hx1 := hx.keep hC hM
    refine ⟨vi (n := 2) (by decide), vi (n := 2) (by decide), fun τ2 et2 => ?_⟩
    rw [show Int32.toNatClampNeg 2 = 2 from rfl, hx1.tw] at et2
    apply k_theWord
    apply k_has (by omega)
    have hwi : wi (σ1 (cSt 0) 2 ^^^ (1 <<< (nI j &&& 31))) (2 ^ m) := by
      refine wi_xor hx1.hw (fun i h1 h2 => ?_)
      rw [bt_sh1 (by omega) h2]
      exact decide_eq_false (by omega)
    have hR : RR σ2 τ2 := by
      rw [e2, et2]
      exact hx1.word hwi
    have hb : τ2 1 2 = σ2 (cSt 0) 2 := by rw [et2, e2, up_s, up_s]
    rw [hb, bit_u _ (by omega)]
    refine ⟨fun q => ⟨?_, hR⟩, fun q => ⟨?_, hR⟩⟩
    · exact q
    · cases hbb : bt (σ2 (cSt 0) 2) j
      · rw [hbb] at q; exact absurd rfl q
      · rfl
  · intro ho
    refine ⟨fun z => absurd rfl z, fun _ => ?_⟩
    apply q_bad
    show wpX9_flip τ i _
    unfold wpX9_flip
    apply k_isPlace hx.t1 h5 (fun j hj e => absurd e (out_not (by omega) ho hj))
    intro _
    exact ⟨fun z => absurd rfl z, fun _ => k_bad ⟨rfl, R_bad h⟩⟩
theorem e_now {σ τ : wx_Z} (h : RR σ τ) : wpX8_now σ (fun a σ' => wpX9_now τ (fun a' τ' => a = a' ∧ RR σ' τ')) := by
  obtain ⟨o, m, x, c, n, hx⟩ := id (RR.rx h)
  unfold wpX8_now
  show wpX9_now τ _
  unfold wpX9_now
  apply k_theWord
  exact ⟨hx.tw.symm, h⟩
theorem e_weight {σ τ : wx_Z} (h : RR σ τ) : wpX8_weight σ (fun a σ' => wpX9_weight τ (fun a' τ' => a = a' ∧ RR σ' τ')) := by
  obtain ⟨o, m, x, c, n, hx⟩ := id (RR.rx h)
  apply k_bitCount
  apply k_theWord
  apply k_bits
  exact ⟨by rw [hx.tw], h⟩
theorem e_at {σ τ : wx_Z} (i : Int32) (h : RR σ τ) : wpX8_at σ i (fun a σ' => wpX9_at τ i (fun a' τ' => a = a' ∧ RR σ' τ')) := by
  obtain ⟨o, m, x, c, n, hx⟩ := id (RR.rx h)
  have h5 := hx.h5
  have hp := p2_le h5
  unfold wpX8_at
  apply q_hasPlace hx.co
  · intro j hj e
    subst e
    refine ⟨fun z => absurd z (by decide), fun _ => ?_⟩
    show wpX9_at τ (nI j) _
    unfold wpX9_at
    apply k_isPlace hx.t1 h5 _ (fun z => absurd rfl (out_not (by omega) z hj))
    intro j' _ _
    refine ⟨fun z => absurd z (by decide), fun _ => ?_⟩
    apply k_theWord
    refine ⟨?_, h⟩
    rw [bit_u _ (by omega), bit_s _ (by omega), hx.tw]
  · intro ho
    refine ⟨fun _ => ?_, fun z => absurd rfl z⟩
    apply q_bad
    show wpX9_at τ i _
    unfold wpX9_at
    apply k_isPlace hx.t1 h5 (fun j hj e => absurd e (out_not (by omega) ho hj))
    intro _
    exact ⟨fun _ => k_bad ⟨rfl, R_bad h⟩, fun z => absurd rfl z⟩
/-! ===== isWord, coefficient ===== -/
theorem tl_mem : ∀ m, m < 6 → ∀ o, o < 6 → ∀ t, t < 32 → ((tl o m).contains t = (decide (t < 2 ^ m) && decide (pcF 5 t ≤ o))) := by decide +kernel
def tps (l : List Nat) : Nat → Int32
  | 0 => 0
  | n + 1 => tps l n ||| (1 <<< (nI (l.getD n 0) &&& 31))
theorem bt_tps {l : List Nat} (hl : ∀ t ∈ l, t < 32) {i : Nat} (hi : i < 32) : ∀ n, n ≤ l.length → bt (tps l n) i = (l.take n).contains i
  | 0, _ => by simp [tps, b_0]
  | n + 1, hn => by
    have hm := hl _ (getD_mem (l := l) (j := n) (by omega))
    rw [tps, b_or, bt_tps hl hi n (by omega), bt_sh1 hm hi, List.getD_eq_getElem?_getD, List.getElem?_eq_getElem (by omega)]
    have e2 : l.take (n + 1) = l.take n ++ [l[n]] := by
      rw [List.take_succ, List.getElem?_eq_getElem (by omega)]; rfl
    rw [e2, Bool.eq_iff_iff]
    simp only [Bool.or_eq_true, List.contains_eq_mem, decide_eq_true_eq, List.mem_append, List.mem_singleton, Option.getD_some]
theorem q_termPlaces {σ : wx_Z} {g o m : Nat} {K : Int32 → wx_Z → Prop} (h : CO σ g o m) (hK : K (tps (tl o m) (tl o m).length) σ) : wpX1_termPlaces g σ K := by
  obtain ⟨hlen, -, -⟩ := tl_len h
  have L : ∀ (d j : Nat), j + d = (tl o m).length → wpX1_termPlaces_4 g K (d + 1) σ (tps (tl o m) j) (nI j) := by
    intro d
    induction d with
    | zero =>
      intro j hj
      have hj : j = (tl o m).length := by omega
      subst hj
      unfold wpX1_termPlaces_4
      rw [h.2.2.2.1]
      exact ⟨fun _ => hK, fun q => absurd (Int32.le_refl _) q⟩
    | succ d ih =>
      intro j hj
      unfold wpX1_termPlaces_4
      rw [h.2.2.2.1]
      refine ⟨fun q => ?_, fun _ => ⟨vi (by omega), fun t22 e22 t23 e23 => ?_⟩⟩
      · rw [nI_leI (by omega) (by omega)] at q
        omega
      · rw [e22, e23, nI_1, cln (by omega), h.2.2.2.2.1 j (by omega)]
        exact ih (j + 1) (by omega)
  exact ⟨(tl o m).length + 1, L (tl o m).length 0 (by omega)⟩
def cf (m : Nat) (w : Int32) (t : Nat) : Bool := xs (fun i => ((i &&& t) == i) && bt w i) (2 ^ m)
def aw (o m : Nat) (w : Int32) : Nat → Bool
  | 0 => true
  | n + 1 => aw o m w n && !(decide (o < pcF 5 n) && cf m w n)
theorem aw_iff {o m : Nat} {w : Int32} : ∀ n, aw o m w n = true ↔ ∀ t, t < n → o < pcF 5 t → cf m w t = false
  | 0 => by simp [aw]
  | n + 1 => by
    rw [aw, Bool.and_eq_true, aw_iff n]
    constructor
    · intro h t ht hp
      by_cases e : t = n
      · subst e
        have := h.2
        simpa [hp] using this
      · exact h.1 t (by omega) hp
    · intro h
      refine ⟨fun t ht hp => h t (by omega) hp, ?_⟩
      by_cases q : o < pcF 5 n
      · simp [q, h n (by omega) q]
      · simp [q]
theorem wi_sm {m : Nat} {x : Int32} (h5 : m ≤ 5) (hx : wi x (2 ^ m)) : wi (sm m x) (2 ^ m) := by
  have h1 : sm m x = xw (fun i => if bt x i then wT m i else 0) 32 := by
    have := sm_xw h5 (fun t => if bt x t then 1 <<< (nI t &&& 31) else 0) 32
    rw [xw_bits] at this
    rw [this]
    apply xw_cong
    intro k hk
    cases hb : bt x k
    · simp only [Bool.false_eq_true, if_false]; exact sm_0 m (by omega)
    · simp only [if_true]
      refine sm_one m (by omega) k ?_
      rcases Nat.lt_or_ge k (2 ^ m) with q | q
      · exact q
      · rw [hx k q hk] at hb; cases hb
  rw [h1]
  have : ∀ n, wi (xw (fun i => if bt x i then wT m i else 0) n) (2 ^ m) := by
    intro n
    induction n with
    | zero => exact wi_0
    | succ n ih =>
      rw [xw]
      refine wi_xor ih ?_
      cases bt x n
      · rw [if_neg (by decide)]; exact wi_0
      · rw [if_pos rfl]; exact wi_wT h5
  exact this 32
theorem isW_iff {o m : Nat} {w : Int32} (hom : o ≤ m) (h5 : m ≤ 5) (hw : wi w (2 ^ m)) : sm m w &&& (tps (tl o m) (tl o m).length ^^^ (-1)) = 0 ↔ aw o m w (2 ^ m) = true := by
  have hp := p2_le h5
  obtain ⟨hlen, -, hmem⟩ := tl_fact m (by omega) o (by omega)
  have hl : ∀ t ∈ tl o m, t < 32 := fun t ht => Nat.lt_of_lt_of_le (hmem t ht).1 hp
  have hbt : ∀ i, i < 32 → bt (sm m w &&& (tps (tl o m) (tl o m).length ^^^ (-1))) i = (bt (sm m w) i && !(decide (i < 2 ^ m) && decide (pcF 5 i ≤ o))) := by
    intro i hi
    rw [b_and, b_xor, b_m1 i hi, bt_tps hl hi _ (Nat.le_refl _), List.take_length, tl_mem m (by omega) o (by omega) i hi]
    simp
  rw [aw_iff]
  constructor
  · intro h t ht hpt
    have := congrArg (fun z => bt z t) h
    simp only [b_0] at this
    rw [hbt t (by omega), bt_sm h5 ht hw] at this
    have : cf m w t = false := by
      have q : ¬ pcF 5 t ≤ o := by omega
      unfold cf
      simpa [q] using this
    exact this
  · intro h
    apply b_ext
    intro i hi
    rw [b_0, hbt i hi]
    rcases Nat.lt_or_ge i (2 ^ m) with q | q
    · by_cases q2 : pcF 5 i ≤ o
      · simp [q, q2]
      · rw [bt_sm h5 q hw]
        have := h i q (by omega)
        unfold cf at this
        rw [this]
        rfl
    · rw [wi_sm h5 hw i q hi]; rfl
theorem e_isWord {σ τ : wx_Z} (h : RR σ τ) : wpX8_isWord σ (fun a σ' => wpX9_isWord τ (fun a' τ' => a = a' ∧ RR σ' τ')) := by
  obtain ⟨o, m, x, c, n, hx⟩ := id (RR.rx h)
  have h5 := hx.h5
  have hom := hx.hom
  have hp := p2_le h5
  unfold wpX8_isWord
  apply q_summed hx.co
  apply q_termPlaces hx.co
  have km : ∀ K : Int32 → wx_Z → Prop, K (b2i (aw o m (σ (cSt 0) 2) (2 ^ m))) τ → wpX9_isWord τ K := by
    intro K hK
    have L : ∀ (d t : Nat), t + d = 2 ^ m → wpX9_isWord_4 K (d + 1) τ (b2i (aw o m (σ (cSt 0) 2) t)) (nI t) := by
      intro d
      induction d with
      | zero =>
        intro t ht
        have ht : t = 2 ^ m := by omega
        subst ht
        unfold wpX9_isWord_4
        apply k_places hx.t1 h5
        exact ⟨fun _ => hK, fun q => absurd (Int32.le_refl _) q⟩
      | succ d ih =>
        intro t ht
        unfold wpX9_isWord_4
        apply k_places hx.t1 h5
        refine ⟨fun q => ?_, fun _ => ?_⟩
        · rw [nI_leI (by omega) (by omega)] at q
          omega
        · apply k_bits
          rw [pc_5 t (by omega)]
          apply k_order
          rw [hx.t0]
          have hb5 : pcF 5 t ≤ 5 := (by decide +kernel : ∀ t, t < 32 → pcF 5 t ≤ 5) t (by omega)
          have ih2 := ih (t + 1) (by omega)
          rw [aw] at ih2
          refine ⟨fun q t42 e42 => ?_, fun q => ?_⟩
          · rw [nI_leI (by omega) (by omega)] at q
            rw [e42, nI_1]
            rw [decide_eq_false (by omega), Bool.false_and, Bool.not_false, Bool.and_true] at ih2
            exact ih2
          · rw [nI_leI (by omega) (by omega)] at q
            rw [decide_eq_true (by omega), Bool.true_and] at ih2
            apply k_theWord
            rw [hx.tw]
            apply k_coefficientOf hx.t1 h5 (by omega)
            refine ⟨fun q2 t42 e42 => ?_, fun q2 t42 e42 => ?_⟩
            · rw [e42, nI_1]
              rw [b2i_1] at q2
              have e : cf m (σ (cSt 0) 2) t = false := by
                cases hc : cf m (σ (cSt 0) 2) t
                · rfl
                · exact absurd hc q2
              rw [e, Bool.not_false, Bool.and_true] at ih2
              exact ih2
            · rw [e42, nI_1]
              rw [b2i_1] at q2
              have e : cf m (σ (cSt 0) 2) t = true := q2
              rw [e, Bool.not_true, Bool.and_false] at ih2
              exact ih2
    exact ⟨2 ^ m + 1, L (2 ^ m) 0 (by omega)⟩
  intro t30 e30
  rw [e30]
  have hi := isW_iff hom h5 hx.hw
  refine ⟨fun q => km _ ⟨?_, h⟩, fun q => km _ ⟨?_, h⟩⟩
  · have : aw o m (σ (cSt 0) 2) (2 ^ m) = false := by
      cases hc : aw o m (σ (cSt 0) 2) (2 ^ m)
      · rfl
      · exact absurd (hi.mpr hc) q
    rw [this]; rfl
  · rw [hi.mp q]; rfl
theorem sl_at : ∀ m, m < 6 → ∀ i, i < 32 → SN.getD i 0 < 2 ^ m → (tl m m).getD (sl m m i).length 0 = SN.getD i 0 := by decide +kernel
theorem tl_full : ∀ m, m < 6 → (tl m m).length = 2 ^ m ∧ ∀ t, t < 2 ^ m → pcF 5 t ≤ m := by decide +kernel
theorem q_setAt {σ : wx_Z} {g o m j : Nat} {K : Int32 → wx_Z → Prop} (h : CO σ g o m) (hj : j < 2 ^ m) (hK : K (nI ((tl m m).getD j 0)) σ) : wpX1_setAt g σ (nI j) K := by
  have h5 := h.2.2.2.2.2.2
  have hp := p2_le h5
  obtain ⟨f1, f2⟩ := tl_full m (by omega)
  have L : ∀ (d i : Nat), i + d = 32 → (sl m m i).length ≤ j → wpX1_setAt_13 g K (d + 1) σ (nI j) (nI (sl m m i).length) 32 (nI i) := by
    intro d
    induction d with
    | zero =>
      intro i hi hl
      have hi : i = 32 := by omega
      subst hi
      rw [sl_tl m (by omega) m (by omega), f1] at hl
      omega
    | succ d ih =>
      intro i hi hl
      unfold wpX1_setAt_13
      obtain ⟨w1, w2⟩ := wC_SN i (by omega)
      refine ⟨fun q => ?_, fun _ => ⟨vi (by omega), ?_⟩⟩
      · rw [show (32 : Int32) = nI 32 from rfl, nI_leI (by omega) (by omega)] at q
        omega
      · rw [cln (by omega), w1, h.2.2.1]
        refine ⟨fun q t46 e46 => ?_, fun q => ⟨fun q2 t43 e43 t46 e46 => ?_, fun q2 => ?_⟩⟩
        · rw [nI_leI (by omega) (by omega)] at q
          have hs := sl_no (r := m) (m := m) (i := i) (by omega) (fun z => by omega)
          rw [e46, nI_1, ← hs]
          exact ih (i + 1) (by omega) (by rw [hs]; exact hl)
        · rw [nI_leI (by omega) (by omega)] at q
          rw [nI_eq (by omega) (by omega)] at q2
          have hs := sl_yes (r := m) (m := m) (i := i) (by omega) (by omega) (f2 _ (by omega))
          have hs2 : (sl m m (i + 1)).length = (sl m m i).length + 1 := by rw [hs, List.length_append]; rfl
          rw [e43, e46, nI_1, nI_1, ← hs2]
          exact ih (i + 1) (by omega) (by omega)
        · rw [nI_leI (by omega) (by omega)] at q
          rw [nI_eq (by omega) (by omega)] at q2
          rw [← sl_at m (by omega) i (by omega) (by omega), q2]
          exact hK
  exact ⟨33, L 32 0 (by omega) (by simp [sl])⟩
theorem e_coefficient {σ τ : wx_Z} (i : Int32) (h : RR σ τ) : wpX8_coefficient σ i (fun a σ' => wpX9_coefficient τ i (fun a' τ' => a = a' ∧ RR σ' τ')) := by
  obtain ⟨o, m, x, c, n, hx⟩ := id (RR.rx h)
  have h5 := hx.h5
  have hp := p2_le h5
  obtain ⟨f1, f2⟩ := tl_full m (by omega)
  unfold wpX8_coefficient
  apply q_hasPlace hx.co
  · intro j hj e
    subst e
    refine ⟨fun _ => ?_, fun z => absurd z (by decide)⟩
    apply q_summed hx.co
    apply q_setAt hx.co hj
    show wpX9_coefficient τ (nI j) _
    unfold wpX9_coefficient
    apply k_isPlace hx.t1 h5 _ (fun z => absurd rfl (out_not (by omega) z hj))
    intro j' _ _
    refine ⟨fun _ => ?_, fun z => absurd z (by decide)⟩
    apply k_length
    rw [hx.t1]
    apply k_lays hx.t1 h5 h5
    intro τ1 d1 l1
    apply k_theWord
    refine ⟨vi (by omega), ?_⟩
    have ht : (tl m m).getD j 0 < 2 ^ m := ((tl_fact m (by omega) m (by omega)).2.2 _ (getD_mem (by omega))).1
    rw [cln (by omega), l1.2 j (by omega), d1 1 2 rfl, hx.tw]
    apply k_coefficientOf ((d1 1 1 rfl).trans hx.t1) h5 (by omega)
    refine ⟨?_, h.frM (cm_Many d1)⟩
    rw [bit_u _ (by omega), bt_sm h5 ht hx.hw]
  · intro ho
    refine ⟨fun z => absurd rfl z, fun _ => ?_⟩
    apply q_bad
    show wpX9_coefficient τ i _
    unfold wpX9_coefficient
    apply k_isPlace hx.t1 h5 (fun j hj e => absurd e (out_not (by omega) ho hj))
    intro _
    exact ⟨fun z => absurd rfl z, fun _ => k_bad ⟨rfl, R_bad h⟩⟩

/-! ===== code, of, term ===== -/
theorem k_becomesCode {τ : wx_Z} {r m : Int32} {K : wx_Z → Prop} (hK : ∀ τ', (∀ c k, ¬ c = 1 → τ' c k = τ c k) → τ' 1 0 = r → τ' 1 1 = m → (∀ k, 2 ≤ k → k < 35 → τ' 1 k = 0) → K τ') : wpX9_becomesCode τ r m K := by
  have L : ∀ (d k : Nat) (τ' : wx_Z), k + d = 35 → (∀ c j, ¬ c = 1 → τ' c j = τ c j) → (∀ j, j < k → τ' 1 j = 0) → wpX9_becomesCode_2 K (d + 1) τ' r m (nI k) := by
    intro d
    induction d with
    | zero =>
      intro k τ' hk hm h0
      have hk : k = 35 := by omega
      subst hk
      unfold wpX9_becomesCode_2
      refine ⟨fun _ => ⟨vi (n := 0) (by decide), fun σ27 e27 => ⟨vi (n := 1) (by decide), fun σ34 e34 => ?_⟩⟩, fun q => absurd (by decide) q⟩
      rw [show Int32.toNatClampNeg 0 = 0 from rfl] at e27
      rw [show Int32.toNatClampNeg 1 = 1 from rfl] at e34
      refine hK σ34 ?_ ?_ ?_ ?_
      · intro c j hc; rw [e34, up_c hc, e27, up_c hc]; exact hm c j hc
      · rw [e34, up_k (by decide), e27, up_s]
      · rw [e34, up_s]
      · intro j h1 h2; rw [e34, up_k (by omega), e27, up_k (by omega)]; exact h0 j h2
    | succ d ih =>
      intro k τ' hk hm h0
      unfold wpX9_becomesCode_2
      refine ⟨fun q => ?_, fun _ => ⟨vi (by omega), fun σ14 e14 t15 e15 => ?_⟩⟩
      · rw [show (35 : Int32) = nI 35 from rfl, nI_leI (by omega) (by omega)] at q
        omega
      · rw [cln (by omega)] at e14
        rw [e15, nI_1, e14]
        refine ih (k + 1) _ (by omega) (fun c j hc => by rw [up_c hc]; exact hm c j hc) (fun j hj => ?_)
        by_cases e : j = k
        · subst e; rw [up_s]
        · rw [up_k e]; exact h0 j (by omega)
  exact ⟨36, L 35 0 τ (by omega) (fun _ _ _ => rfl) (fun j hj => absurd hj (Nat.not_lt_zero j))⟩
theorem k_isCode {τ : wx_Z} {r m : Int32} {K : Int32 → wx_Z → Prop} (hy : (0 ≤ m ∧ m ≤ 5) → (0 ≤ r ∧ r ≤ m) → K 1 τ) (hn : ¬ ((0 ≤ m ∧ m ≤ 5) ∧ (0 ≤ r ∧ r ≤ m)) → K 0 τ) : wpX9_isCode τ r m K := by
  unfold wpX9_isCode
  rw [show (0 : Int64) = (0 : Int32).toInt64 from rfl, show (5 : Int64) = (5 : Int32).toInt64 from rfl]
  apply k_in
  · intro h1 h2
    have hm := in_iff.mp ⟨h1, h2⟩
    refine ⟨fun q => absurd q (by decide), fun _ => ?_⟩
    apply k_in
    · intro h3 h4
      exact ⟨fun q => absurd q (by decide), fun _ => hy hm (in_iff.mp ⟨h3, h4⟩)⟩
    · intro h3
      exact ⟨fun _ => hn (fun z => h3 (in_iff.mpr z.2)), fun q => absurd rfl q⟩
  · intro h1
    exact ⟨fun _ => hn (fun z => h1 (in_iff.mpr z.1)), fun q => absurd rfl q⟩
theorem nn0 {x : Int32} : ¬ x < 0 ↔ 0 ≤ x := Int32.not_lt
theorem RLv.new {σ τ : wx_Z} {r m : Nat} (hs : ST σ 0 r m) (hw : σ (cSt 0) 2 = 0) (hz : ∀ i, i < 32 → σ (cSo 0) i = 0) (h0 : τ 1 0 = nI r) (h1 : τ 1 1 = nI m) (h2 : ∀ k, 2 ≤ k → k < 35 → τ 1 k = 0) : RLv σ τ r m := by
  refine ⟨hs, ?_, ?_, ?_, ?_⟩
  · rw [h0, hs.1.1]
  · rw [h1, hs.1.2.1]
  · rw [hw]; exact h2 2 (by omega) (by omega)
  · intro i hi; rw [hz i hi]; exact h2 _ (by omega) (by omega)
theorem e_code {σ τ : wx_Z} (r m : Int32) (h : RR σ τ) : wpX8_code σ r m (fun a σ' => wpX9_code τ r m (fun a' τ' => a = a' ∧ RR σ' τ')) := by
  have hbad : ¬ ((0 ≤ m ∧ m ≤ 5) ∧ (0 ≤ r ∧ r ≤ m)) → wpX8_refuseBad σ (-2) (fun a σ' => wpX9_code τ r m (fun a' τ' => a = a' ∧ RR σ' τ')) := by
    intro hn
    apply q_bad
    unfold wpX9_code
    apply k_isCode (fun h1 h2 => absurd ⟨h1, h2⟩ hn)
    intro _
    exact ⟨fun q => absurd rfl q, fun _ => k_bad ⟨rfl, R_bad h⟩⟩
  unfold wpX8_code
  refine ⟨fun q => hbad (fun z => absurd q (nn0.mpr z.1.1)), fun q1 => ⟨fun q => hbad (fun z => absurd q (Int32.not_lt.mpr z.1.2)), fun q2 => ⟨fun q => hbad (fun z => absurd q (nn0.mpr z.2.1)), fun q3 => ⟨fun q4 => ?_, fun q => hbad (fun z => q z.2.2)⟩⟩⟩⟩
  have hv : (0 ≤ m ∧ m ≤ 5) ∧ (0 ≤ r ∧ r ≤ m) := ⟨⟨nn0.mp q1, Int32.not_lt.mp q2⟩, nn0.mp q3, q4⟩
  obtain ⟨m', hm', rfl⟩ := nI_of2 (M := 5) (n := 5) rfl q1 hv.1.2
  obtain ⟨r', hr', rfl⟩ := nI_of2 (M := nI m') (n := m') (nI_toInt (by omega)) q3 q4
  obtain ⟨⟨o, mm, hl⟩, ⟨x, c, hp⟩, ⟨n, ht⟩, hc⟩ := h
  refine q_keep (by omega) hl.1 hp.2.1 hp.1 hp.2.2.1 hp.2.2.2.1 (fun σ1 hC => ?_)
  apply q_start hr' hm'
  intro σ2 f2 s2 w2 z2
  unfold wpX9_code
  apply k_isCode _ (fun z => absurd hv z)
  intro _ _
  refine ⟨fun _ => ?_, fun q => absurd q (by decide)⟩
  refine k_keep hp.1 hp.2.2.2.2.1 (fun τ1 hM => ?_)
  obtain ⟨hl1, hp1, ht1, hc1⟩ := both_keep hl hp ht hc hC hM
  apply k_becomesCode
  intro τ2 g1 g2 g3 g4
  apply k_many g2 g3 hr' hm'
  intro τ3 d3 l3
  refine ⟨?_, ?_⟩
  · rw [s2.1.2.2.2.1]
  · refine RR.frM (τ := τ2) ?_ (cm_Many d3)
    exact RR.live hp1 ht1 hc1 f2 (fun c k hc _ => g1 c k hc) (RLv.new s2 w2 z2 g2 g3 g4)
theorem k_distance {τ : wx_Z} {K : Int32 → wx_Z → Prop} (h : K (1 <<< ((τ 1 1 - τ 1 0) &&& 31)) τ) : wpX9_distance τ K := k_length (k_order h)
theorem ne_of_range {x lo hi : Int32} (hn : ¬ (lo ≤ x ∧ x ≤ hi)) {k : Int32} (h1 : lo ≤ k) (h2 : k ≤ hi) : ¬ x = k := fun e => hn ⟨by rw [e]; exact h1, by rw [e]; exact h2⟩
theorem e_of {σ τ : wx_Z} (x : Int32) (h : RR σ τ) : wpX8_of σ x (fun a σ' => wpX9_of τ x (fun a' τ' => a = a' ∧ RR σ' τ')) := by
  obtain ⟨⟨o, m, hl⟩, -⟩ := id h
  obtain ⟨e1, e2, e3, e4⟩ := hl.2
  have co := hl.1.1
  have inr : ∀ (K : Int32 → wx_Z → Prop), (0 ≤ x ∧ x ≤ 5) → (((¬ x = 0 → ((¬ x = 1 → ((¬ x = 2 → ((¬ x = 3 → ((¬ x = 4 → (wpX9_distance τ <| fun r79 σ79 => (¬ (2 : Int32) = 0 ∧ K ((r79 - 1) / 2) σ79))) ∧ (x = 4 → (wpX9_places τ <| fun r72 σ72 => K r72 σ72)))) ∧ (x = 3 → (wpX9_distance τ <| fun r60 σ60 => K r60 σ60)))) ∧ (x = 2 → (wpX9_many τ <| fun r48 σ48 => K r48 σ48)))) ∧ (x = 1 → (wpX9_length τ <| fun r36 σ36 => K r36 σ36)))) ∧ (x = 0 → (wpX9_order τ <| fun r24 σ24 => K r24 σ24)))) → wpX9_of τ x K := by
    intro K hx hk
    unfold wpX9_of
    rw [show (0 : Int64) = (0 : Int32).toInt64 from rfl, show (5 : Int64) = (5 : Int32).toInt64 from rfl]
    apply k_in
    · intro _ _
      exact ⟨fun _ => hk, fun q => absurd q (by decide)⟩
    · intro z
      exact absurd (in_iff.mpr hx) z
  unfold wpX8_of
  refine ⟨fun q => ?_, fun q => ?_, fun q => ?_, fun q => ?_, fun q => ?_, fun q => ?_, fun q0 q1 q2 q3 q4 q5 => ?_⟩
  · subst q
    refine inr _ (by decide) ⟨fun z => absurd rfl z, fun _ => k_order ⟨e1.symm, h⟩⟩
  · subst q
    refine inr _ (by decide) ⟨fun _ => ⟨fun z => absurd rfl z, fun _ => k_length ⟨e2.symm, h⟩⟩, fun z => absurd z (by decide)⟩
  · subst q
    refine inr _ (by decide) ⟨fun _ => ⟨fun _ => ⟨fun z => absurd rfl z, fun _ => ?_⟩, fun z => absurd z (by decide)⟩, fun z => absurd z (by decide)⟩
    apply k_many (e1.trans co.1) (e2.trans co.2.1) co.2.2.2.2.2.1 co.2.2.2.2.2.2
    intro τ' d l
    exact ⟨co.2.2.2.1, h.frM (cm_Many d)⟩
  · subst q
    unfold wpX1_distance
    refine inr _ (by decide) ⟨fun _ => ⟨fun _ => ⟨fun _ => ⟨fun z => absurd rfl z, fun _ => ?_⟩, fun z => absurd z (by decide)⟩, fun z => absurd z (by decide)⟩, fun z => absurd z (by decide)⟩
    apply k_distance
    exact ⟨by rw [e1, e2], h⟩
  · subst q
    refine inr _ (by decide) ⟨fun _ => ⟨fun _ => ⟨fun _ => ⟨fun _ => ⟨fun z => absurd rfl z, fun _ => ?_⟩, fun z => absurd z (by decide)⟩, fun z => absurd z (by decide)⟩, fun z => absurd z (by decide)⟩, fun z => absurd z (by decide)⟩
    apply k_places (e2.trans co.2.1) co.2.2.2.2.2.2
    exact ⟨co.2.2.1, h⟩
  · subst q
    refine ⟨by decide, inr _ (by decide) ⟨fun _ => ⟨fun _ => ⟨fun _ => ⟨fun _ => ⟨fun _ => ?_, fun z => absurd z (by decide)⟩, fun z => absurd z (by decide)⟩, fun z => absurd z (by decide)⟩, fun z => absurd z (by decide)⟩, fun z => absurd z (by decide)⟩⟩
    apply k_distance
    exact ⟨by decide, by rw [e1, e2], h⟩
  · apply q_bad
    unfold wpX9_of
    rw [show (0 : Int64) = (0 : Int32).toInt64 from rfl, show (5 : Int64) = (5 : Int32).toInt64 from rfl]
    apply k_in
    · intro h1 h2
      have hv := in_iff.mp ⟨h1, h2⟩
      obtain ⟨j, hj, rfl⟩ := nI_of2 (M := 5) (n := 5) rfl (nn0.mpr hv.1) hv.2
      rcases (show j = 0 ∨ j = 1 ∨ j = 2 ∨ j = 3 ∨ j = 4 ∨ j = 5 by omega) with rfl | rfl | rfl | rfl | rfl | rfl
      · exact absurd rfl q0
      · exact absurd rfl q1
      · exact absurd rfl q2
      · exact absurd rfl q3
      · exact absurd rfl q4
      · exact absurd rfl q5
    · intro _
      exact ⟨fun q => absurd rfl q, fun _ => k_bad ⟨rfl, R_bad h⟩⟩
theorem e_term {σ τ : wx_Z} (x : Int32) (h : RR σ τ) : wpX8_term σ x (fun a σ' => wpX9_term τ x (fun a' τ' => a = a' ∧ RR σ' τ')) := by
  obtain ⟨⟨o, m, hl⟩, -⟩ := id h
  obtain ⟨e1, e2, e3, e4⟩ := hl.2
  have co := hl.1.1
  obtain ⟨hlen, -, -⟩ := tl_len co
  unfold wpX8_term
  refine ⟨fun q => ?_, fun q => ?_⟩
  · have km : ∀ (K : Int32 → wx_Z → Prop), (∀ τ', cmM τ τ' → lay τ' (tl o m) → ((nI (tl o m).length ≤ x → K (-1) τ') ∧ (¬ (nI (tl o m).length ≤ x) → (vp_in x 32 ∧ K (τ' 4 (Int32.toNatClampNeg x)) τ')))) → wpX9_term τ x K := by
      intro K hk
      unfold wpX9_term
      refine ⟨fun _ => ?_, fun z => absurd q z⟩
      apply k_many (e1.trans co.1) (e2.trans co.2.1) co.2.2.2.2.2.1 co.2.2.2.2.2.2
      intro τ' d l
      exact hk τ' (cm_Many d) l
    rw [co.2.2.2.1]
    refine ⟨fun q2 => ?_, fun q2 => ?_⟩
    · apply km
      intro τ' d l
      exact ⟨fun _ => ⟨rfl, h.frM d⟩, fun z => absurd q2 z⟩
    · rcases pk_ix x (n := (tl o m).length) (by omega) with z | z | ⟨j, hj, z⟩
      · exact absurd z (nn0.mpr q)
      · exact absurd z q2
      · subst z
        refine ⟨vi (by omega), km _ (fun τ' d l => ⟨fun z => absurd z q2, fun _ => ⟨vi (by omega), ?_, h.frM d⟩⟩)⟩
        rw [cln (by omega), co.2.2.2.2.1 j hj, l.2 j hj]
  · apply q_bad
    unfold wpX9_term
    exact ⟨fun z => absurd z q, fun _ => k_bad ⟨rfl, R_bad h⟩⟩
/-! ===== word, encode, flip, now, at, weight ===== -/
theorem e_word {σ τ : wx_Z} (w : Int32) (h : RR σ τ) : wpX8_word σ w (fun a σ' => wpX9_word τ w (fun a' τ' => a = a' ∧ RR σ' τ')) := by
  obtain ⟨⟨o, m, hl⟩, ⟨x, c, hp⟩, ⟨n, ht⟩, hc⟩ := id h
  obtain ⟨e1, e2, e3, e4⟩ := hl.2
  have co := hl.1.1
  have h5 := co.2.2.2.2.2.2
  have hp2 := p2_le h5
  have hpos := p2_pos m
  unfold wpX8_word
  show wpX8_lowest σ (σ (cCo 0) 2) _
  rw [co.2.2.1]
  apply q_lowest
  dsimp only
  rw [mk_wi hpos hp2]
  refine ⟨fun q => ?_, fun q => ?_⟩
  · refine q_keep (by omega) hl.1 hp.2.1 hp.1 hp.2.2.1 hp.2.2.2.1 (fun σ1 hC σ2 es2 => ?_)
    unfold wpX9_word
    apply k_places (e2.trans co.2.1) h5
    apply k_isWithin hpos hp2 _ (fun z => absurd q z)
    intro _
    refine ⟨fun _ => ?_, fun z => absurd z (by decide)⟩
    refine k_keep hp.1 hp.2.2.2.2.1 (fun τ1 hM => ⟨vi (n := 2) (by decide), fun τ2 et2 => ⟨rfl, ?_⟩⟩)
    obtain ⟨hl1, hp1, ht1, hc1⟩ := both_keep hl hp ht hc hC hM
    rw [es2, et2]
    exact RR.word hl1 hp1 ht1 hc1 q
  · apply q_bad
    unfold wpX9_word
    apply k_places (e2.trans co.2.1) h5
    apply k_isWithin hpos hp2 (fun z => absurd z q)
    intro _
    exact ⟨fun z => absurd rfl z, fun _ => k_bad ⟨rfl, R_bad h⟩⟩
theorem sm_chosen {o m : Nat} {msg : Int32} (hom : o ≤ m) (h5 : m ≤ 5) : ∀ n, n ≤ (tl o m).length → ∃ ch : Int32, ch = Nat.rec (motive := fun _ => Int32) 0 (fun j acc => acc ||| ((wx_us msg (nI j) &&& 1) <<< (nI ((tl o m).getD j 0) &&& 31))) n ∧ sm m ch = xw (fun j => if bt msg j then wT m ((tl o m).getD j 0) else 0) n ∧ ∀ i, i < 32 → bt ch i = true → ∃ j', j' < n ∧ (tl o m).getD j' 0 = i := by
  obtain ⟨hlen, -, hmem⟩ := tl_fact m (by omega) o (by omega)
  intro n
  induction n with
  | zero => intro _; exact ⟨0, rfl, sm_0 m (by omega), fun i _ hb => by rw [b_0] at hb; cases hb⟩
  | succ n ih =>
    intro hn
    obtain ⟨ch, hch, hs, hb⟩ := ih (by omega)
    refine ⟨_, rfl, ?_, ?_⟩
    · show sm m (Nat.rec (motive := fun _ => Int32) 0 (fun j acc => acc ||| ((wx_us msg (nI j) &&& 1) <<< (nI ((tl o m).getD j 0) &&& 31))) n ||| _) = _
      rw [← hch, bit_u _ (by omega), xw]
      have ht := (hmem _ (getD_mem (l := tl o m) (j := n) (by omega))).1
      have hp := p2_le h5
      cases hbit : bt msg n
      · rw [show b2i false = 0 from rfl, show (0 : Int32) <<< (nI ((tl o m).getD n 0) &&& 31) = 0 from (by decide +kernel : ∀ t, t < 32 → (0 : Int32) <<< (nI t &&& 31) = 0) _ (by omega), Int32.or_zero, if_neg (by decide), Int32.xor_zero]
        exact hs
      · rw [show b2i true = 1 from rfl, if_pos rfl, or_xor, sm_xor h5, hs, sm_one m (by omega) _ ht]
        intro i hi hh
        rw [bt_sh1 (by omega) hi] at hh
        obtain ⟨j', h1, h2⟩ := hb i hi hh.1
        exact tl_ne hom h5 (by omega) h1 (h2.trans (of_decide_eq_true hh.2))
    · intro i hi hh
      have ht := (hmem _ (getD_mem (l := tl o m) (j := n) (by omega))).1
      have hp := p2_le h5
      have hh : bt (Nat.rec (motive := fun _ => Int32) 0 (fun j acc => acc ||| ((wx_us msg (nI j) &&& 1) <<< (nI ((tl o m).getD j 0) &&& 31))) n ||| ((wx_us msg (nI n) &&& 1) <<< (nI ((tl o m).getD n 0) &&& 31))) i = true := hh
      rw [← hch, b_or, bit_u _ (by omega)] at hh
      cases hc : bt ch i
      · rw [hc, Bool.false_or] at hh
        cases hbit : bt msg n
        · rw [hbit, show b2i false = 0 from rfl, show (0 : Int32) <<< (nI ((tl o m).getD n 0) &&& 31) = 0 from (by decide +kernel : ∀ t, t < 32 → (0 : Int32) <<< (nI t &&& 31) = 0) _ (by omega), b_0] at hh
          cases hh
        · rw [hbit, show b2i true = 1 from rfl, bt_sh1 (by omega) hi] at hh
          exact ⟨n, by omega, (of_decide_eq_true hh).symm⟩
      · obtain ⟨j', h1, h2⟩ := hb i hi hc
        exact ⟨j', by omega, h2⟩
theorem q_wordOf {σ : wx_Z} {g o m : Nat} {msg : Int32} {K : Int32 → wx_Z → Prop} (h : CO σ g o m) (hK : K (wMs m (tl o m) msg) σ) : wpX1_wordOf g σ msg K := by
  obtain ⟨hlen, -, -⟩ := tl_len h
  have h5 := h.2.2.2.2.2.2
  have hom := h.2.2.2.2.2.1
  have L : ∀ (d j : Nat), j + d = (tl o m).length → wpX1_wordOf_4 g K (d + 1) σ msg (Nat.rec (motive := fun _ => Int32) 0 (fun j acc => acc ||| ((wx_us msg (nI j) &&& 1) <<< (nI ((tl o m).getD j 0) &&& 31))) j) (nI j) := by
    intro d
    induction d with
    | zero =>
      intro j hj
      have hj : j = (tl o m).length := by omega
      subst hj
      unfold wpX1_wordOf_4
      rw [h.2.2.2.1]
      refine ⟨fun _ => ?_, fun q => absurd (Int32.le_refl _) q⟩
      apply q_summed h
      obtain ⟨ch, h1, h2, -⟩ := sm_chosen (msg := msg) hom h5 (tl o m).length (Nat.le_refl _)
      rw [← h1, h2]
      exact hK
    | succ d ih =>
      intro j hj
      unfold wpX1_wordOf_4
      rw [h.2.2.2.1]
      refine ⟨fun q => ?_, fun _ => ⟨vi (by omega), fun t26 e26 t27 e27 => ?_⟩⟩
      · rw [nI_leI (by omega) (by omega)] at q
        omega
      · rw [e26, e27, nI_1, cln (by omega), h.2.2.2.2.1 j (by omega)]
        exact ih (j + 1) (by omega)
  exact ⟨(tl o m).length + 1, L (tl o m).length 0 (by omega)⟩
theorem wi_wMs {m : Nat} {l : List Nat} {msg : Int32} (h5 : m ≤ 5) : wi (wMs m l msg) (2 ^ m) := by
  unfold wMs
  have : ∀ n, wi (xw (fun j => if bt msg j then wT m (l.getD j 0) else 0) n) (2 ^ m) := by
    intro n
    induction n with
    | zero => exact wi_0
    | succ n ih =>
      rw [xw]
      refine wi_xor ih ?_
      cases bt msg n
      · rw [if_neg (by decide)]; exact wi_0
      · rw [if_pos rfl]; exact wi_wT h5
  exact this _
theorem k_encodes {τ : wx_Z} {o m : Nat} {msg : Int32} (ho : τ 1 0 = nI o) (hm : τ 1 1 = nI m) (hom : o ≤ m) (h5 : m ≤ 5) {K : Int32 → wx_Z → Prop} (hK : ∀ τ', md sMany τ τ' → K (nI (pc (wMs m (tl o m) msg))) (wx_up τ' 1 2 (wMs m (tl o m) msg))) : wpX9_encodes τ msg K := by
  obtain ⟨hlen, -, hmem⟩ := tl_fact m (by omega) o (by omega)
  unfold wpX9_encodes
  apply k_many ho hm hom h5
  intro τ1 d1 l1
  apply k_sumOf ((d1 1 1 rfl).trans hm) h5 l1 hlen (fun t ht => Nat.lt_of_lt_of_le (hmem t ht).1 (p2_le h5))
  refine ⟨vi (n := 2) (by decide), fun σ16 e16 => ?_⟩
  apply k_theWord
  apply k_bits
  rw [e16, show Int32.toNatClampNeg 2 = 2 from rfl, up_s]
  exact hK τ1 d1
theorem e_encode {σ τ : wx_Z} (msg : Int32) (h : RR σ τ) : wpX8_encode σ msg (fun a σ' => wpX9_encode τ msg (fun a' τ' => a = a' ∧ RR σ' τ')) := by
  obtain ⟨⟨o, m, hl⟩, ⟨x, c, hp⟩, ⟨n, ht⟩, hc⟩ := id h
  obtain ⟨e1, e2, e3, e4⟩ := hl.2
  have co := hl.1.1
  have h5 := co.2.2.2.2.2.2
  have hom := co.2.2.2.2.2.1
  obtain ⟨hlen, hpos, -⟩ := tl_len co
  unfold wpX8_encode
  show wpX8_lowest σ (σ (cCo 0) 3) _
  rw [co.2.2.2.1]
  apply q_lowest
  dsimp only
  rw [mk_wi hpos hlen]
  refine ⟨fun q => ?_, fun q => ?_⟩
  · refine q_keep (by omega) hl.1 hp.2.1 hp.1 hp.2.2.1 hp.2.2.2.1 (fun σ1 hC => ?_)
    have nn : ∀ c' ∈ gl 0, c' ∉ 41 :: gl (2 + x) := fun c' h z => by
      have := gl_in h
      have := hp.2.1
      rcases List.mem_cons.mp z with z | z
      · omega
      · have := gl_in z
        omega
    apply q_wordOf (hl.1.fr hC.1 nn).1
    intro σ2 es2
    apply k_bitCount
    unfold wpX9_encode
    apply k_many (e1.trans co.1) (e2.trans co.2.1) hom h5
    intro τ0 d0 l0
    apply k_isWithin hpos hlen _ (fun z => absurd q z)
    intro _
    refine ⟨fun _ => ?_, fun z => absurd z (by decide)⟩
    have h0 : RR σ τ0 := h.frM (cm_Many d0)
    have e0 : EQ σ τ0 0 1 0 := ⟨(d0 1 0 rfl).trans e1, (d0 1 1 rfl).trans e2, (d0 1 2 rfl).trans e3, fun i hi => (d0 1 _ rfl).trans (e4 i hi)⟩
    have hp0 : RP σ τ0 x c := by
      obtain ⟨p1, p2, p3, p4, p5, p6⟩ := hp
      refine ⟨p1, p2, p3, p4, (d0 0 2 rfl).trans p5, fun i hi => ?_⟩
      obtain ⟨q1, k1, k2, k3, k4⟩ := p6 i hi
      exact ⟨q1, (d0 2 _ rfl).trans k1, (d0 2 _ rfl).trans k2, (d0 2 _ rfl).trans k3, fun j hj => (d0 2 _ rfl).trans (k4 j hj)⟩
    have ht0 : RT σ τ0 n := ⟨ht.1, ht.2.1, (d0 0 21 rfl).trans ht.2.2.1, fun i hi => ⟨(d0 11 _ rfl).trans (ht.2.2.2 i hi).1, (ht.2.2.2 i hi).2⟩⟩
    have hc0 : RC σ τ0 := ⟨(d0 3 0 rfl).trans hc.1, (d0 3 1 rfl).trans hc.2.1, (d0 3 2 rfl).trans hc.2.2⟩
    refine k_keep hp.1 hp0.2.2.2.2.1 (fun τ1 hM => ?_)
    obtain ⟨hl1, hp1, ht1, hc1⟩ := both_keep ⟨hl.1, e0⟩ hp0 ht0 hc0 hC hM
    obtain ⟨a1, a2, a3, a4⟩ := hl1.2
    have co1 := hl1.1.1
    apply k_encodes (a1.trans co1.1) (a2.trans co1.2.1) hom h5
    intro τ2 d2
    rw [es2, up_s]
    refine ⟨rfl, ?_⟩
    have R2 : RR (wx_up σ1 (cSt 0) 2 (wMs m (tl o m) msg)) (wx_up τ1 1 2 (wMs m (tl o m) msg)) := RR.word hl1 hp1 ht1 hc1 (wi_wMs h5)
    refine R2.frM (fun c' k' hk' => ?_)
    rw [up_at, up_at]
    by_cases z : c' = 1 ∧ k' = 2
    · rw [if_pos z, if_pos z]
    · rw [if_neg z, if_neg z]
      exact cm_Many d2 c' k' hk'
  · apply q_bad
    unfold wpX9_encode
    apply k_many (e1.trans co.1) (e2.trans co.2.1) hom h5
    intro τ0 d0 l0
    apply k_isWithin hpos hlen (fun z => absurd z q)
    intro _
    exact ⟨fun z => absurd rfl z, fun _ => k_bad ⟨rfl, R_bad (h.frM (cm_Many d0))⟩⟩

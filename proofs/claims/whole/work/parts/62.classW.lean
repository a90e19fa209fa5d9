/-! ===== levels of votes: what holds of them ===== -/
theorem tl_nd : ∀ m, m < 6 → ∀ r, r < 6 → (tl r m).Nodup := by decide +kernel
theorem tl_ne {o m j j' : Nat} (hom : o ≤ m) (h5 : m ≤ 5) (hj : j < (tl o m).length) (h : j' < j) : (tl o m).getD j' 0 ≠ (tl o m).getD j 0 := by
  have hn := tl_nd m (by omega) o (by omega)
  have := List.pairwise_iff_getElem.mp hn j' j (by omega) hj h
  rw [List.getD_eq_getElem?_getD, List.getD_eq_getElem?_getD, List.getElem?_eq_getElem hj, List.getElem?_eq_getElem (by omega)]
  exact this
theorem xor_self' (x : Int32) : x ^^^ x = 0 := Int32.xor_self
theorem xor_cancel (w x : Int32) : w ^^^ (w ^^^ x) = x := by rw [← Int32.xor_assoc, Int32.xor_self, Int32.zero_xor]
theorem or_xor {x y : Int32} (h : ∀ i, i < 32 → ¬ (bt x i = true ∧ bt y i = true)) : x ||| y = x ^^^ y := by
  apply b_ext
  intro i hi
  rw [b_or, b_xor]
  have := h i hi
  cases hx : bt x i <;> cases hy : bt y i <;> simp_all
theorem lvl_wi {m : Nat} {rest : Int32} {l : List Nat} {s : Nat} {B : vB} (h5 : m ≤ 5) (hB : wi B.2.1 (2 ^ m)) : ∀ j, wi (lvl m rest l s B j).2.1 (2 ^ m)
  | 0 => hB
  | j + 1 => by
    have ih := lvl_wi (rest := rest) (l := l) (s := s) h5 hB j
    rw [lvl]
    by_cases h : pcF 5 (l.getD j 0) = s
    · rw [if_pos h]
      unfold vst
      dsimp only
      by_cases q : lead m rest (l.getD j 0) ≤ 0
      · rw [if_pos q]; exact wi_xor ih wi_0
      · rw [if_neg q]; exact wi_xor ih (wi_wT h5)
    · rw [if_neg h]; exact ih
def mgC (cl by' : Int32) : Int32 := if cl = -1 then 33 else by'
def RB (σ : wx_Z) (msg ties cl by' : Int32) : Prop := σ 45 0 = msg ∧ σ 45 2 = ties ∧ σ 45 3 = cl ∧ σ 45 4 = mgC cl by'
theorem nI_ne1 {t : Nat} (h : t < 32) : ¬ nI t = -1 := (by decide +kernel : ∀ t, t < 32 → ¬ nI t = -1) t h
theorem mg_step {m t : Nat} {rest cl by' : Int32} (h5 : m ≤ 5) : ¬ mgC cl by' ≤ ab (lead m rest t) ↔ (cl = -1 ∨ ¬ by' ≤ ab (lead m rest t)) := by
  unfold mgC
  by_cases h : cl = -1
  · rw [if_pos h]; exact ⟨fun _ => Or.inl h, fun _ => ab_lead h5⟩
  · rw [if_neg h]; exact ⟨fun q => Or.inr q, fun q => q.elim (fun z => absurd z h) id⟩
theorem q_wordVoted {σ : wx_Z} {g o m s : Nat} {rest : Int32} {b : Int32 × Int32 × Int32 × Int32} {K : Int32 → wx_Z → Prop} (h : CO σ g o m) (hw : wi rest (2 ^ m)) (hs : s ≤ 5) (hb : RB σ b.1 b.2.1 b.2.2.1 b.2.2.2)
    (hK : ∀ σ', fr [45] σ σ' → σ' 45 1 = σ 45 1 → RB σ' (lvl m rest (tl o m) s (b.1, 0, b.2) (tl o m).length).1 (lvl m rest (tl o m) s (b.1, 0, b.2) (tl o m).length).2.2.1 (lvl m rest (tl o m) s (b.1, 0, b.2) (tl o m).length).2.2.2.1 (lvl m rest (tl o m) s (b.1, 0, b.2) (tl o m).length).2.2.2.2 → K (lvl m rest (tl o m) s (b.1, 0, b.2) (tl o m).length).2.1 σ') : wpX0_wordVoted g σ rest (nI s) K := by
  have h5 := h.2.2.2.2.2.2
  have hom := h.2.2.2.2.2.1
  have hp := p2_le h5
  obtain ⟨hlen, hpos, hmem⟩ := tl_len h
  generalize hB0 : ((b.1, 0, b.2) : vB) = B0 at hK
  have L : ∀ (d j : Nat) (σ' : wx_Z) (ch : Int32), j + d = (tl o m).length → fr [45] σ σ' → σ' 45 1 = σ 45 1 → RB σ' (lvl m rest (tl o m) s B0 j).1 (lvl m rest (tl o m) s B0 j).2.2.1 (lvl m rest (tl o m) s B0 j).2.2.2.1 (lvl m rest (tl o m) s B0 j).2.2.2.2 → sm m ch = (lvl m rest (tl o m) s B0 j).2.1 → (∀ i, i < 32 → bt ch i = true → ∃ j', j' < j ∧ (tl o m).getD j' 0 = i) → wpX0_wordVoted_6 g K (d + 1) σ' rest (nI s) ch (nI j) := by
    intro d
    induction d with
    | zero =>
      intro j σ' ch hj f0 f1 hr hch hbits
      have hj : j = (tl o m).length := by omega
      subst hj
      have h' := h.fr f0 (co_45 g).1 (co_45 g).2.1
      unfold wpX0_wordVoted_6
      rw [h'.2.2.2.1]
      refine ⟨fun _ => ?_, fun q => absurd (Int32.le_refl _) q⟩
      apply q_summed h'
      rw [hch]
      exact hK σ' f0 f1 hr
    | succ d ih =>
      intro j σ' ch hj f0 f1 hr hch hbits
      have hjl : j < (tl o m).length := by omega
      have ht := hmem _ (getD_mem hjl)
      have h' := h.fr f0 (co_45 g).1 (co_45 g).2.1
      unfold wpX0_wordVoted_6
      rw [h'.2.2.2.1]
      have hb5 : pcF 5 ((tl o m).getD j 0) < 2 ^ 31 := by
        have : pcF 5 ((tl o m).getD j 0) ≤ 5 := (by decide +kernel : ∀ t, t < 32 → pcF 5 t ≤ 5) _ ht.2
        omega
      refine ⟨fun q => ?_, fun _ => ⟨vi (by omega), ?_⟩⟩
      · rw [nI_leI (by omega) (by omega)] at q
        omega
      · rw [cln (by omega), h'.2.2.2.2.1 j hjl]
        apply k_bitCount
        rw [pc_5 _ ht.2]
        have ih2 := ih (j + 1)
        rw [lvl] at ih2
        refine ⟨fun q t66 e66 => ?_, fun q => ?_⟩
        · rw [e66, nI_1]
          rw [nI_eq hb5 (by omega)] at q
          rw [if_neg q] at ih2
          exact ih2 σ' ch (by omega) f0 f1 hr hch (fun i hi hb => by obtain ⟨j', h1, h2⟩ := hbits i hi hb; exact ⟨j', by omega, h2⟩)
        · rw [nI_eq hb5 (by omega)] at q
          rw [if_pos q] at ih2
          apply q_isCarried h' hw ht.2
          intro σ1 g0 g1 g2 g3 g4 g5
          rw [hr.2.2.2] at g4 g5
          rw [hr.2.1] at g3
          rw [hr.2.2.1] at g4
          rw [hr.1] at g1
          have key : ∀ (σ2 : wx_Z) (mm : Int32), σ2 45 0 = mm → σ2 45 2 = σ1 45 2 → σ2 45 3 = σ1 45 3 → σ2 45 4 = σ1 45 4 → mm = (vst m rest (lvl m rest (tl o m) s B0 j) j ((tl o m).getD j 0)).1 → RB σ2 (vst m rest (lvl m rest (tl o m) s B0 j) j ((tl o m).getD j 0)).1 (vst m rest (lvl m rest (tl o m) s B0 j) j ((tl o m).getD j 0)).2.2.1 (vst m rest (lvl m rest (tl o m) s B0 j) j ((tl o m).getD j 0)).2.2.2.1 (vst m rest (lvl m rest (tl o m) s B0 j) j ((tl o m).getD j 0)).2.2.2.2 := by
            intro σ2 mm k0 k2 k3 k4 hmm
            refine ⟨k0.trans hmm, k2.trans g3, ?_, ?_⟩
            · rw [k3, g4]
              unfold vst
              dsimp only
              by_cases c : ¬ mgC (lvl m rest (tl o m) s B0 j).2.2.2.1 (lvl m rest (tl o m) s B0 j).2.2.2.2 ≤ ab (lead m rest ((tl o m).getD j 0))
              · rw [if_pos c, if_pos ((mg_step h5).mp c)]
              · rw [if_neg c, if_neg (fun z => c ((mg_step h5).mpr z))]
            · rw [k4, g5]
              unfold vst
              dsimp only
              by_cases c : ¬ mgC (lvl m rest (tl o m) s B0 j).2.2.2.1 (lvl m rest (tl o m) s B0 j).2.2.2.2 ≤ ab (lead m rest ((tl o m).getD j 0))
              · rw [if_pos c, if_pos ((mg_step h5).mp c), if_pos ((mg_step h5).mp c)]
                unfold mgC
                rw [if_neg (nI_ne1 ht.2)]
              · rw [if_neg c, if_neg (fun z => c ((mg_step h5).mpr z)), if_neg (fun z => c ((mg_step h5).mpr z))]
          have f0' : fr [45] σ σ1 := f0.tr g0
          have f1' : σ1 45 1 = σ 45 1 := g2.trans f1
          refine ⟨fun q2 t66 e66 => ?_, fun q2 σ54 e54 t64 e64 t66 e66 => ?_⟩
          · have q3 : lead m rest ((tl o m).getD j 0) ≤ 0 := by
              by_cases z : lead m rest ((tl o m).getD j 0) ≤ 0
              · exact z
              · rw [if_neg z] at q2; exact absurd q2 (by decide)
            rw [e66, nI_1]
            refine ih2 σ1 ch (by omega) f0' f1' (key σ1 _ g1 rfl rfl rfl ?_) ?_ (fun i hi hb => by obtain ⟨j', h1, h2⟩ := hbits i hi hb; exact ⟨j', by omega, h2⟩)
            · unfold vst
              dsimp only
              rw [if_pos q3, Int32.or_zero]
            · rw [hch]
              unfold vst
              dsimp only
              rw [if_pos q3, Int32.xor_zero]
          · have q3 : ¬ lead m rest ((tl o m).getD j 0) ≤ 0 := by
              intro z
              rw [if_pos z] at q2
              exact q2 rfl
            rw [e66, nI_1]
            have hdis : ∀ i, i < 32 → ¬ (bt ch i = true ∧ bt (1 <<< (nI ((tl o m).getD j 0) &&& 31)) i = true) := by
              intro i hi hh
              rw [bt_sh1 ht.2 hi] at hh
              obtain ⟨j', h1, h2⟩ := hbits i hi hh.1
              have h3 := of_decide_eq_true hh.2
              exact tl_ne hom h5 hjl h1 (h2.trans h3)
            refine ih2 σ54 t64 (by omega) ?_ ?_ (key σ54 ((lvl m rest (tl o m) s B0 j).1 ||| (1 <<< (nI j &&& 31))) ?_ ?_ ?_ ?_ ?_) ?_ ?_
            · rw [e54]; exact f0'.up (by decide)
            · rw [e54, up_k (by decide)]; exact f1'
            · rw [e54, up_s, g1]
            · rw [e54, up_k (by decide)]
            · rw [e54, up_k (by decide)]
            · rw [e54, up_k (by decide)]
            · unfold vst
              dsimp only
              rw [if_neg q3]
            · rw [e64, or_xor hdis, sm_xor h5, hch, sm_one m (by omega) _ ht.1]
              unfold vst
              dsimp only
              rw [if_neg q3]
            · intro i hi hb
              rw [e64, b_or, bt_sh1 ht.2 hi] at hb
              cases hc : bt ch i
              · rw [hc] at hb
                simp at hb
                exact ⟨j, by omega, hb.symm⟩
              · obtain ⟨j', h1, h2⟩ := hbits i hi hc
                exact ⟨j', by omega, h2⟩
  refine ⟨(tl o m).length + 1, L (tl o m).length 0 σ 0 (by omega) fr.rf rfl ?_ ?_ ?_⟩
  · rw [← hB0]; exact hb
  · rw [← hB0]; exact sm_0 m (by omega)
  · intro i hi hb
    rw [b_0] at hb
    cases hb
theorem q_hold {σ : wx_Z} {g o m : Nat} {w : Int32} {K : wx_Z → Prop} (h : CO σ g o m) (hw : wi w (2 ^ m))
    (hK : ∀ σ', fr [45] σ σ' → σ' 45 1 = w ^^^ (vall o m w).1 → RB σ' (vall o m w).2.1 (vall o m w).2.2.1 (vall o m w).2.2.2.1 (vall o m w).2.2.2.2 → K σ') : wpX0_hold g σ w K := by
  have h5 := h.2.2.2.2.2.2
  have hom := h.2.2.2.2.2.1
  unfold wpX0_hold
  intro σ2 e2 σ7 e7 σ12 e12 σ17 e17 σ23 e23
  have f23 : fr [45] σ σ23 := by
    rw [e23, e17, e12, e7, e2]
    exact ((((fr.rf.up (by decide)).up (by decide)).up (by decide)).up (by decide)).up (by decide)
  have h23 := h.fr f23 (co_45 g).1 (co_45 g).2.1
  have L : ∀ (s : Nat) (σ' : wx_Z) (left : Int32) (b : Int32 × Int32 × Int32 × Int32), s ≤ 6 → fr [45] σ σ' → σ' 45 1 = w ^^^ left → wi left (2 ^ m) → RB σ' b.1 b.2.1 b.2.2.1 b.2.2.2 → vout m (tl o m) s left b = vall o m w → wpX0_hold_31 g K (s + 1) σ' w (nI s + (-1)) := by
    intro s
    induction s with
    | zero =>
      intro σ' left b _ f0 f1 hl hr hv
      unfold wpX0_hold_31
      have h1 : left = (vall o m w).1 := by rw [← hv]; rfl
      have h2 : b = (vall o m w).2 := by rw [← hv]; rfl
      subst h1
      subst h2
      exact ⟨fun _ => hK σ' f0 f1 hr, fun q => absurd (by decide) q⟩
    | succ s ih =>
      intro σ' left b hs f0 f1 hl hr hv
      rw [pk_m1]
      unfold wpX0_hold_31
      refine ⟨fun q => absurd q (nI_pos (by omega)), fun _ => ?_⟩
      have h' := h.fr f0 (co_45 g).1 (co_45 g).2.1
      rw [f1, xor_cancel]
      apply q_wordVoted h' hl (by omega) hr
      intro σ1 g0 g1 g2 σ53 e53 t56 e56
      rw [e56]
      refine ih σ53 (left ^^^ (lvl m left (tl o m) s (b.1, 0, b.2) (tl o m).length).2.1) _ (by omega) ?_ ?_ (wi_xor hl (lvl_wi h5 wi_0 _)) ?_ hv
      · rw [e53]; exact (f0.tr g0).up (by decide)
      · rw [e53, up_s, Int32.xor_assoc]
      · rw [e53]
        refine ⟨?_, ?_, ?_, ?_⟩
        · rw [up_k (by decide)]; exact g2.1
        · rw [up_k (by decide)]; exact g2.2.1
        · rw [up_k (by decide)]; exact g2.2.2.1
        · rw [up_k (by decide)]; exact g2.2.2.2
  refine ⟨o + 1 + 1, ?_⟩
  have e0 : σ23 (cCo g) 0 = nI (o + 1) + (-1) := by rw [pk_m1]; exact h23.1
  rw [e0]
  refine L (o + 1) σ23 w (0, 0, -1, 0) (by omega) f23 ?_ hw ?_ rfl
  · rw [e23, up_k (by decide), e17, up_k (by decide), e12, up_k (by decide), e7, up_s, Int32.xor_self]
  · refine ⟨?_, ?_, ?_, ?_⟩
    · rw [e23, up_k (by decide), e17, up_k (by decide), e12, up_k (by decide), e7, up_k (by decide), e2, up_s]
    · rw [e23, up_k (by decide), e17, up_k (by decide), e12, up_s]
    · rw [e23, up_k (by decide), e17, up_s]
    · rw [e23, up_s]; rfl

/-! ===== what the votes take off is the message's word ===== -/
theorem xw_one {f f' : Nat → Int32} {j : Nat} : ∀ {n : Nat}, j < n → (∀ k, k < n → k ≠ j → f' k = f k) → f j = 0 → xw f' n = xw f n ^^^ f' j
  | 0, h, _, _ => absurd h (Nat.not_lt_zero j)
  | n + 1, h, h1, h2 => by
    rw [xw, xw]
    by_cases e : j = n
    · subst e
      rw [xw_cong (fun k hk => h1 k (by omega) (by omega)), h2, Int32.xor_zero]
    · rw [xw_one (n := n) (by omega) (fun k hk => h1 k (by omega)) h2, h1 n (by omega) (fun z => e z.symm), Int32.xor_assoc, Int32.xor_assoc, Int32.xor_comm (f' j)]
theorem wMs_set {m : Nat} {l : List Nat} {msg : Int32} {j : Nat} (hj : j < l.length) (hl : l.length ≤ 32) (hb : bt msg j = false) : wMs m l (msg ||| (1 <<< (nI j &&& 31))) = wMs m l msg ^^^ wT m (l.getD j 0) := by
  unfold wMs
  rw [xw_one (f := fun j => if bt msg j then wT m (l.getD j 0) else 0) hj]
  · congr 1
    rw [if_pos]
    rw [b_or, bt_sh1 (by omega) (by omega)]
    simp
  · intro k hk hne
    have e : bt (msg ||| (1 <<< (nI j &&& 31))) k = bt msg k := by
      rw [b_or, bt_sh1 (by omega) (by omega)]
      simp [hne]
    rw [e]
  · rw [hb]; rfl
theorem lvl_inv {m : Nat} {l : List Nat} {s : Nat} {w left : Int32} {B : vB} (hl : l.length ≤ 32) (h1 : (w ^^^ left) ^^^ B.2.1 = wMs m l B.1) (h2 : ∀ j', j' < l.length → pcF 5 (l.getD j' 0) ≤ s → bt B.1 j' = false) :
    ∀ j, j ≤ l.length → (w ^^^ left) ^^^ (lvl m left l s B j).2.1 = wMs m l (lvl m left l s B j).1 ∧ ∀ j', j' < l.length → (pcF 5 (l.getD j' 0) < s ∨ (pcF 5 (l.getD j' 0) = s ∧ j ≤ j')) → bt (lvl m left l s B j).1 j' = false
  | 0, _ => ⟨h1, fun j' hj' hh => h2 j' hj' (by omega)⟩
  | j + 1, hj => by
    obtain ⟨i1, i2⟩ := lvl_inv (left := left) hl h1 h2 j (by omega)
    rw [lvl]
    by_cases h : pcF 5 (l.getD j 0) = s
    · rw [if_pos h]
      unfold vst
      dsimp only
      by_cases q : lead m left (l.getD j 0) ≤ 0
      · rw [if_pos q, if_pos q, Int32.or_zero, Int32.xor_zero]
        exact ⟨i1, fun j' hj' hh => i2 j' hj' (by omega)⟩
      · rw [if_neg q, if_neg q, wMs_set (by omega) hl (i2 j (by omega) (Or.inr ⟨h, Nat.le_refl j⟩)), ← Int32.xor_assoc, i1]
        refine ⟨rfl, fun j' hj' hh => ?_⟩
        rw [b_or, bt_sh1 (by omega) (by omega), i2 j' hj' (by omega)]
        have : ¬ j' = j := by
          intro e
          subst e
          omega
        simp [this]
    · rw [if_neg h]
      refine ⟨i1, fun j' hj' hh => i2 j' hj' ?_⟩
      rcases hh with hh | hh
      · exact Or.inl hh
      · refine Or.inr ⟨hh.1, by omega⟩
theorem vout_inv {m : Nat} {l : List Nat} {w : Int32} (hl : l.length ≤ 32) : ∀ (s : Nat) (left : Int32) (b : Int32 × Int32 × Int32 × Int32), w ^^^ left = wMs m l b.1 → (∀ j', j' < l.length → pcF 5 (l.getD j' 0) < s → bt b.1 j' = false) → w ^^^ (vout m l s left b).1 = wMs m l (vout m l s left b).2.1
  | 0, left, b, h1, _ => h1
  | s + 1, left, b, h1, h2 => by
    rw [vout]
    obtain ⟨i1, i2⟩ := lvl_inv (s := s) (left := left) (B := (b.1, 0, b.2.1, b.2.2.1, b.2.2.2)) (w := w) hl (by rw [Int32.xor_zero]; exact h1) (fun j' hj' hp => h2 j' hj' (by omega)) l.length (Nat.le_refl _)
    refine vout_inv hl s _ _ ?_ (fun j' hj' hp => i2 j' hj' (Or.inl hp))
    rw [← Int32.xor_assoc]
    exact i1
theorem wMs_0 (m : Nat) (l : List Nat) : wMs m l 0 = 0 := by
  unfold wMs
  have : ∀ n, xw (fun j => if bt 0 j then wT m (l.getD j 0) else 0) n = 0 := by
    intro n
    induction n with
    | zero => rfl
    | succ n ih => rw [xw, ih, b_0, if_neg (by decide), Int32.xor_zero]
  exact this _
theorem vall_mend {o m : Nat} (hom : o ≤ m) (h5 : m ≤ 5) (w : Int32) : w ^^^ (vall o m w).1 = wMs m (tl o m) (vall o m w).2.1 := by
  obtain ⟨hlen, -, -⟩ := tl_fact m (by omega) o (by omega)
  refine vout_inv hlen (o + 1) w (0, 0, -1, 0) ?_ (fun j' _ _ => b_0 j')
  rw [Int32.xor_self, wMs_0]
/-! ===== some term is the closest ===== -/
theorem lvl_cl {m : Nat} {rest : Int32} {l : List Nat} {s : Nat} {B : vB} (hl : ∀ t ∈ l, t < 32) : ∀ j, j ≤ l.length → (¬ B.2.2.2.1 = -1 ∨ ∃ j', j' < j ∧ pcF 5 (l.getD j' 0) = s) → ¬ (lvl m rest l s B j).2.2.2.1 = -1
  | 0, _, h => h.elim id (fun ⟨j', hj, _⟩ => absurd hj (Nat.not_lt_zero j'))
  | j + 1, hj, h => by
    rw [lvl]
    by_cases e : pcF 5 (l.getD j 0) = s
    · rw [if_pos e]
      unfold vst
      dsimp only
      by_cases q : (lvl m rest l s B j).2.2.2.1 = -1 ∨ ¬ (lvl m rest l s B j).2.2.2.2 ≤ ab (lead m rest (l.getD j 0))
      · rw [if_pos q]; exact nI_ne1 (hl _ (getD_mem (by omega)))
      · rw [if_neg q]; exact fun z => q (Or.inl z)
    · rw [if_neg e]
      refine lvl_cl hl j (by omega) (h.imp_right (fun ⟨j', h1, h2⟩ => ⟨j', ?_, h2⟩))
      have : ¬ j' = j := fun z => e (z ▸ h2)
      omega
theorem vout_cl {m : Nat} {l : List Nat} (hl : ∀ t ∈ l, t < 32) (h0 : 0 < l.length) (hz : pcF 5 (l.getD 0 0) = 0) : ∀ (s : Nat) (left : Int32) (b : Int32 × Int32 × Int32 × Int32), (¬ b.2.2.1 = -1 ∨ 0 < s) → ¬ (vout m l s left b).2.2.2.1 = -1
  | 0, _, b, h => h.elim id (fun z => absurd z (Nat.lt_irrefl 0))
  | s + 1, left, b, h => by
    rw [vout]
    refine vout_cl hl h0 hz s _ _ ?_
    rcases Nat.eq_zero_or_pos s with e | e
    · subst e
      exact Or.inl (lvl_cl hl _ (Nat.le_refl _) (Or.inr ⟨0, h0, hz⟩))
    · exact Or.inr e
theorem tl_00 : ∀ m, m < 6 → ∀ r, r < 6 → (tl r m).getD 0 0 = 0 := by decide +kernel
theorem vall_cl {o m : Nat} (hom : o ≤ m) (h5 : m ≤ 5) (w : Int32) : ¬ (vall o m w).2.2.2.1 = -1 := by
  obtain ⟨-, hpos, hmem⟩ := tl_fact m (by omega) o (by omega)
  refine vout_cl (fun t ht => Nat.lt_of_lt_of_le (hmem t ht).1 (p2_le h5)) hpos ?_ (o + 1) w (0, 0, -1, 0) (Or.inr (by omega))
  rw [tl_00 m (by omega) o (by omega)]
  rfl
theorem vall_wi {o m : Nat} (h5 : m ≤ 5) (hom : o ≤ m) {w : Int32} (hw : wi w (2 ^ m)) : wi (w ^^^ (vall o m w).1) (2 ^ m) := by
  have : ∀ (s : Nat) (left : Int32) (b : Int32 × Int32 × Int32 × Int32), wi left (2 ^ m) → wi (vout m (tl o m) s left b).1 (2 ^ m) := by
    intro s
    induction s with
    | zero => intro left b h; exact h
    | succ s ih => intro left b h; rw [vout]; exact ih _ _ (wi_xor h (lvl_wi h5 wi_0 _))
  exact wi_xor hw (this _ _ _ hw)

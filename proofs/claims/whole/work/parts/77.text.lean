/-! ===== texts: blanks, letters ===== -/
def sbf (t : Nat → Int32) : Nat → Nat → Nat
  | 0, p => p
  | d + 1, p => if t p = 32 then sbf t d (p + 1) else p
def sb (t : Nat → Int32) (n p : Nat) : Nat := sbf t (n - p) p
theorem sb_end {t : Nat → Int32} {n p : Nat} (h : n ≤ p) : sb t n p = p := by unfold sb; rw [show n - p = 0 by omega]; rfl
theorem sb_yes {t : Nat → Int32} {n p : Nat} (h : p < n) (e : t p = 32) : sb t n p = sb t n (p + 1) := by
  unfold sb
  rw [show n - p = (n - (p + 1)) + 1 by omega, sbf, if_pos e]
theorem sb_no {t : Nat → Int32} {n p : Nat} (h : p < n) (e : ¬ t p = 32) : sb t n p = p := by
  unfold sb
  rw [show n - p = (n - (p + 1)) + 1 by omega, sbf, if_neg e]
theorem sbf_le (t : Nat → Int32) : ∀ d p, p ≤ sbf t d p ∧ sbf t d p ≤ p + d
  | 0, p => ⟨Nat.le_refl _, Nat.le_refl _⟩
  | d + 1, p => by
    rw [sbf]
    by_cases e : t p = 32
    · rw [if_pos e]
      have := sbf_le t d (p + 1)
      omega
    · rw [if_neg e]; omega
theorem sb_le {t : Nat → Int32} {n p : Nat} (h : p ≤ n) : p ≤ sb t n p ∧ sb t n p ≤ n := by
  have := sbf_le t (n - p) p
  unfold sb
  omega
def sT (c k : Nat) : Bool := c == 43 && (k == 1 || k == 3)
def TS (σ : wx_Z) (t : Nat → Int32) (n p : Nat) (f : Int32) : Prop := (∀ i, i < n → σ 44 i = t i) ∧ σ 43 2 = nI n ∧ σ 43 1 = nI p ∧ σ 43 3 = f ∧ n ≤ 120 ∧ p ≤ n ∧ ∀ i, i < n → 0 ≤ (t i).toInt ∧ (t i).toInt ≤ 127
theorem TS.next {σ : wx_Z} {t : Nat → Int32} {n p p' : Nat} {f : Int32} (h : TS σ t n p f) (hp : p' ≤ n) : TS (wx_up σ 43 1 (nI p')) t n p' f := by
  obtain ⟨a, b, c, d, e, g, i⟩ := h
  exact ⟨fun i hi => by rw [up_c (by decide)]; exact a i hi, by rw [up_k (by decide)]; exact b, up_s _ _ _ _, by rw [up_k (by decide)]; exact d, e, hp, i⟩
theorem q_skip {σ : wx_Z} {t : Nat → Int32} {n p : Nat} {f : Int32} {K : wx_Z → Prop} (h : TS σ t n p f) (hK : ∀ σ', md sT σ σ' → TS σ' t n (sb t n p) f → K σ') : wpX6_skipBlanks σ K := by
  have L : ∀ (d p : Nat) (σ' : wx_Z), p + d = n → md sT σ σ' → TS σ' t n p f → (∀ σ'', md sT σ σ'' → TS σ'' t n (sb t n p) f → K σ'') → wpX6_skipBlanks_0 K (d + 1) σ' := by
    intro d
    induction d with
    | zero =>
      intro p σ' hp hm hT hK
      have hp : p = n := by omega
      subst hp
      unfold wpX6_skipBlanks_0
      rw [hT.2.1, hT.2.2.1]
      refine ⟨fun _ => hK σ' hm ?_, fun q => absurd (Int32.le_refl _) q⟩
      rw [sb_end (Nat.le_refl _)]
      exact hT
    | succ d ih =>
      intro p σ' hp hm hT hK
      have hn := hT.2.2.2.2.1
      unfold wpX6_skipBlanks_0
      rw [hT.2.1, hT.2.2.1, cln (by omega), hT.1 p (by omega)]
      refine ⟨fun q => ?_, fun _ => ⟨vi (by omega), fun q => hK σ' hm ?_, fun q σ1 e1 => ?_⟩⟩
      · rw [nI_leI (by omega) (by omega)] at q
        omega
      · rw [sb_no (by omega) q]; exact hT
      · rw [nI_1] at e1
        rw [e1]
        refine ih (p + 1) _ (by omega) (hm.up rfl) (hT.next (by omega)) (fun σ'' h1 h2 => hK σ'' h1 ?_)
        rw [sb_yes (by omega) q]; exact h2
  exact ⟨n - p + 1, L (n - p) p σ (by have := h.2.2.2.2.2.1; omega) md.rf h hK⟩
theorem q_isAtEnd {σ : wx_Z} {t : Nat → Int32} {n p : Nat} {f : Int32} {K : Int32 → wx_Z → Prop} (h : TS σ t n p f) (h0 : sb t n p < n → ∀ σ', md sT σ σ' → TS σ' t n (sb t n p) f → K 0 σ') (h1 : sb t n p = n → ∀ σ', md sT σ σ' → TS σ' t n (sb t n p) f → K 1 σ') : wpX6_isAtEnd σ K := by
  have hb := sb_le (t := t) h.2.2.2.2.2.1
  have hn := h.2.2.2.2.1
  unfold wpX6_isAtEnd
  apply q_skip h
  intro σ1 m1 T1
  rw [T1.2.1, T1.2.2.1, nI_ltI (by omega) (by omega)]
  exact ⟨fun q => h0 q σ1 m1 T1, fun q => h1 (by omega) σ1 m1 T1⟩
def fa (f : Int32) (s : Nat) : Int32 := if f = -1 then nI s else f
theorem q_failAt {σ : wx_Z} {t : Nat → Int32} {n p s : Nat} {f : Int32} {K : wx_Z → Prop} (h : TS σ t n p f) (hK : ∀ σ', md sT σ σ' → TS σ' t n p (fa f s) → K σ') : wpX6_failAt σ (nI s) K := by
  unfold wpX6_failAt
  rw [h.2.2.2.1]
  obtain ⟨a, b, c, d, e, g, i⟩ := h
  refine ⟨fun q => hK σ md.rf ⟨a, b, c, ?_, e, g, i⟩, fun q σ1 e1 => hK σ1 (by rw [e1]; exact md.rf.up rfl) ⟨fun i hi => by rw [e1, up_c (by decide)]; exact a i hi, ?_, ?_, ?_, e, g, i⟩⟩
  · unfold fa; rw [if_neg q]; exact d
  · rw [e1, up_k (by decide)]; exact b
  · rw [e1, up_k (by decide)]; exact c
  · rw [e1, up_s]; unfold fa; rw [if_pos q]
def lt7 (j : Nat) (c : Int32) : Prop := ∃ i, i < wC_len j ∧ wC_byt j i = c
theorem wl_2 : ∀ j, j < 2 → wC_len j ≤ 7 ∧ 0 < wC_len j := by decide
theorem q_indexOf {σ : wx_Z} {j : Nat} {c : Int32} {K : Int32 → wx_Z → Prop} (hj : j < 2) (hc : 0 ≤ c.toInt ∧ c.toInt ≤ 127) (h1 : lt7 j c → ∀ i, i < 7 → K (nI i) σ) (h0 : ¬ lt7 j c → K (-1) σ) : wpJ0_indexOf_0f7a4 j σ c K := by
  obtain ⟨l7, l0⟩ := wl_2 j hj
  unfold wpJ0_indexOf_0f7a4 wpJ0_indexOf_7cf53 wpJ0_isLatin1_aae02
  refine ⟨fun z => absurd z (by decide), fun _ => ⟨fun z => absurd rfl z, fun _ => ⟨fun z => absurd z (by decide), fun _ => ?_⟩⟩⟩
  unfold wpJ0_length_8abf5 wpJ0_coder_7d493
  refine ⟨fun z => absurd z (by decide), fun _ => ?_⟩
  have e1 : Int32.ofNat (wC_len j) >>> ((0 : Int32) &&& 31) = nI (wC_len j) := (by decide +kernel : ∀ j, j < 2 → Int32.ofNat (wC_len j) >>> ((0 : Int32) &&& 31) = nI (wC_len j)) j hj
  dsimp only
  rw [e1]
  unfold wpJ1_indexOf_4cfef wpJ1_canEncode_9a6ad
  have z0 : (0 : Int32).toInt = 0 := rfl
  have z255 : (255 : Int32).toInt = 255 := rfl
  refine ⟨fun z => ?_, fun _ => ⟨fun z => ?_, fun _ => ⟨fun _ => ?_, fun z => absurd z (by decide)⟩⟩⟩
  · rw [Int32.lt_iff_toInt_lt] at z; omega
  · rw [Int32.lt_iff_toInt_lt] at z; omega
  · intro t11 e11 t18 e18
    rw [if_neg (by decide)] at e11
    have e18 : t18 = nI (wC_len j) := by
      rw [e18]
      by_cases q : Int32.ofNat (wC_len j) < nI (wC_len j)
      · rw [if_pos q]; rfl
      · rw [if_neg q]
    rw [e11, e18]
    refine ⟨fun _ => ?_, fun z => absurd (nI_lt l0 (by omega)) z⟩
    unfold wpJ1_indexOfChar_4cfef
    intro t2 e2
    rw [fb_byte (by omega) (by omega)] at e2
    rw [e2]
    have L : ∀ (d i : Nat), i + d = wC_len j → (∀ k, k < i → ¬ wC_byt j k = c) → wpJ1_indexOfChar_4cfef_7 j K (d + 1) σ (nI (wC_len j)) c (nI i) := by
      intro d
      induction d with
      | zero =>
        intro i hi hk
        have hi : i = wC_len j := by omega
        subst hi
        unfold wpJ1_indexOfChar_4cfef_7
        refine ⟨fun _ => h0 (fun ⟨k, hk1, hk2⟩ => hk k hk1 hk2), fun q => absurd (Int32.le_refl _) q⟩
      | succ d ih =>
        intro i hi hk
        unfold wpJ1_indexOfChar_4cfef_7
        rw [cln (by omega)]
        refine ⟨fun q => ?_, fun _ => ⟨vp_in_nI (by omega) (by omega), fun q t25 e25 => ?_, fun q => ?_⟩⟩
        · rw [nI_leI (by omega) (by omega)] at q
          omega
        · rw [e25, nI_1]
          refine ih (i + 1) (by omega) (fun k hk2 => ?_)
          by_cases q2 : k = i
          · subst q2; exact q
          · exact hk k (by omega)
        · exact h1 ⟨i, by omega, q⟩ i (by omega)
    exact ⟨wC_len j + 1, L (wC_len j) 0 (by omega) (fun k hk => absurd hk (by omega))⟩
theorem char_id {c : Int32} (h : 0 ≤ c.toInt ∧ c.toInt ≤ 127) : ((Int32.toUInt32 c) % 65536).toInt32 = c := by
  obtain ⟨k, hk, rfl⟩ : ∃ k : Nat, k < 128 ∧ c = nI k := by
    refine ⟨c.toInt.toNat, by omega, ?_⟩
    apply Int32.toInt_inj.mp
    rw [nI_toInt (by omega)]
    omega
  exact (by decide +kernel : ∀ k, k < 128 → ((Int32.toUInt32 (nI k)) % 65536).toInt32 = nI k) k hk
theorem q_readOneOf {σ : wx_Z} {t : Nat → Int32} {n p j : Nat} {f : Int32} {K : Int32 → wx_Z → Prop} (hj : j < 2) (h : TS σ t n p f) (h1 : sb t n p < n → lt7 j (t (sb t n p)) → ∀ σ', md sT σ σ' → TS σ' t n (sb t n p + 1) f → K (t (sb t n p)) σ') (h0 : ¬ (sb t n p < n ∧ lt7 j (t (sb t n p))) → ∀ σ', md sT σ σ' → TS σ' t n (sb t n p) (fa f (sb t n p)) → K (-1) σ') : wpX6_readOneOf j σ K := by
  have hb := sb_le (t := t) h.2.2.2.2.2.1
  have hn := h.2.2.2.2.1
  have hby := h.2.2.2.2.2.2
  have f24 : ∀ σ1, ¬ (sb t n p < n ∧ lt7 j (t (sb t n p))) → md sT σ σ1 → TS σ1 t n (sb t n p) f → wpX6_readOneOf_24 j K σ1 := by
    intro σ1 hx m1 T1
    unfold wpX6_readOneOf_24
    rw [T1.2.2.1]
    apply q_failAt T1
    intro σ2 m2 T2
    exact h0 hx σ2 (m1.tr m2) T2
  unfold wpX6_readOneOf
  apply q_isAtEnd h
  · intro hs σ1 m1 T1
    refine ⟨fun z => absurd rfl z, fun _ => ?_⟩
    rw [T1.2.2.1, cln (by omega), T1.1 _ hs, char_id (hby _ hs)]
    refine ⟨vi (by omega), ?_⟩
    apply q_indexOf hj (hby _ hs)
    · intro hl i hi
      refine ⟨fun _ σ2 e2 => ?_, fun z => absurd (nI_le (a := 0) (Nat.zero_le i) (by omega)) z⟩
      rw [T1.2.2.1, nI_1] at e2
      have e2' : σ2 43 1 = nI (sb t n p + 1) := by rw [e2, up_s]
      rw [e2', nI_pred, cln (by omega)]
      refine ⟨vi (by omega), ?_⟩
      have T2 : TS σ2 t n (sb t n p + 1) f := by rw [e2]; exact T1.next (by omega)
      rw [T2.1 _ hs]
      exact h1 hs hl σ2 (m1.tr (by rw [e2]; exact md.rf.up rfl)) T2
    · intro hl
      exact ⟨fun z => absurd z (by decide), fun _ => f24 σ1 (fun z => hl z.2) m1 T1⟩
  · intro hs σ1 m1 T1
    exact ⟨fun _ => f24 σ1 (fun z => absurd z.1 (by omega)) m1 T1, fun z => absurd z (by decide)⟩
/-! ===== the reference ===== -/
def sR (c k : Nat) : Bool := c == 0 && (k == 22 || k == 23 || k == 24)
def TM (τ : wx_Z) (t : Nat → Int32) (n p : Nat) : Prop := (∀ i, i < n → τ 11 i = t i) ∧ τ 0 21 = nI n ∧ τ 0 22 = nI p ∧ n ≤ 120 ∧ p ≤ n
theorem TM.next {τ : wx_Z} {t : Nat → Int32} {n p p' : Nat} (h : TM τ t n p) (hp : p' ≤ n) : TM (wx_up τ 0 22 (nI p')) t n p' := by
  obtain ⟨a, b, c, e, g⟩ := h
  exact ⟨fun i hi => by rw [up_c (by decide)]; exact a i hi, by rw [up_k (by decide)]; exact b, up_s _ _ _ _, e, hp⟩
theorem k_here {τ : wx_Z} {t : Nat → Int32} {n p : Nat} {K : Int32 → wx_Z → Prop} (h : TM τ t n p) (hK : ∀ τ', md (fun c k => c == 0 && k == 22) τ τ' → TM τ' t n (sb t n p) → K (if sb t n p < n then t (sb t n p) else -1) τ') : wpX9_here τ K := by
  have f38 : ∀ (τ' : wx_Z) (s : Nat), TM τ' t n s → K (if s < n then t s else -1) τ' → wpX9_here_38 K τ' := by
    intro τ' s hT hk
    have hs := hT.2.2.2.2
    have hn := hT.2.2.2.1
    unfold wpX9_here_38
    rw [hT.2.1, hT.2.2.1]
    refine ⟨fun q => ?_, fun q => ⟨?_, ?_⟩⟩
    · rw [nI_leI (by omega) (by omega)] at q
      rw [if_neg (by omega)] at hk; exact hk
    · rw [nI_leI (by omega) (by omega)] at q
      exact vi (by omega)
    · rw [nI_leI (by omega) (by omega)] at q
      rw [cln (by omega), hT.1 s (by omega)]
      rw [if_pos (by omega)] at hk; exact hk
  have L : ∀ (d p : Nat) (τ' : wx_Z), p + d = n → md (fun c k => c == 0 && k == 22) τ τ' → TM τ' t n p → (∀ τ'', md (fun c k => c == 0 && k == 22) τ τ'' → TM τ'' t n (sb t n p) → K (if sb t n p < n then t (sb t n p) else -1) τ'') → wpX9_here_0 K (d + 1) τ' := by
    intro d
    induction d with
    | zero =>
      intro p τ' hp hm hT hK
      have hp : p = n := by omega
      subst hp
      unfold wpX9_here_0
      rw [hT.2.1, hT.2.2.1]
      have := hK τ' hm (by rw [sb_end (Nat.le_refl _)]; exact hT)
      rw [sb_end (Nat.le_refl _)] at this
      exact ⟨fun _ => f38 τ' p hT this, fun q => absurd (Int32.le_refl _) q⟩
    | succ d ih =>
      intro p τ' hp hm hT hK
      have hn := hT.2.2.2.1
      unfold wpX9_here_0
      rw [hT.2.1, hT.2.2.1, cln (by omega), hT.1 p (by omega)]
      refine ⟨fun q => ?_, fun _ => ⟨vi (by omega), fun q => ?_, fun q σ1 e1 => ?_⟩⟩
      · rw [nI_leI (by omega) (by omega)] at q
        omega
      · have := hK τ' hm (by rw [sb_no (by omega) q]; exact hT)
        rw [sb_no (by omega) q] at this
        exact f38 τ' p hT this
      · rw [nI_1] at e1
        rw [e1]
        refine ih (p + 1) _ (by omega) (hm.up rfl) (hT.next (by omega)) (fun σ'' h1 h2 => ?_)
        rw [sb_yes (by omega) q] at hK
        exact hK σ'' h1 h2
  exact ⟨n - p + 1, L (n - p) p τ (by have := h.2.2.2.2; omega) md.rf h hK⟩
theorem md_22 {τ τ' : wx_Z} (h : md (fun c k => c == 0 && k == 22) τ τ') : md sR τ τ' := h.mono (fun c k q => by
  unfold sR at q
  simp at q ⊢
  intro a
  exact (q a).1.1)
/-! ===== numbers ===== -/
def dig (c : Int32) : Bool := decide (¬ c < 48 ∧ ¬ 57 < c)
def dcf (t : Nat → Int32) : Nat → Nat → Nat
  | 0, _ => 0
  | d + 1, p => if dig (t p) then dcf t d (p + 1) + 1 else 0
def dc (t : Nat → Int32) (n p : Nat) : Nat := dcf t (n - p) p
theorem dcf_sp (t : Nat → Int32) : ∀ d p, dcf t d p ≤ d ∧ (∀ k, k < dcf t d p → dig (t (p + k)) = true) ∧ (dcf t d p < d → dig (t (p + dcf t d p)) = false)
  | 0, p => ⟨Nat.le_refl _, fun k h => absurd h (Nat.not_lt_zero k), fun h => absurd h (Nat.lt_irrefl _)⟩
  | d + 1, p => by
    rw [dcf]
    cases hd : dig (t p)
    · rw [if_neg (by decide)]
      exact ⟨by omega, fun k h => absurd h (Nat.not_lt_zero k), fun _ => hd⟩
    · rw [if_pos rfl]
      obtain ⟨a, b, c⟩ := dcf_sp t d (p + 1)
      refine ⟨by omega, fun k hk => ?_, fun h => ?_⟩
      · rcases k with _ | k
        · exact hd
        · rw [show p + (k + 1) = p + 1 + k by omega]
          exact b k (by omega)
      · rw [show p + (dcf t d (p + 1) + 1) = p + 1 + dcf t d (p + 1) by omega]
        exact c (by omega)
def dv (t : Nat → Int32) (p : Nat) : Nat → Int32
  | 0 => 0
  | k + 1 => 10 * dv t p k + t (p + k) - 48
def ng (t : Nat → Int32) (n s : Nat) (lo : Int32) : Bool := decide (¬ 0 ≤ lo ∧ s < n ∧ t s = 45)
def d0 (t : Nat → Int32) (n s : Nat) (lo : Int32) : Nat := s + (if ng t n s lo then 1 else 0)
def nv (t : Nat → Int32) (n s : Nat) (lo : Int32) : Int32 := if ng t n s lo then -dv t (d0 t n s lo) (dc t n (d0 t n s lo)) else dv t (d0 t n s lo) (dc t n (d0 t n s lo))
def nE (t : Nat → Int32) (n s : Nat) (lo : Int32) : Nat := d0 t n s lo + dc t n (d0 t n s lo)
def nOK (t : Nat → Int32) (n s : Nat) (lo hi : Int32) : Prop := (1 ≤ dc t n (d0 t n s lo) ∧ dc t n (d0 t n s lo) ≤ 2) ∧ lo ≤ nv t n s lo ∧ nv t n s lo ≤ hi
theorem d0_le {t : Nat → Int32} {n s : Nat} {lo : Int32} (h : s ≤ n) : s ≤ d0 t n s lo ∧ d0 t n s lo ≤ n := by
  unfold d0
  cases hg : ng t n s lo
  · rw [if_neg (by decide)]; omega
  · rw [if_pos rfl]
    unfold ng at hg
    have := of_decide_eq_true hg
    omega
theorem nE_le {t : Nat → Int32} {n s : Nat} {lo : Int32} (h : s ≤ n) : s ≤ nE t n s lo ∧ nE t n s lo ≤ n := by
  have a := d0_le (t := t) (lo := lo) h
  have b := (dcf_sp t (n - d0 t n s lo) (d0 t n s lo)).1
  unfold nE dc
  omega
theorem q_readNumber {σ : wx_Z} {t : Nat → Int32} {n p : Nat} {f lo hi : Int32} {K : Int32 → wx_Z → Prop} (h : TS σ t n p f) (h1 : nOK t n (sb t n p) lo hi → ∀ σ', md sT σ σ' → TS σ' t n (nE t n (sb t n p) lo) f → K (nv t n (sb t n p) lo) σ') (h0 : ¬ nOK t n (sb t n p) lo hi → ∀ σ', md sT σ σ' → TS σ' t n (nE t n (sb t n p) lo) (fa f (sb t n p)) → K lo σ') : wpX6_readNumber σ lo hi K := by
  have hb := sb_le (t := t) h.2.2.2.2.2.1
  have hn := h.2.2.2.2.1
  unfold wpX6_readNumber
  apply q_skip h
  intro σ1 m1 T1
  generalize hs : sb t n p = s at *
  have hd := d0_le (t := t) (lo := lo) hb.2
  obtain ⟨c1, c2, c3⟩ := dcf_sp t (n - d0 t n s lo) (d0 t n s lo)
  have ec : dcf t (n - d0 t n s lo) (d0 t n s lo) = dc t n (d0 t n s lo) := rfl
  rw [ec] at c1 c2 c3
  have f141 : ∀ σ2, md sT σ σ2 → TS σ2 t n (nE t n s lo) f → wpX6_readNumber_141 K σ2 lo hi (nI s) (b2i (ng t n s lo)) (nI (d0 t n s lo)) (dv t (d0 t n s lo) (dc t n (d0 t n s lo))) := by
    intro σ2 m2 T2 t148 e148
    rw [T2.2.2.1, pk_sub (by unfold nE; omega), show nE t n s lo - d0 t n s lo = dc t n (d0 t n s lo) by unfold nE; omega] at e148
    have bad : ¬ nOK t n s lo hi → wpX6_readNumber_189 K σ2 lo (nI s) := by
      intro q
      unfold wpX6_readNumber_189
      apply q_failAt T2
      intro σ3 m3 T3
      exact h0 q σ3 (m2.tr m3) T3
    have f163 : wpX6_readNumber_163 K σ2 lo hi (nI s) t148 (nv t n s lo) := by
      unfold wpX6_readNumber_163
      rw [e148, show (1 : Int32) = nI 1 from rfl, show (2 : Int32) = nI 2 from rfl, nI_ltI (by omega) (by omega), nI_ltI (by omega) (by omega)]
      refine ⟨fun q => bad (fun z => absurd z.1.1 (by omega)), fun q => ⟨fun q2 => bad (fun z => absurd z.1.2 (by omega)), fun q2 => ⟨fun q3 => bad (fun z => absurd z.2.1 (Int32.not_le.mpr q3)), fun q3 => ⟨fun q4 => ?_, fun q4 => bad (fun z => q4 z.2.2)⟩⟩⟩⟩
      exact h1 ⟨⟨by omega, by omega⟩, Int32.not_lt.mp q3, q4⟩ σ2 m2 T2
    unfold nv at f163
    rw [b2i_0]
    refine ⟨fun q => ?_, fun q => ?_⟩
    · rw [q, if_neg (by decide)] at f163; exact f163
    · rw [if_pos (by
        cases hg : ng t n s lo
        · exact absurd hg q
        · rfl)] at f163
      exact f163
  have L : ∀ (e k : Nat) (σ2 : wx_Z), k + e = dc t n (d0 t n s lo) → md sT σ σ2 → TS σ2 t n (d0 t n s lo + k) f → wpX6_readNumber_69 K (e + 1) σ2 lo hi (nI s) (b2i (ng t n s lo)) (nI (d0 t n s lo)) (dv t (d0 t n s lo) k) := by
    intro e
    induction e with
    | zero =>
      intro k σ2 hk m2 T2
      have hk : k = dc t n (d0 t n s lo) := by omega
      subst hk
      have fin := f141 σ2 m2 T2
      unfold wpX6_readNumber_69
      rw [T2.2.1, T2.2.2.1]
      refine ⟨fun _ => fin, fun q => ?_⟩
      rw [nI_leI (by omega) (by omega)] at q
      have hnd := c3 (by omega)
      rw [cln (by omega), T2.1 _ (by omega)]
      refine ⟨vi (by omega), fun _ => fin, fun q2 => ⟨vi (by omega), fun _ => fin, fun q3 => ?_⟩⟩
      unfold dig at hnd
      exact absurd ⟨q2, q3⟩ (of_decide_eq_false hnd)
    | succ e ih =>
      intro k σ2 hk m2 T2
      have hdg := c2 k (by omega)
      unfold dig at hdg
      have hdg := of_decide_eq_true hdg
      unfold wpX6_readNumber_69
      rw [T2.2.1, T2.2.2.1]
      refine ⟨fun q => ?_, fun _ => ?_⟩
      · rw [nI_leI (by omega) (by omega)] at q
        omega
      · rw [cln (by omega), T2.1 _ (by omega)]
        refine ⟨vi (by omega), fun q => absurd q hdg.1, fun _ => ⟨vi (by omega), fun q => absurd q hdg.2, fun _ => ⟨vi (by omega), fun t126 e126 σ3 e3 => ?_⟩⟩⟩
        rw [nI_1] at e3
        rw [e126, e3]
        exact ih (k + 1) _ (by omega) (m2.up rfl) (T2.next (by omega))
  have f43 : wpX6_readNumber_43 K σ1 lo hi (nI s) (b2i (ng t n s lo)) := by
    unfold wpX6_readNumber_43
    rw [b2i_0]
    refine ⟨fun q => ?_, fun q σ2 e2 => ?_⟩
    · have e0 : d0 t n s lo = s := by unfold d0; rw [q, if_neg (by decide)]; rfl
      rw [T1.2.2.1]
      have := L (dc t n (d0 t n s lo)) 0 σ1 (by omega) m1 (by rw [Nat.add_zero, e0]; exact T1)
      refine ⟨dc t n (d0 t n s lo) + 1, ?_⟩
      rw [e0] at this
      rw [e0]
      exact this
    · have hg : ng t n s lo = true := by
        cases hg : ng t n s lo
        · exact absurd hg q
        · rfl
      have e0 : d0 t n s lo = s + 1 := by unfold d0; rw [hg, if_pos rfl]
      rw [T1.2.2.1, nI_1] at e2
      have e21 : σ2 43 1 = nI (s + 1) := by rw [e2, up_s]
      rw [e21]
      have := L (dc t n (d0 t n s lo)) 0 σ2 (by omega) (m1.tr (by rw [e2]; exact md.rf.up rfl)) (by rw [Nat.add_zero, e0, e2]; exact T1.next (by omega))
      refine ⟨dc t n (d0 t n s lo) + 1, ?_⟩
      rw [e0] at this
      rw [e0]
      exact this
  have fF : ¬ (¬ 0 ≤ lo ∧ s < n ∧ t s = 45) → wpX6_readNumber_43 K σ1 lo hi (nI s) 0 := by
    intro q
    have e : ng t n s lo = false := decide_eq_false q
    rw [e] at f43
    exact f43
  rw [T1.2.2.1, T1.2.1, nI_leI (by omega) (by omega)]
  refine ⟨fun q => fF (fun z => z.1 q), fun q => ⟨fun q2 => fF (fun z => absurd z.2.1 (by omega)), fun q2 => ?_⟩⟩
  rw [cln (by omega), T1.1 s (by omega)]
  refine ⟨vi (by omega), fun q3 => fF (fun z => q3 z.2.2), fun q3 => ?_⟩
  have e : ng t n s lo = true := decide_eq_true ⟨q, by omega, q3⟩
  rw [e] at f43
  exact f43

/-! ===== nearest, near ===== -/
theorem k_isFew {τ : wx_Z} {o m : Nat} {K : Int32 → wx_Z → Prop} (ho : τ 1 0 = nI o) (hm : τ 1 1 = nI m) (hom : o ≤ m) (h5 : m ≤ 5) (h0 : 16 < (tl o m).length → ∀ τ', cmM τ τ' → K 0 τ') (h1 : (tl o m).length ≤ 16 → ∀ τ', cmM τ τ' → K 1 τ') : wpX9_isFew τ K := by
  obtain ⟨hlen, -, -⟩ := tl_fact m (by omega) o (by omega)
  unfold wpX9_isFew
  apply k_many ho hm hom h5
  intro τ1 d1 l1
  rw [show (16 : Int32) = nI 16 from rfl, nI_ltI (by omega) (by omega)]
  exact ⟨fun q => h0 q τ1 (cm_Many d1), fun q => h1 (by omega) τ1 (cm_Many d1)⟩
theorem q_canBeWalked {σ : wx_Z} {g o m : Nat} {K : Int32 → wx_Z → Prop} (h : CO σ g o m) (h0 : 16 < (tl o m).length → K 0 σ) (h1 : (tl o m).length ≤ 16 → K 1 σ) : wpX1_canBeWalked g σ K := by
  obtain ⟨hlen, -, -⟩ := tl_len h
  unfold wpX1_canBeWalked
  rw [h.2.2.2.1, show (16 : Int32) = nI 16 from rfl, nI_ltI (by omega) (by omega)]
  exact ⟨fun q => h0 q, fun q => h1 (by omega)⟩
def sk (w : Int32) (G : Nat → Int32) : Nat → Int32 × Nat × Int32
  | 0 => (0, pc w, 1)
  | k + 1 => if (sk w G k).2.1 ≤ pc (G (k + 1) ^^^ w) then (if pc (G (k + 1) ^^^ w) = (sk w G k).2.1 then ((sk w G k).1, (sk w G k).2.1, (sk w G k).2.2 + 1) else sk w G k) else (G (k + 1), pc (G (k + 1) ^^^ w), 1)
theorem sk_le (w : Int32) (G : Nat → Int32) : ∀ k, (sk w G k).2.1 ≤ 32
  | 0 => pc_le w
  | k + 1 => by
    have := sk_le w G k
    rw [sk]
    by_cases q : (sk w G k).2.1 ≤ pc (G (k + 1) ^^^ w)
    · rw [if_pos q]
      by_cases q2 : pc (G (k + 1) ^^^ w) = (sk w G k).2.1
      · rw [if_pos q2]; exact this
      · rw [if_neg q2]; exact this
    · rw [if_neg q]; exact pc_le _
def FC (σ : wx_Z) (s : Int32 × Nat × Int32) (v : Int32) : Prop := σ 56 2 = v ∧ σ 56 3 = nI s.2.1 ∧ σ 56 4 = s.2.2 ∧ σ 56 5 = s.1
theorem z_xor (x : Int32) : 0 ^^^ x = x := Int32.zero_xor
theorem q_seek {σ : wx_Z} {g o m : Nat} {w : Int32} {K : wx_Z → Prop} (hg : g < 10) (h : CO σ g o m) (hl : (tl o m).length ≤ 16) (hK : ∀ σ', fr [56, 57] σ σ' → σ' 56 3 = nI (sk w (gw m (tl o m)) (2 ^ (tl o m).length - 1)).2.1 → σ' 56 4 = (sk w (gw m (tl o m)) (2 ^ (tl o m).length - 1)).2.2 → σ' 56 5 = (sk w (gw m (tl o m)) (2 ^ (tl o m).length - 1)).1 → K σ') : wpX7_seek g σ w K := by
  have hp := p2_16 hl
  have hpos := p2_pos (tl o m).length
  unfold wpX7_seek
  apply q_prepare hg h hl
  intro σ2 f2 w2 z2 σ8 e8
  generalize hG : gw m (tl o m) = G at hK
  have L : ∀ (d k : Nat) (σ' : wx_Z), k + 1 + d = 2 ^ (tl o m).length → fr [56, 57] σ σ' → WK σ' m (tl o m) → FC σ' (sk w G k) (G k) → wpX7_seek_13 g K (d + 1) σ' w (nI (k + 1)) := by
    intro d
    induction d with
    | zero =>
      intro k σ' hk hf hw hF
      unfold wpX7_seek_13
      rw [hw.1, ← hk]
      refine ⟨fun _ => hK σ' hf ?_ ?_ ?_, fun q => absurd (Int32.le_refl _) q⟩
      · rw [← hk]; exact hF.2.1
      · rw [← hk]; exact hF.2.2.1
      · rw [← hk]; exact hF.2.2.2
    | succ d ih =>
      intro k σ' hk hf hw hF
      unfold wpX7_seek_13
      rw [hw.1]
      refine ⟨fun q => ?_, fun _ => ?_⟩
      · rw [nI_leI (by omega) (by omega)] at q
        omega
      · apply q_stepTo hl hw (by omega) (by rw [hG]; exact hF.1)
        rw [hG]
        apply k_bitCount
        rw [up_s, up_k (by decide), hF.2.1]
        have hb := sk_le w G k
        have hb2 := pc_le (G (k + 1) ^^^ w)
        have hf' : fr [56, 57] σ (wx_up σ' 56 2 (G (k + 1))) := hf.up (by simp)
        have hw' : WK (wx_up σ' 56 2 (G (k + 1))) m (tl o m) := hw.up (by decide)
        rw [nI_leI (by omega) (by omega), nI_eq (by omega) (by omega)]
        refine ⟨fun q => ⟨fun q2 t87 e87 => ?_, fun q2 σ84 e84 t87 e87 => ?_⟩, fun q σ49 e49 σ54 e54 σ62 e62 t87 e87 => ?_⟩
        · rw [e87, nI_1]
          refine ih (k + 1) _ (by omega) hf' hw' ⟨up_s _ _ _ _, ?_, ?_, ?_⟩
          · rw [up_k (by decide), sk, if_pos q, if_neg q2]; exact hF.2.1
          · rw [up_k (by decide), sk, if_pos q, if_neg q2]; exact hF.2.2.1
          · rw [up_k (by decide), sk, if_pos q, if_neg q2]; exact hF.2.2.2
        · rw [up_k (by decide), hF.2.2.1] at e84
          rw [e87, nI_1, e84]
          refine ih (k + 1) _ (by omega) (hf'.up (by simp)) (hw'.up (by decide)) ⟨by rw [up_k (by decide), up_s], ?_, ?_, ?_⟩
          · rw [up_k (by decide), up_k (by decide), sk, if_pos q, if_pos q2]; exact hF.2.1
          · rw [up_s, sk, if_pos q, if_pos q2]
          · rw [up_k (by decide), up_k (by decide), sk, if_pos q, if_pos q2]; exact hF.2.2.2
        · have e5 : σ54 56 2 = G (k + 1) := by rw [e54, up_k (by decide), e49, up_k (by decide), up_s]
          rw [e5] at e62
          rw [e87, nI_1, e62, e54, e49]
          refine ih (k + 1) _ (by omega) (((hf'.up (by simp)).up (by simp)).up (by simp)) (((hw'.up (by decide)).up (by decide)).up (by decide)) ⟨?_, ?_, ?_, ?_⟩
          · rw [up_k (by decide), up_k (by decide), up_k (by decide), up_s]
          · rw [up_k (by decide), up_k (by decide), up_s, sk, if_neg q]
          · rw [up_k (by decide), up_s, sk, if_neg q]
          · rw [up_s, sk, if_neg q]
  refine ⟨2 ^ (tl o m).length + 1, ?_⟩
  obtain ⟨N, hN⟩ : ∃ N, 2 ^ (tl o m).length = N + 1 := ⟨2 ^ (tl o m).length - 1, by omega⟩
  have f8 : fr [56, 57] σ σ8 := by rw [e8]; exact f2.up (by simp)
  have w8 : WK σ8 m (tl o m) := by rw [e8]; exact w2.up (by decide)
  have z8 : σ8 56 2 = 0 := by rw [e8, up_k (by decide)]; exact z2
  have t8 : σ8 56 3 = 33 := by rw [e8, up_s]
  unfold wpX7_seek_13
  rw [w8.1]
  refine ⟨fun q => ?_, fun _ => ?_⟩
  · rw [show (0 : Int32) = nI 0 from rfl, nI_leI (by omega) (by omega)] at q
    omega
  · apply q_step0
    apply k_bitCount
    rw [z8, t8, z_xor]
    have hb := pc_le w
    refine ⟨fun q => ?_, fun q σ49 e49 σ54 e54 σ62 e62 t87 e87 => ?_⟩
    · rw [show (33 : Int32) = nI 33 from rfl, nI_leI (by omega) (by omega)] at q
      omega
    · have e5 : σ54 56 2 = 0 := by rw [e54, up_k (by decide), e49, up_k (by decide), z8]
      rw [e5] at e62
      rw [e87, show (0 : Int32) + 1 = nI (0 + 1) from rfl, e62, e54, e49, hN]
      have hG0 : G 0 = 0 := by rw [← hG]; rfl
      refine L N 0 _ (by omega) (((f8.up (by simp)).up (by simp)).up (by simp)) (((w8.up (by decide)).up (by decide)).up (by decide)) ⟨?_, ?_, ?_, ?_⟩
      · rw [up_k (by decide), up_k (by decide), up_k (by decide), z8, hG0]
      · rw [up_k (by decide), up_k (by decide), up_s]; rfl
      · rw [up_k (by decide), up_s]; rfl
      · rw [up_s]; rfl
def FS (τ : wx_Z) (s : Int32 × Nat × Int32) : Prop := τ 0 12 = s.1 ∧ τ 0 13 = nI s.2.1 ∧ τ 0 14 = s.2.2
theorem k_f130 {K : wx_Z → Prop} {C : wx_Z → Int32 → Int32 → Int32 → Prop} {τ : wx_Z} {x1 x2 x3 x5 s1 : Int32} (hy : τ 0 13 ≤ x5 → ∀ τ', md sBa τ τ' → τ' 5 = τ 5 → τ' 0 12 = τ 0 12 → τ' 0 13 = τ 0 13 → τ' 0 14 = s1 → C τ' x1 x2 (x3 + 1)) (hn : ¬ τ 0 13 ≤ x5 → ∀ τ', md sBa τ τ' → τ' 5 = τ 5 → τ' 0 12 = x1 → τ' 0 13 = x5 → τ' 0 14 = s1 → C τ' x1 x2 (x3 + 1)) : wpX9_finds_130 K C τ x1 x2 x3 x5 s1 := by
  intro τ1 e1
  have e13 : τ1 0 13 = τ 0 13 := by rw [e1, up_k (by decide)]
  have e12 : τ1 0 12 = τ 0 12 := by rw [e1, up_k (by decide)]
  rw [e13, e12]
  refine ⟨fun q => ?_, fun q => ?_⟩
  · intro τ2 e2
    have e213 : τ2 0 13 = τ 0 13 := by rw [e2, up_k (by decide), e13]
    rw [e213]
    refine ⟨fun _ τ3 e3 t e => ?_, fun z => absurd q z⟩
    rw [e]
    refine hy q τ3 ?_ ?_ ?_ ?_ ?_
    · rw [e3, e2, e1]; exact ((md.rf.up rfl).up rfl).up rfl
    · rw [e3, e2, e1, up_row (by decide), up_row (by decide), up_row (by decide)]
    · rw [e3, up_k (by decide), e2, up_s]
    · rw [e3, up_s]
    · rw [e3, up_k (by decide), e2, up_k (by decide), e1, up_s]
  · intro τ2 e2
    have e213 : τ2 0 13 = τ 0 13 := by rw [e2, up_k (by decide), e13]
    rw [e213]
    refine ⟨fun z => absurd z q, fun _ τ3 e3 t e => ?_⟩
    rw [e]
    refine hn q τ3 ?_ ?_ ?_ ?_ ?_
    · rw [e3, e2, e1]; exact ((md.rf.up rfl).up rfl).up rfl
    · rw [e3, e2, e1, up_row (by decide), up_row (by decide), up_row (by decide)]
    · rw [e3, up_k (by decide), e2, up_s]
    · rw [e3, up_s]
    · rw [e3, up_k (by decide), e2, up_k (by decide), e1, up_s]
theorem k_finds {τ : wx_Z} {o m : Nat} {K : wx_Z → Prop} (ho : τ 1 0 = nI o) (hm : τ 1 1 = nI m) (hom : o ≤ m) (h5 : m ≤ 5) (hl : (tl o m).length ≤ 16) (hK : ∀ τ', md sBa τ τ' → FS τ' (sk (τ 1 2) (gw m (tl o m)) (2 ^ (tl o m).length - 1)) → K τ') : wpX9_finds τ K := by
  have hp := p2_16 hl
  have hpos := p2_pos (tl o m).length
  unfold wpX9_finds
  apply k_many ho hm hom h5
  intro τ1 d1 l1
  have d1 := md_MB d1
  apply k_laysBasis ((d1 1 0 rfl).trans ho) ((d1 1 1 rfl).trans hm) hom h5
  intro τ2 d2 b2
  have d2 := d1.tr d2
  intro τ3 e3
  apply k_theWord
  apply k_bits
  intro τ4 e4 τ5 e5
  have d3 : md sBa τ τ3 := by rw [e3]; exact d2.up rfl
  rw [d3 1 2 rfl] at e4
  have d5 : md sBa τ τ5 := by rw [e5, e4]; exact (d3.up rfl).up rfl
  have b5 : ∀ j, j < (tl o m).length → τ5 5 j = bs m (tl o m) j := fun j hj => by rw [e5, up_c (by decide), e4, up_c (by decide), e3, up_c (by decide)]; exact b2 j hj
  generalize hG : gw m (tl o m) = G at hK
  have step : ∀ (n k : Nat) (τ' : wx_Z), k + 1 < 2 ^ (tl o m).length → md sBa τ τ' → (∀ j, j < (tl o m).length → τ' 5 j = bs m (tl o m) j) → FS τ' (sk (τ 1 2) G k) → (∀ τ'', md sBa τ τ'' → (∀ j, j < (tl o m).length → τ'' 5 j = bs m (tl o m) j) → FS τ'' (sk (τ 1 2) G (k + 1)) → wpX9_finds_34 K n τ'' (G (k + 1)) (nI (tl o m).length) (nI (k + 2))) → ∃ n51, wpX9_finds_51 K (wpX9_finds_34 K n) n51 τ' (G k) (nI (tl o m).length) (nI (k + 1)) (nI (k + 1) ^^^ (nI (k + 1) - 1)) 0 := by
    intro n k τ' hk hmd hb hF hC
    have ht := tz_lt 16 (k + 1) (tl o m).length (by omega) hk hl
    have hsl := sk_le (τ 1 2) G k
    have f83 : wpX9_finds_83 K (wpX9_finds_34 K n) τ' (G k ^^^ xw (bs m (tl o m)) (tz 16 (k + 1) + 1)) (nI (tl o m).length) (nI (k + 1)) := by
      have eg : G k ^^^ xw (bs m (tl o m)) (tz 16 (k + 1) + 1) = G (k + 1) := by rw [← hG]; rfl
      rw [eg]
      unfold wpX9_finds_83
      apply k_theWord
      apply k_bits
      rw [hmd 1 2 rfl, hF.2.1]
      have hb2 := pc_le (G (k + 1) ^^^ τ 1 2)
      rw [nI_leI (by omega) (by omega), nI_eq (by omega) (by omega)]
      refine ⟨fun q => ⟨fun q2 => ?_, fun q2 => ?_⟩, fun q => ?_⟩
      · refine k_f130 (fun _ τ'' d'' e5'' e12 e13 e14 => ?_) (fun z => absurd (by rw [hF.2.1]; exact nI_le q (by omega)) z)
        rw [nI_1]
        refine hC τ'' (hmd.tr d'') (fun j hj => by rw [e5'']; exact hb j hj) ?_
        rw [sk, if_pos q, if_neg q2]
        exact ⟨e12.trans hF.1, e13.trans hF.2.1, e14.trans hF.2.2⟩
      · refine k_f130 (fun _ τ'' d'' e5'' e12 e13 e14 => ?_) (fun z => absurd (by rw [hF.2.1]; exact nI_le q (by omega)) z)
        rw [nI_1]
        refine hC τ'' (hmd.tr d'') (fun j hj => by rw [e5'']; exact hb j hj) ?_
        rw [sk, if_pos q, if_pos q2]
        exact ⟨e12.trans hF.1, e13.trans hF.2.1, by rw [e14, hF.2.2]⟩
      · refine k_f130 (fun z => ?_) (fun _ τ'' d'' e5'' e12 e13 e14 => ?_)
        · rw [hF.2.1, nI_leI (by omega) (by omega)] at z
          exact absurd z q
        · rw [nI_1]
          refine hC τ'' (hmd.tr d'') (fun j hj => by rw [e5'']; exact hb j hj) ?_
          rw [sk, if_neg q]
          exact ⟨e12, e13, e14⟩
    have I : ∀ (e j : Nat), j + e = tz 16 (k + 1) + 1 → wpX9_finds_51 K (wpX9_finds_34 K n) (e + 1) τ' (G k ^^^ xw (bs m (tl o m)) j) (nI (tl o m).length) (nI (k + 1)) (nI (k + 1) ^^^ (nI (k + 1) - 1)) (nI j) := by
      intro e
      induction e with
      | zero =>
        intro j hj
        have hj : j = tz 16 (k + 1) + 1 := by omega
        subst hj
        unfold wpX9_finds_51
        refine ⟨fun _ => f83, fun q => ?_⟩
        apply k_has (by omega)
        rw [ch_bits (by omega) (by omega) (by omega), decide_eq_false (by omega)]
        exact ⟨fun _ => f83, fun z => absurd rfl z⟩
      | succ e ih3 =>
        intro j hj
        unfold wpX9_finds_51
        refine ⟨fun q => ?_, fun _ => ?_⟩
        · rw [nI_leI (by omega) (by omega)] at q
          omega
        · apply k_has (by omega)
          rw [ch_bits (by omega) (by omega) (by omega), decide_eq_true (by omega)]
          refine ⟨fun z => absurd z (by decide), fun _ => ⟨vi (by omega), fun t76 e76 t77 e77 => ?_⟩⟩
          rw [e76, e77, nI_1, cln (by omega), hb j (by omega), Int32.xor_assoc]
          exact ih3 (j + 1) (by omega)
    have := I (tz 16 (k + 1) + 1) 0 (by omega)
    have e0 : G k ^^^ xw (bs m (tl o m)) 0 = G k := Int32.xor_zero
    rw [e0] at this
    exact ⟨_, this⟩
  have L : ∀ (d k : Nat) (τ' : wx_Z), k + 1 + d = 2 ^ (tl o m).length → md sBa τ τ' → (∀ j, j < (tl o m).length → τ' 5 j = bs m (tl o m) j) → FS τ' (sk (τ 1 2) G k) → wpX9_finds_34 K (d + 1) τ' (G k) (nI (tl o m).length) (nI (k + 1)) := by
    intro d
    induction d with
    | zero =>
      intro k τ' hk hmd hb hF
      unfold wpX9_finds_34
      rw [sh1 _ (by omega), ← hk]
      refine ⟨fun _ => hK τ' hmd ?_, fun q => absurd (Int32.le_refl _) q⟩
      rw [← hk]
      exact hF
    | succ d ih =>
      intro k τ' hk hmd hb hF
      unfold wpX9_finds_34
      rw [sh1 _ (by omega)]
      refine ⟨fun q => ?_, fun _ t46 e46 => ?_⟩
      · rw [nI_leI (by omega) (by omega)] at q
        omega
      · rw [e46]
        exact step (d + 1) k τ' (by omega) hmd hb hF (fun τ'' a b c => ih (k + 1) τ'' (by omega) a b c)
  refine ⟨2 ^ (tl o m).length, ?_⟩
  obtain ⟨N, hN⟩ : ∃ N, 2 ^ (tl o m).length = N + 1 := ⟨2 ^ (tl o m).length - 1, by omega⟩
  have hG0 : G 0 = 0 := by rw [← hG]; rfl
  have := L N 0 τ5 (by omega) d5 b5 ⟨?_, ?_, ?_⟩
  · rw [hG0] at this
    rw [hN]
    exact this
  · rw [e5, up_k (by decide), e4, up_k (by decide), e3, up_s]; rfl
  · rw [e5, up_k (by decide), e4, up_s]; rfl
  · rw [e5, up_s]; rfl
theorem fr_56 {σ σ' : wx_Z} (h : fr [56, 57] σ σ') : fr scr σ σ' := h.mono (fun c hc => by simp at hc; rcases hc with rfl | rfl <;> decide)
theorem e_near {σ τ : wx_Z} (h : RR σ τ) : wpX8_near σ (fun a σ' => wpX9_near τ (fun a' τ' => a = a' ∧ RR σ' τ')) := by
  obtain ⟨o, m, x, c, n, hx⟩ := id (RR.rx h)
  unfold wpX8_near
  apply q_canBeWalked hx.co
  · intro hl
    refine ⟨fun z => absurd rfl z, fun _ => ?_⟩
    apply q_no
    show wpX9_near τ _
    unfold wpX9_near
    apply k_isFew hx.t0 hx.t1 hx.hom hx.h5 _ (fun z => absurd hl (by omega))
    intro _ τ1 d1
    exact ⟨fun z => absurd rfl z, fun _ => k_no ⟨rfl, R_no (h.frM d1)⟩⟩
  · intro hl
    refine ⟨fun _ => ?_, fun z => absurd z (by decide)⟩
    apply q_seek (by omega) hx.co hl
    intro σ1 f1 e3 e4 e5
    show wpX9_near τ _
    unfold wpX9_near
    apply k_isFew hx.t0 hx.t1 hx.hom hx.h5 (fun z => absurd hl (by omega))
    intro _ τ1 d1
    refine ⟨fun _ => ?_, fun z => absurd z (by decide)⟩
    apply k_finds ((d1 1 0 rfl).trans hx.t0) ((d1 1 1 rfl).trans hx.t1) hx.hom hx.h5 hl
    intro τ2 d2 F2
    rw [d1 1 2 rfl, hx.tw] at F2
    exact ⟨by rw [e5, F2.1], ((h.frC (fr_56 f1)).frM d1).frM (cm_Ba d2)⟩
theorem e_nearest {σ τ : wx_Z} (v : Int32) (h : RR σ τ) : wpX8_nearest σ v (fun a σ' => wpX9_nearest τ v (fun a' τ' => a = a' ∧ RR σ' τ')) := by
  obtain ⟨o, m, x, c, n, hx⟩ := id (RR.rx h)
  have lit : ((0 : Int64) = (0 : Int32).toInt64) ∧ ((1 : Int64) = (1 : Int32).toInt64) := ⟨rfl, rfl⟩
  have bad : ¬ (0 ≤ v ∧ v ≤ 1) → wpX8_refuseBad σ (-2) (fun r30 σ30 => wpX9_nearest τ v (fun a' τ' => r30 = a' ∧ RR σ30 τ')) := by
    intro q
    apply q_bad
    show wpX9_nearest τ v _
    unfold wpX9_nearest
    rw [lit.1, lit.2]
    apply k_inI
    · intro h1 h2; exact absurd ⟨h1, h2⟩ q
    · intro _
      exact ⟨fun z => absurd rfl z, fun _ => k_bad ⟨rfl, R_bad h⟩⟩
  unfold wpX8_nearest
  refine ⟨fun q => bad (fun z => absurd q (nn0.mpr z.1)), fun q => ⟨fun q2 => ?_, fun q2 => bad (fun z => q2 z.2)⟩⟩
  have q1 : 0 ≤ v := nn0.mp q
  apply q_canBeWalked hx.co
  · intro hl
    refine ⟨fun z => absurd rfl z, fun _ => ?_⟩
    apply q_no
    show wpX9_nearest τ v _
    unfold wpX9_nearest
    rw [lit.1, lit.2]
    apply k_inI _ (fun z => absurd ⟨q1, q2⟩ z)
    intro _ _
    refine ⟨fun _ => ?_, fun z => absurd z (by decide)⟩
    apply k_isFew hx.t0 hx.t1 hx.hom hx.h5 _ (fun z => absurd hl (by omega))
    intro _ τ1 d1
    exact ⟨fun z => absurd rfl z, fun _ => k_no ⟨rfl, R_no (h.frM d1)⟩⟩
  · intro hl
    refine ⟨fun _ => ?_, fun z => absurd z (by decide)⟩
    apply q_seek (by omega) hx.co hl
    intro σ1 f1 e3 e4 e5
    have km : ∀ K : Int32 → wx_Z → Prop, (∀ τ2, cmM τ τ2 → FS τ2 (sk (σ (cSt 0) 2) (gw m (tl o m)) (2 ^ (tl o m).length - 1)) → (¬ v = 0 → K (τ2 0 14) τ2) ∧ (v = 0 → K (τ2 0 13) τ2)) → wpX9_nearest τ v K := by
      intro K hK
      unfold wpX9_nearest
      rw [lit.1, lit.2]
      apply k_inI _ (fun z => absurd ⟨q1, q2⟩ z)
      intro _ _
      refine ⟨fun _ => ?_, fun z => absurd z (by decide)⟩
      apply k_isFew hx.t0 hx.t1 hx.hom hx.h5 (fun z => absurd hl (by omega))
      intro _ τ1 d1
      refine ⟨fun _ => ?_, fun z => absurd z (by decide)⟩
      apply k_finds ((d1 1 0 rfl).trans hx.t0) ((d1 1 1 rfl).trans hx.t1) hx.hom hx.h5 hl
      intro τ2 d2 F2
      rw [d1 1 2 rfl, hx.tw] at F2
      exact hK τ2 (d1.tr (cm_Ba d2)) F2
    refine ⟨fun q3 => km _ (fun τ2 d2 F2 => ⟨fun _ => ⟨by rw [e4, F2.2.2], (h.frC (fr_56 f1)).frM d2⟩, fun z => absurd z q3⟩), fun q3 => km _ (fun τ2 d2 F2 => ⟨fun z => absurd q3 z, fun _ => ⟨by rw [e3, F2.2.1], (h.frC (fr_56 f1)).frM d2⟩⟩)⟩
/-! ===== weights ===== -/
def wcf (x : Int32) (G : Nat → Int32) (k : Nat) : Int32 := if nI (pc (G k)) = x then 1 else 0
theorem q_howManyWeigh {σ : wx_Z} {g o m : Nat} {x : Int32} {K : Int32 → wx_Z → Prop} (hg : g < 10) (h : CO σ g o m) (hl : (tl o m).length ≤ 16) (hK : ∀ σ', fr [56, 57] σ σ' → K (sI (wcf x (gw m (tl o m))) (2 ^ (tl o m).length)) σ') : wpX7_howManyWeigh g σ x K := by
  have hp := p2_16 hl
  have hpos := p2_pos (tl o m).length
  unfold wpX7_howManyWeigh
  apply q_prepare hg h hl
  intro σ2 f2 w2 z2
  generalize hG : gw m (tl o m) = G at hK
  have L : ∀ (d k : Nat) (σ' : wx_Z), k + 1 + d = 2 ^ (tl o m).length → fr [56, 57] σ σ' → WK σ' m (tl o m) → σ' 56 2 = G k → wpX7_howManyWeigh_10 g K (d + 1) σ' x (sI (wcf x G) (k + 1)) (nI (k + 1)) := by
    intro d
    induction d with
    | zero =>
      intro k σ' hk hf hw hF
      unfold wpX7_howManyWeigh_10
      rw [hw.1, ← hk]
      refine ⟨fun _ => ?_, fun q => absurd (Int32.le_refl _) q⟩
      have := hK σ' hf
      rw [← hk] at this
      exact this
    | succ d ih =>
      intro k σ' hk hf hw hF
      unfold wpX7_howManyWeigh_10
      rw [hw.1]
      refine ⟨fun q => ?_, fun _ => ?_⟩
      · rw [nI_leI (by omega) (by omega)] at q
        omega
      · apply q_stepTo hl hw (by omega) (by rw [hG]; exact hF)
        rw [hG]
        apply k_bitCount
        rw [up_s]
        have ih2 := ih (k + 1) (wx_up σ' 56 2 (G (k + 1))) (by omega) (hf.up (by simp)) (hw.up (by decide)) (up_s _ _ _ _)
        rw [sI] at ih2
        refine ⟨fun q t39 e39 => ?_, fun q t36 e36 t39 e39 => ?_⟩
        · rw [show wcf x G (k + 1) = 0 from if_neg q, Int32.add_zero] at ih2
          rw [e39, nI_1]; exact ih2
        · rw [show wcf x G (k + 1) = 1 from if_pos q] at ih2
          rw [e36, e39, nI_1]; exact ih2
  refine ⟨2 ^ (tl o m).length + 1, ?_⟩
  obtain ⟨N, hN⟩ : ∃ N, 2 ^ (tl o m).length = N + 1 := ⟨2 ^ (tl o m).length - 1, by omega⟩
  have hG0 : G 0 = 0 := by rw [← hG]; rfl
  unfold wpX7_howManyWeigh_10
  rw [w2.1]
  refine ⟨fun q => ?_, fun _ => ?_⟩
  · rw [show (0 : Int32) = nI 0 from rfl, nI_leI (by omega) (by omega)] at q
    omega
  · apply q_step0
    apply k_bitCount
    rw [z2]
    have ih2 := L N 0 σ2 (by omega) f2 w2 (by rw [z2, hG0])
    rw [sI, sI] at ih2
    rw [hN]
    refine ⟨fun q t39 e39 => ?_, fun q t36 e36 t39 e39 => ?_⟩
    · rw [show wcf x G 0 = 0 from if_neg (by rw [hG0]; exact q), Int32.add_zero] at ih2
      rw [e39]; exact ih2
    · rw [show wcf x G 0 = 1 from if_pos (by rw [hG0]; exact q)] at ih2
      rw [e36, e39]; exact ih2
theorem k_weights49 {τ : wx_Z} {o m : Nat} {x : Int32} {K : Int32 → wx_Z → Prop} (ho : τ 1 0 = nI o) (hm : τ 1 1 = nI m) (hom : o ≤ m) (h5 : m ≤ 5) (hl : (tl o m).length ≤ 16) (hK : ∀ τ', md sBa τ τ' → K (sI (wcf x (gw m (tl o m))) (2 ^ (tl o m).length)) τ') : wpX9_weights_49 K τ x 0 (nI (tl o m).length) (sI (wcf x (gw m (tl o m))) 1) := by
  have hp := p2_16 hl
  have hpos := p2_pos (tl o m).length
  unfold wpX9_weights_49
  apply k_laysBasis ho hm hom h5
  intro τ1 d1 b1
  generalize hG : gw m (tl o m) = G at hK
  have step : ∀ (n k : Nat), k + 1 < 2 ^ (tl o m).length → wpX9_weights_58 K n τ1 x (G (k + 1)) (nI (tl o m).length) (sI (wcf x G) (k + 2)) (nI (k + 2)) → ∃ n78, wpX9_weights_78 K (wpX9_weights_58 K n) n78 τ1 x (G k) (nI (tl o m).length) (sI (wcf x G) (k + 1)) (nI (k + 1)) (nI (k + 1) ^^^ (nI (k + 1) - 1)) 0 := by
    intro n k hk hC
    have ht := tz_lt 16 (k + 1) (tl o m).length (by omega) hk hl
    have f83 : wpX9_weights_110 K (wpX9_weights_58 K n) τ1 x (G k ^^^ xw (bs m (tl o m)) (tz 16 (k + 1) + 1)) (nI (tl o m).length) (sI (wcf x G) (k + 1)) (nI (k + 1)) := by
      have eg : G k ^^^ xw (bs m (tl o m)) (tz 16 (k + 1) + 1) = G (k + 1) := by rw [← hG]; rfl
      rw [eg]
      unfold wpX9_weights_110
      apply k_bits
      rw [sI] at hC
      refine ⟨fun q t126 e126 t128 e128 => ?_, fun q t126 e126 t128 e128 => ?_⟩
      · rw [show wcf x G (k + 1) = 0 from if_neg q] at hC
        rw [e126, e128, nI_1]; exact hC
      · rw [show wcf x G (k + 1) = 1 from if_pos q] at hC
        rw [e126, e128, nI_1]; exact hC
    have I : ∀ (e j : Nat), j + e = tz 16 (k + 1) + 1 → wpX9_weights_78 K (wpX9_weights_58 K n) (e + 1) τ1 x (G k ^^^ xw (bs m (tl o m)) j) (nI (tl o m).length) (sI (wcf x G) (k + 1)) (nI (k + 1)) (nI (k + 1) ^^^ (nI (k + 1) - 1)) (nI j) := by
      intro e
      induction e with
      | zero =>
        intro j hj
        have hj : j = tz 16 (k + 1) + 1 := by omega
        subst hj
        unfold wpX9_weights_78
        refine ⟨fun _ => f83, fun q => ?_⟩
        apply k_has (by omega)
        rw [ch_bits (by omega) (by omega) (by omega), decide_eq_false (by omega)]
        exact ⟨fun _ => f83, fun z => absurd rfl z⟩
      | succ e ih3 =>
        intro j hj
        unfold wpX9_weights_78
        refine ⟨fun q => ?_, fun _ => ?_⟩
        · rw [nI_leI (by omega) (by omega)] at q
          omega
        · apply k_has (by omega)
          rw [ch_bits (by omega) (by omega) (by omega), decide_eq_true (by omega)]
          refine ⟨fun z => absurd z (by decide), fun _ => ⟨vi (by omega), fun t76 e76 t77 e77 => ?_⟩⟩
          rw [e76, e77, nI_1, cln (by omega), b1 j (by omega), Int32.xor_assoc]
          exact ih3 (j + 1) (by omega)
    have := I (tz 16 (k + 1) + 1) 0 (by omega)
    have e0 : G k ^^^ xw (bs m (tl o m)) 0 = G k := Int32.xor_zero
    rw [e0] at this
    exact ⟨_, this⟩
  have L : ∀ (d k : Nat), k + 1 + d = 2 ^ (tl o m).length → wpX9_weights_58 K (d + 1) τ1 x (G k) (nI (tl o m).length) (sI (wcf x G) (k + 1)) (nI (k + 1)) := by
    intro d
    induction d with
    | zero =>
      intro k hk
      unfold wpX9_weights_58
      rw [sh1 _ (by omega), ← hk]
      refine ⟨fun _ => ?_, fun q => absurd (Int32.le_refl _) q⟩
      have := hK τ1 d1
      rw [← hk] at this
      exact this
    | succ d ih =>
      intro k hk
      unfold wpX9_weights_58
      rw [sh1 _ (by omega)]
      refine ⟨fun q => ?_, fun _ t46 e46 => ?_⟩
      · rw [nI_leI (by omega) (by omega)] at q
        omega
      · rw [e46]
        exact step (d + 1) k (by omega) (ih (k + 1) (by omega))
  refine ⟨2 ^ (tl o m).length, ?_⟩
  obtain ⟨N, hN⟩ : ∃ N, 2 ^ (tl o m).length = N + 1 := ⟨2 ^ (tl o m).length - 1, by omega⟩
  have hG0 : G 0 = 0 := by rw [← hG]; rfl
  have := L N 0 (by omega)
  rw [hG0] at this
  rw [hN]
  exact this
theorem e_weights {σ τ : wx_Z} (v : Int32) (h : RR σ τ) : wpX8_weights σ v (fun a σ' => wpX9_weights τ v (fun a' τ' => a = a' ∧ RR σ' τ')) := by
  obtain ⟨o, m, x, c, n, hx⟩ := id (RR.rx h)
  have lit : ((0 : Int64) = (0 : Int32).toInt64) ∧ ((32 : Int64) = (32 : Int32).toInt64) := ⟨rfl, rfl⟩
  have bad : ¬ (0 ≤ v ∧ v ≤ 32) → wpX8_refuseBad σ (-2) (fun r30 σ30 => wpX9_weights τ v (fun a' τ' => r30 = a' ∧ RR σ30 τ')) := by
    intro q
    apply q_bad
    show wpX9_weights τ v _
    unfold wpX9_weights
    rw [lit.1, lit.2]
    apply k_inI
    · intro h1 h2; exact absurd ⟨h1, h2⟩ q
    · intro _
      exact ⟨fun z => absurd rfl z, fun _ => k_bad ⟨rfl, R_bad h⟩⟩
  unfold wpX8_weights
  refine ⟨fun q => bad (fun z => absurd q (nn0.mpr z.1)), fun q => ⟨fun q2 => ?_, fun q2 => bad (fun z => q2 z.2)⟩⟩
  have q1 : 0 ≤ v := nn0.mp q
  apply q_canBeWalked hx.co
  · intro hl
    refine ⟨fun z => absurd rfl z, fun _ => ?_⟩
    apply q_no
    show wpX9_weights τ v _
    unfold wpX9_weights
    rw [lit.1, lit.2]
    apply k_inI _ (fun z => absurd ⟨q1, q2⟩ z)
    intro _ _
    refine ⟨fun _ => ?_, fun z => absurd z (by decide)⟩
    apply k_isFew hx.t0 hx.t1 hx.hom hx.h5 _ (fun z => absurd hl (by omega))
    intro _ τ1 d1
    exact ⟨fun z => absurd rfl z, fun _ => k_no ⟨rfl, R_no (h.frM d1)⟩⟩
  · intro hl
    refine ⟨fun _ => ?_, fun z => absurd z (by decide)⟩
    apply q_howManyWeigh (by omega) hx.co hl
    intro σ1 f1
    show wpX9_weights τ v _
    unfold wpX9_weights
    rw [lit.1, lit.2]
    apply k_inI _ (fun z => absurd ⟨q1, q2⟩ z)
    intro _ _
    refine ⟨fun _ => ?_, fun z => absurd z (by decide)⟩
    apply k_isFew hx.t0 hx.t1 hx.hom hx.h5 (fun z => absurd hl (by omega))
    intro _ τ1 d1
    refine ⟨fun _ => ?_, fun z => absurd z (by decide)⟩
    apply k_many ((d1 1 0 rfl).trans hx.t0) ((d1 1 1 rfl).trans hx.t1) hx.hom hx.h5
    intro τ2 d2 l2
    have c2 := d1.tr (cm_Many d2)
    have key := k_weights49 (K := fun a' τ' => sI (wcf v (gw m (tl o m))) (2 ^ (tl o m).length) = a' ∧ RR σ1 τ') (x := v) ((c2 1 0 rfl).trans hx.t0) ((c2 1 1 rfl).trans hx.t1) hx.hom hx.h5 hl (fun τ' d' => ⟨rfl, ((h.frC (fr_56 f1)).frM c2).frM (cm_Ba d')⟩)
    have e1 : sI (wcf v (gw m (tl o m))) 1 = if v = 0 then 1 else 0 := by
      show 0 + wcf v (gw m (tl o m)) 0 = _
      rw [Int32.zero_add]
      unfold wcf
      have : nI (pc (gw m (tl o m) 0)) = 0 := (by decide +kernel : nI (pc 0) = 0)
      rw [this]
      by_cases q : v = 0
      · rw [if_pos q.symm, if_pos q]
      · rw [if_neg (fun z => q z.symm), if_neg q]
    rw [e1] at key
    refine ⟨fun q => ?_, fun q => ?_⟩
    · rw [if_neg q] at key; exact key
    · rw [if_pos q] at key; exact key

/-! ===== class and reference beside each other ===== -/
def EQ (σ τ : wx_Z) (g c off : Nat) : Prop := τ c off = σ (cCo g) 0 ∧ τ c (off + 1) = σ (cCo g) 1 ∧ τ c (off + 2) = σ (cSt g) 2 ∧ ∀ i, i < 32 → τ c (off + 3 + i) = σ (cSo g) i
def rg (x c i : Nat) : Nat := 2 + (x + 8 - c + i) % 8
def RP (σ τ : wx_Z) (x c : Nat) : Prop := c ≤ 8 ∧ x < 8 ∧ σ 41 1 = nI x ∧ σ 41 2 = nI c ∧ τ 0 2 = nI c ∧ ∀ i, i < c → (∃ o m, ST σ (rg x c i) o m) ∧ EQ σ τ (rg x c i) 2 (35 * i)
def RT (σ τ : wx_Z) (n : Nat) : Prop := n ≤ 120 ∧ σ 43 2 = nI n ∧ τ 0 21 = nI n ∧ ∀ i, i < n → τ 11 i = σ 44 i ∧ 0 ≤ (σ 44 i).toInt ∧ (σ 44 i).toInt ≤ 127
def RC (σ τ : wx_Z) : Prop := τ 3 0 = σ 0 8 ∧ τ 3 1 = σ 0 9 ∧ τ 3 2 = σ 0 10
def RLv (σ τ : wx_Z) (o m : Nat) : Prop := ST σ 0 o m ∧ EQ σ τ 0 1 0
def RR (σ τ : wx_Z) : Prop := (∃ o m, RLv σ τ o m) ∧ (∃ x c, RP σ τ x c) ∧ (∃ n, RT σ τ n) ∧ RC σ τ
theorem ST.fr {σ σ' : wx_Z} {g o m : Nat} {L : List Nat} (h : ST σ g o m) (hf : fr L σ σ') (hL : ∀ c ∈ gl g, c ∉ L) : ST σ' g o m := by
  have a := hf _ (hL (cSt g) (by simp [gl]))
  have b := hf _ (hL (cSo g) (by simp [gl]))
  refine ⟨h.1.fr hf (hL _ (by simp [gl])) (hL _ (by simp [gl])), ?_, ?_, ?_⟩
  · rw [a]; exact h.2.1
  · intro i hi; rw [b]; exact h.2.2.1 i hi
  · intro i h1 hi; rw [b]; exact h.2.2.2 i h1 hi
theorem EQ.fr {σ σ' τ : wx_Z} {g c off : Nat} {L : List Nat} (h : EQ σ τ g c off) (hf : fr L σ σ') (hL : ∀ c ∈ gl g, c ∉ L) : EQ σ' τ g c off := by
  have a := hf _ (hL (cSt g) (by simp [gl]))
  have b := hf _ (hL (cSo g) (by simp [gl]))
  have d := hf _ (hL (cCo g) (by simp [gl]))
  refine ⟨by rw [d]; exact h.1, by rw [d]; exact h.2.1, by rw [a]; exact h.2.2.1, fun i hi => by rw [b]; exact h.2.2.2 i hi⟩
theorem gl_in {g c : Nat} (h : c ∈ gl g) : 4 * g + 1 ≤ c ∧ c ≤ 4 * g + 4 := by
  unfold gl at h
  simp only [List.mem_cons, List.not_mem_nil, or_false] at h
  unfold cSt cSo cCo cTe at h
  omega
/-- rows of the class that no answer is read from -/
def scr : List Nat := [5, 6, 7, 8, 45, 46, 47, 48, 49, 50, 51, 52, 53, 54, 55, 56, 57]
theorem scr_in {c : Nat} (h : c ∈ scr) : (5 ≤ c ∧ c ≤ 8) ∨ 45 ≤ c := by
  unfold scr at h
  simp only [List.mem_cons, List.not_mem_nil, or_false] at h
  omega
theorem scr_g0 : ∀ c ∈ gl 0, c ∉ scr := fun c h z => by
  have := gl_in h
  have := scr_in z
  omega
theorem scr_ring {g : Nat} (h1 : 2 ≤ g) (h2 : g < 10) : ∀ c ∈ gl g, c ∉ scr := fun c h z => by
  have := gl_in h
  have := scr_in z
  omega
theorem rg_in (x c i : Nat) : 2 ≤ rg x c i ∧ rg x c i < 10 := by
  unfold rg
  omega
theorem RR.frC {σ σ' τ : wx_Z} (h : RR σ τ) (hf : fr scr σ σ') : RR σ' τ := by
  obtain ⟨⟨o, m, hl1, hl2⟩, ⟨x, c, p1, p2, p3, p4, p5, p6⟩, ⟨n, t1, t2, t3, t4⟩, c1, c2, c3⟩ := h
  have e41 := hf 41 (by decide)
  have e43 := hf 43 (by decide)
  have e44 := hf 44 (by decide)
  have e0 := hf 0 (by decide)
  refine ⟨⟨o, m, hl1.fr hf scr_g0, hl2.fr hf scr_g0⟩, ⟨x, c, p1, p2, by rw [e41]; exact p3, by rw [e41]; exact p4, p5, fun i hi => ?_⟩, ⟨n, t1, by rw [e43]; exact t2, t3, fun i hi => by rw [e44]; exact t4 i hi⟩, by rw [e0]; exact c1, by rw [e0]; exact c2, by rw [e0]; exact c3⟩
  obtain ⟨⟨o', m', q1⟩, q2⟩ := p6 i hi
  have hr := rg_in x c i
  exact ⟨⟨o', m', q1.fr hf (scr_ring hr.1 hr.2)⟩, q2.fr hf (scr_ring hr.1 hr.2)⟩
/-- what of the reference is read -/
def coreM (c k : Nat) : Bool := c == 1 || c == 2 || c == 3 || c == 11 || (c == 0 && (k == 2 || k == 21))
def cmM (τ τ' : wx_Z) : Prop := ∀ c k, coreM c k = true → τ' c k = τ c k
theorem cmM.rf {τ : wx_Z} : cmM τ τ := fun _ _ _ => rfl
theorem cmM.tr {τ τ1 τ2 : wx_Z} (h1 : cmM τ τ1) (h2 : cmM τ1 τ2) : cmM τ τ2 := fun c k h => (h2 c k h).trans (h1 c k h)
theorem cmM.of {S : Nat → Nat → Bool} {τ τ' : wx_Z} (h : md S τ τ') (hS : ∀ c k, coreM c k = true → S c k = false) : cmM τ τ' := fun c k q => h c k (hS c k q)
theorem RR.frM {σ τ τ' : wx_Z} (h : RR σ τ) (hf : cmM τ τ') : RR σ τ' := by
  obtain ⟨⟨o, m, hl1, l1, l2, l3, l4⟩, ⟨x, c, p1, p2, p3, p4, p5, p6⟩, ⟨n, t1, t2, t3, t4⟩, c1, c2, c3⟩ := h
  refine ⟨⟨o, m, hl1, (hf 1 0 rfl).trans l1, (hf 1 1 rfl).trans l2, (hf 1 2 rfl).trans l3, fun i hi => (hf 1 _ rfl).trans (l4 i hi)⟩, ⟨x, c, p1, p2, p3, p4, (hf 0 2 rfl).trans p5, fun i hi => ?_⟩, ⟨n, t1, t2, (hf 0 21 rfl).trans t3, fun i hi => ⟨(hf 11 _ rfl).trans (t4 i hi).1, (t4 i hi).2⟩⟩, (hf 3 0 rfl).trans c1, (hf 3 1 rfl).trans c2, (hf 3 2 rfl).trans c3⟩
  obtain ⟨q1, k1, k2, k3, k4⟩ := p6 i hi
  exact ⟨q1, (hf 2 _ rfl).trans k1, (hf 2 _ rfl).trans k2, (hf 2 _ rfl).trans k3, fun j hj => (hf 2 _ rfl).trans (k4 j hj)⟩
theorem cm_Many {τ τ' : wx_Z} (h : md sMany τ τ') : cmM τ τ' := cmM.of h (fun c k q => by
  unfold coreM at q
  unfold sMany
  simp at q ⊢
  omega)
theorem cm_Vo {τ τ' : wx_Z} (h : md sVo τ τ') : cmM τ τ' := cmM.of h (fun c k q => by
  unfold coreM at q
  unfold sVo
  simp at q ⊢
  omega)
/-! ===== a state is left: the class ===== -/
def KC (σ σ' : wx_Z) (g o m x c : Nat) : Prop := fr (41 :: gl (2 + x)) σ σ' ∧ σ' 41 1 = nI ((x + 1) % 8) ∧ σ' 41 2 = nI (min (c + 1) 8) ∧ ST σ' (2 + x) o m ∧ σ' (cSt (2 + x)) 2 = σ (cSt g) 2 ∧ (∀ i, i < 32 → σ' (cSo (2 + x)) i = σ (cSo g) i)
theorem q_keep {σ : wx_Z} {g o m x c : Nat} {K : wx_Z → Prop} (hg : g < 2) (h : ST σ g o m) (hx : x < 8) (hc : c ≤ 8) (h1 : σ 41 1 = nI x) (h2 : σ 41 2 = nI c) (hK : ∀ σ', KC σ σ' g o m x c → K σ') : wpX4_keep g σ K := by
  unfold wpX4_keep
  rw [h1, cln (by omega)]
  refine ⟨vi hx, ?_⟩
  apply q_copy (by omega) h
  intro σ10 f10 s10 w10 so10
  have n41 : 41 ∉ gl (2 + x) := fun z => by have := gl_in z; omega
  have e10 : σ10 41 1 = nI x := by rw [f10 _ n41]; exact h1
  have e10' : σ10 41 2 = nI c := by rw [f10 _ n41]; exact h2
  refine ⟨by decide, fun σ23 e23 t35 e35 σ38 e38 => ?_⟩
  rw [e10, nI_1, show (8 : Int32) = nI 8 from rfl, pk_rem (by omega) (by omega) (by omega)] at e23
  have e23' : σ23 41 2 = nI c := by rw [e23, up_k (by decide)]; exact e10'
  have et : t35 = nI (min (c + 1) 8) := by
    rw [e35, e23', nI_1, show (8 : Int32) = nI 8 from rfl]
    by_cases q : 8 < c + 1
    · rw [if_pos (nI_lt q (by omega)), Nat.min_eq_right (by omega)]
    · rw [if_neg (nI_nlt (by omega) (by omega)), Nat.min_eq_left (by omega)]
  have hu : fr [41] σ10 σ38 := by rw [e38, e23]; exact (fr.rf.up (by decide)).up (by decide)
  have hng : ∀ c ∈ gl (2 + x), c ∉ [41] := fun c hc z => by
    simp at z
    subst z
    exact n41 hc
  refine hK σ38 ⟨?_, ?_, ?_, s10.fr hu hng, ?_, ?_⟩
  · exact (f10.mono (fun c h => List.mem_cons_of_mem _ h)).tr (hu.mono (fun c h => by simp at h; simp [h]))
  · rw [e38, up_k (by decide), e23, up_s]
  · rw [e38, up_s, et]
  · rw [hu _ (hng _ (by simp [gl]))]; exact w10
  · intro i hi
    rw [hu _ (hng _ (by simp [gl]))]
    exact so10 i hi
/-! ===== a state is left: the reference ===== -/
def sKeep (c k : Nat) : Bool := c == 2 || (c == 0 && k == 2)
def KM (τ τ' : wx_Z) (c : Nat) : Prop := md sKeep τ τ' ∧ τ' 0 2 = nI (min (c + 1) 8) ∧ (∀ k, k < 35 → τ' 2 (35 * (min (c + 1) 8 - 1) + k) = τ 1 k) ∧ ((c < 8 → ∀ k, k < 35 * c → τ' 2 k = τ 2 k) ∧ (c = 8 → ∀ k, k < 245 → τ' 2 k = τ 2 (k + 35)))
theorem k_keep51 {τ τ0 : wx_Z} {c : Nat} {K : wx_Z → Prop} (hc : c < 8) (h2 : τ 0 2 = nI c) (hK : ∀ τ', md sKeep τ τ' → τ' 0 2 = nI (c + 1) → (∀ k, k < 35 → τ' 2 (35 * c + k) = τ 1 k) → (∀ k, k < 35 * c → τ' 2 k = τ 2 k) → K τ') : ∃ n, wpX9_keep_51 K n τ 0 := by
  have L : ∀ (d k : Nat) (τ' : wx_Z), k + d = 35 → md sKeep τ τ' → τ' 0 2 = nI c → (∀ j, j < k → τ' 2 (35 * c + j) = τ 1 j) → (∀ j, j < 35 * c → τ' 2 j = τ 2 j) → wpX9_keep_51 K (d + 1) τ' (nI k) := by
    intro d
    induction d with
    | zero =>
      intro k τ' hk hm e2 h3 h4
      have hk : k = 35 := by omega
      subst hk
      unfold wpX9_keep_51
      refine ⟨fun _ σ90 e90 => ?_, fun q => absurd (by decide) q⟩
      rw [e2, nI_1] at e90
      refine hK σ90 ?_ ?_ ?_ ?_
      · rw [e90]; exact hm.up rfl
      · rw [e90, up_s]
      · intro j hj; rw [e90, up_c (by decide)]; exact h3 j hj
      · intro j hj; rw [e90, up_c (by decide)]; exact h4 j hj
    | succ d ih =>
      intro k τ' hk hm e2 h3 h4
      unfold wpX9_keep_51
      refine ⟨fun q => ?_, fun _ => ?_⟩
      · rw [show (35 : Int32) = nI 35 from rfl, nI_leI (by omega) (by omega)] at q
        omega
      · have ei : (35 : Int32) * τ' 0 2 + nI k = nI (35 * c + k) := by
          rw [e2, show (35 : Int32) = nI 35 from rfl, pk_mul, nI_add]
        rw [ei]
        refine ⟨vi (by omega), vi (by omega), fun σ76 e76 t77 e77 => ?_⟩
        rw [cln (by omega), cln (by omega), hm 1 k rfl] at e76
        rw [e77, nI_1, e76]
        refine ih (k + 1) _ (by omega) (hm.up rfl) ?_ ?_ ?_
        · rw [up_c (by decide)]; exact e2
        · intro j hj
          by_cases e : j = k
          · subst e; rw [up_s]
          · rw [up_k (by omega)]; exact h3 j (by omega)
        · intro j hj
          rw [up_k (by omega)]
          exact h4 j hj
  exact ⟨36, L 35 0 τ (by omega) md.rf h2 (fun j hj => absurd hj (Nat.not_lt_zero j)) (fun j _ => rfl)⟩
theorem k_keep {τ : wx_Z} {c : Nat} {K : wx_Z → Prop} (hc : c ≤ 8) (h2 : τ 0 2 = nI c) (hK : ∀ τ', KM τ τ' c → K τ') : wpX9_keep τ K := by
  unfold wpX9_keep
  rw [h2, show (8 : Int32) = nI 8 from rfl, nI_eq (by omega) (by omega)]
  refine ⟨fun q => ?_, fun q => ?_⟩
  · refine k_keep51 (τ0 := τ) (c := c) (by omega) h2 (fun τ' h1 h3 h4 h5 => hK τ' ⟨h1, ?_, ?_, fun _ => h5, fun z => absurd z q⟩)
    · rw [Nat.min_eq_left (by omega)]; exact h3
    · rw [Nat.min_eq_left (by omega)]; exact h4
  · subst q
    have L : ∀ (d k : Nat) (τ' : wx_Z), k + d = 245 → md sKeep τ τ' → τ' 0 2 = nI 8 → (∀ j, j < k → τ' 2 j = τ 2 (j + 35)) → (∀ j, k ≤ j → τ' 2 j = τ 2 j) → wpX9_keep_11 K (d + 1) τ' (nI k) := by
      intro d
      induction d with
      | zero =>
        intro k τ' hk hm e2 h3 h4
        have hk : k = 245 := by omega
        subst hk
        unfold wpX9_keep_11
        refine ⟨fun _ σ46 e46 => ?_, fun q => absurd (by decide) q⟩
        rw [e2, show nI 8 - 1 = nI 7 from rfl] at e46
        have hm46 : md sKeep τ σ46 := by rw [e46]; exact hm.up rfl
        refine k_keep51 (τ0 := τ) (c := 7) (by omega) (by rw [e46, up_s]) (fun τ'' g1 g3 g4 g5 => hK τ'' ⟨hm46.tr g1, g3, ?_, fun z => absurd z (by omega), fun _ j hj => ?_⟩)
        · intro j hj
          rw [show 35 * (min (8 + 1) 8 - 1) + j = 35 * 7 + j from rfl, g4 j hj]
          exact hm46 1 j rfl
        · rw [g5 j (by omega), e46, up_c (by decide)]
          exact h3 j hj
      | succ d ih =>
        intro k τ' hk hm e2 h3 h4
        unfold wpX9_keep_11
        refine ⟨fun q => ?_, fun _ => ?_⟩
        · rw [show (245 : Int32) = nI 245 from rfl, nI_leI (by omega) (by omega)] at q
          omega
        · rw [show (35 : Int32) = nI 35 from rfl, nI_add]
          refine ⟨vi (by omega), vi (by omega), fun σ32 e32 t33 e33 => ?_⟩
          rw [cln (by omega), cln (by omega), h4 (k + 35) (by omega)] at e32
          rw [e33, nI_1, e32]
          refine ih (k + 1) _ (by omega) (hm.up rfl) ?_ ?_ ?_
          · rw [up_c (by decide)]; exact e2
          · intro j hj
            by_cases e : j = k
            · subst e; rw [up_s]
            · rw [up_k e]; exact h3 j (by omega)
          · intro j hj
            rw [up_k (by omega)]
            exact h4 j (by omega)
    exact ⟨246, L 245 0 τ (by omega) md.rf h2 (fun j hj => absurd hj (Nat.not_lt_zero j)) (fun j _ => rfl)⟩
/-- both have left it -/
theorem R_keep {σ σ' τ τ' : wx_Z} {g o m x c : Nat} (hp : RP σ τ x c) (hC : KC σ σ' g o m x c) (hM : KM τ τ' c) (hco : CO σ g o m) (hE : EQ σ τ g 1 0) : RP σ' τ' ((x + 1) % 8) (min (c + 1) 8) := by
  obtain ⟨p1, p2, p3, p4, p5, p6⟩ := hp
  obtain ⟨f, k1, k2, s', w', so'⟩ := hC
  obtain ⟨hm, m2, m3, m4, m5⟩ := hM
  have keepG : ∀ g', 2 ≤ g' → g' < 10 → g' ≠ 2 + x → ∀ c ∈ gl g', c ∉ 41 :: gl (2 + x) := by
    intro g' a1 a2 a3 c' hc' z
    rcases List.mem_cons.mp z with z | z
    · have := gl_in hc'
      omega
    · exact g_ne (fun e => a3 e.symm) c' hc' z
  have new : EQ σ' τ' (2 + x) 2 (35 * (min (c + 1) 8 - 1)) := by
    obtain ⟨e1, e2, e3, e4⟩ := hE
    have c0 := s'.1.1
    have c1 := s'.1.2.1
    refine ⟨?_, ?_, ?_, ?_⟩
    · rw [c0, ← hco.1, ← e1]; exact m3 0 (by omega)
    · rw [c1, ← hco.2.1, ← e2]; exact m3 1 (by omega)
    · rw [w', ← e3]; exact m3 2 (by omega)
    · intro i hi
      rw [so' i hi, ← e4 i hi, Nat.add_assoc]
      rw [m3 (3 + i) (by omega), show 0 + 3 + i = 3 + i by omega]
  refine ⟨Nat.min_le_right _ _, by omega, k1, k2, m2, fun i hi => ?_⟩
  rcases Nat.lt_or_ge c 8 with h8 | h8
  · rw [Nat.min_eq_left (by omega)] at hi new ⊢
    by_cases e : i = c
    · subst e
      have er : rg ((x + 1) % 8) (i + 1) i = 2 + x := by unfold rg; omega
      rw [er]
      exact ⟨⟨o, m, s'⟩, new⟩
    · have er : rg ((x + 1) % 8) (c + 1) i = rg x c i := by unfold rg; omega
      have hne : rg x c i ≠ 2 + x := by unfold rg; omega
      rw [er]
      have hr := rg_in x c i
      obtain ⟨⟨o', m', q1⟩, q2, q3, q4, q5⟩ := p6 i (by omega)
      refine ⟨⟨o', m', q1.fr f (keepG _ hr.1 hr.2 hne)⟩, ?_⟩
      have := EQ.fr (σ := σ) (σ' := σ') (τ := τ') (c := 2) (off := 35 * i) ⟨(m4 h8 _ (by omega)).trans q2, (m4 h8 _ (by omega)).trans q3, (m4 h8 _ (by omega)).trans q4, fun j hj => (m4 h8 _ (by omega)).trans (q5 j hj)⟩ f (keepG _ hr.1 hr.2 hne)
      exact this
  · have hc8 : c = 8 := by omega
    subst hc8
    have hi : i < 8 := hi
    show (∃ o m, ST σ' (rg ((x + 1) % 8) 8 i) o m) ∧ EQ σ' τ' (rg ((x + 1) % 8) 8 i) 2 (35 * i)
    by_cases e : i = 7
    · subst e
      have er : rg ((x + 1) % 8) 8 7 = 2 + x := by unfold rg; omega
      rw [er]
      exact ⟨⟨o, m, s'⟩, new⟩
    · have er : rg ((x + 1) % 8) 8 i = rg x 8 (i + 1) := by unfold rg; omega
      have hne : rg x 8 (i + 1) ≠ 2 + x := by unfold rg; omega
      rw [er]
      have hr := rg_in x 8 (i + 1)
      obtain ⟨⟨o', m', q1⟩, q2, q3, q4, q5⟩ := p6 (i + 1) (by omega)
      refine ⟨⟨o', m', q1.fr f (keepG _ hr.1 hr.2 hne)⟩, ?_⟩
      have sh : ∀ k, k < 35 → τ' 2 (35 * i + k) = τ 2 (35 * (i + 1) + k) := fun k hk => by
        rw [m5 rfl _ (by omega)]
        congr 1
        omega
      refine EQ.fr (σ := σ) (σ' := σ') (τ := τ') (c := 2) (off := 35 * i) ⟨?_, ?_, ?_, fun j hj => ?_⟩ f (keepG _ hr.1 hr.2 hne)
      · exact (sh 0 (by omega)).trans q2
      · exact (sh 1 (by omega)).trans q3
      · exact (sh 2 (by omega)).trans q4
      · rw [Nat.add_assoc, sh (3 + j) (by omega), ← Nat.add_assoc]
        exact q5 j hj

/-! ===== refusals ===== -/
theorem fr_0 {σ : wx_Z} {k : Nat} {v : Int32} : fr [0] σ (wx_up σ 0 k v) := fr.rf.up (by decide)
theorem gl_0 {g : Nat} : ∀ c ∈ gl g, c ∉ [0] := fun c h z => by
  simp at z
  have := gl_in h
  omega
theorem RLv.up0 {σ τ : wx_Z} {o m k : Nat} {v : Int32} (h : RLv σ τ o m) : RLv (wx_up σ 0 k v) τ o m := ⟨h.1.fr fr_0 gl_0, h.2.fr fr_0 gl_0⟩
theorem RP.up0 {σ τ : wx_Z} {x c k : Nat} {v : Int32} (h : RP σ τ x c) : RP (wx_up σ 0 k v) τ x c := by
  obtain ⟨p1, p2, p3, p4, p5, p6⟩ := h
  refine ⟨p1, p2, by rw [up_c (by decide)]; exact p3, by rw [up_c (by decide)]; exact p4, p5, fun i hi => ?_⟩
  obtain ⟨⟨o', m', q1⟩, q2⟩ := p6 i hi
  exact ⟨⟨o', m', q1.fr fr_0 gl_0⟩, q2.fr fr_0 gl_0⟩
theorem RT.up0 {σ τ : wx_Z} {n k : Nat} {v : Int32} (h : RT σ τ n) : RT (wx_up σ 0 k v) τ n := by
  obtain ⟨t1, t2, t3, t4⟩ := h
  exact ⟨t1, by rw [up_c (by decide)]; exact t2, t3, fun i hi => by rw [up_c (by decide)]; exact t4 i hi⟩
theorem RLv.up3 {σ τ : wx_Z} {o m k : Nat} {v : Int32} (h : RLv σ τ o m) : RLv σ (wx_up τ 3 k v) o m := ⟨h.1, by rw [up_c (by decide)]; exact h.2.1, by rw [up_c (by decide)]; exact h.2.2.1, by rw [up_c (by decide)]; exact h.2.2.2.1, fun i hi => by rw [up_c (by decide)]; exact h.2.2.2.2 i hi⟩
theorem RP.up3 {σ τ : wx_Z} {x c k : Nat} {v : Int32} (h : RP σ τ x c) : RP σ (wx_up τ 3 k v) x c := by
  obtain ⟨p1, p2, p3, p4, p5, p6⟩ := h
  refine ⟨p1, p2, p3, p4, by rw [up_c (by decide)]; exact p5, fun i hi => ?_⟩
  obtain ⟨q1, k1, k2, k3, k4⟩ := p6 i hi
  exact ⟨q1, by rw [up_c (by decide)]; exact k1, by rw [up_c (by decide)]; exact k2, by rw [up_c (by decide)]; exact k3, fun j hj => by rw [up_c (by decide)]; exact k4 j hj⟩
theorem RT.up3 {σ τ : wx_Z} {n k : Nat} {v : Int32} (h : RT σ τ n) : RT σ (wx_up τ 3 k v) n := by
  obtain ⟨t1, t2, t3, t4⟩ := h
  exact ⟨t1, t2, by rw [up_c (by decide)]; exact t3, fun i hi => by rw [up_c (by decide)]; exact t4 i hi⟩
theorem R_bad {σ τ : wx_Z} (h : RR σ τ) : RR (wx_up σ 0 8 (σ 0 8 + 1)) (wx_up τ 3 0 (τ 3 0 + 1)) := by
  obtain ⟨⟨o, m, hl⟩, ⟨x, c, hp⟩, ⟨n, ht⟩, c1, c2, c3⟩ := h
  refine ⟨⟨o, m, hl.up0.up3⟩, ⟨x, c, hp.up0.up3⟩, ⟨n, ht.up0.up3⟩, ?_, ?_, ?_⟩
  · rw [up_s, up_s, c1]
  · rw [up_k (by decide), up_k (by decide), c2]
  · rw [up_k (by decide), up_k (by decide), c3]
theorem R_no {σ τ : wx_Z} (h : RR σ τ) : RR (wx_up σ 0 9 (σ 0 9 + 1)) (wx_up τ 3 1 (τ 3 1 + 1)) := by
  obtain ⟨⟨o, m, hl⟩, ⟨x, c, hp⟩, ⟨n, ht⟩, c1, c2, c3⟩ := h
  refine ⟨⟨o, m, hl.up0.up3⟩, ⟨x, c, hp.up0.up3⟩, ⟨n, ht.up0.up3⟩, ?_, ?_, ?_⟩
  · rw [up_k (by decide), up_k (by decide), c1]
  · rw [up_s, up_s, c2]
  · rw [up_k (by decide), up_k (by decide), c3]
theorem R_full {σ τ : wx_Z} (h : RR σ τ) : RR (wx_up σ 0 10 (σ 0 10 + 1)) (wx_up τ 3 2 (τ 3 2 + 1)) := by
  obtain ⟨⟨o, m, hl⟩, ⟨x, c, hp⟩, ⟨n, ht⟩, c1, c2, c3⟩ := h
  refine ⟨⟨o, m, hl.up0.up3⟩, ⟨x, c, hp.up0.up3⟩, ⟨n, ht.up0.up3⟩, ?_, ?_, ?_⟩
  · rw [up_k (by decide), up_k (by decide), c1]
  · rw [up_k (by decide), up_k (by decide), c2]
  · rw [up_s, up_s, c3]
theorem q_bad {σ : wx_Z} {x : Int32} {K : Int32 → wx_Z → Prop} (h : K x (wx_up σ 0 8 (σ 0 8 + 1))) : wpX8_refuseBad σ x K := fun _ e => by rw [e]; exact h
theorem q_no {σ : wx_Z} {x : Int32} {K : Int32 → wx_Z → Prop} (h : K x (wx_up σ 0 9 (σ 0 9 + 1))) : wpX8_refuseNo σ x K := fun _ e => by rw [e]; exact h
/-- what both must answer -/
abbrev KK (τ : wx_Z) (f : wx_Z → (Int32 → wx_Z → Prop) → Prop) : Int32 → wx_Z → Prop := fun r σ' => f τ (fun r' τ' => r = r' ∧ RR σ' τ')
theorem both_bad {σ τ : wx_Z} {v : Int32} (h : RR σ τ) : wpX8_refuseBad σ v (fun r σ' => wpX9_bad τ v (fun r' τ' => r = r' ∧ RR σ' τ')) := q_bad (k_bad ⟨rfl, R_bad h⟩)
theorem both_no {σ τ : wx_Z} {v : Int32} (h : RR σ τ) : wpX8_refuseNo σ v (fun r σ' => wpX9_no τ v (fun r' τ' => r = r' ∧ RR σ' τ')) := q_no (k_no ⟨rfl, R_no h⟩)
/-! ===== a state is left by both ===== -/
theorem both_keep {σ τ σ1 τ1 : wx_Z} {o m x c n : Nat} (hl : RLv σ τ o m) (hp : RP σ τ x c) (ht : RT σ τ n) (hc : RC σ τ) (hC : KC σ σ1 0 o m x c) (hM : KM τ τ1 c) : RLv σ1 τ1 o m ∧ RP σ1 τ1 ((x + 1) % 8) (min (c + 1) 8) ∧ RT σ1 τ1 n ∧ RC σ1 τ1 := by
  have hp2 := R_keep hp hC hM hl.1.1 hl.2
  have hx := hp.2.1
  have n0 : ∀ c' ∈ gl 0, c' ∉ 41 :: gl (2 + x) := fun c' h z => by
    have := gl_in h
    rcases List.mem_cons.mp z with z | z
    · omega
    · have := gl_in z
      omega
  have nn : ∀ c', (c' = 0 ∨ c' = 43 ∨ c' = 44) → c' ∉ 41 :: gl (2 + x) := fun c' h z => by
    rcases List.mem_cons.mp z with z | z
    · omega
    · have := gl_in z
      omega
  obtain ⟨e1, e2, e3, e4⟩ := hl.2
  obtain ⟨t1, t2, t3, t4⟩ := ht
  obtain ⟨c1, c2, c3⟩ := hc
  refine ⟨⟨hl.1.fr hC.1 n0, EQ.fr (σ := σ) ⟨(hM.1 1 0 rfl).trans e1, (hM.1 1 1 rfl).trans e2, (hM.1 1 2 rfl).trans e3, fun i hi => (hM.1 1 _ rfl).trans (e4 i hi)⟩ hC.1 n0⟩, hp2, ⟨t1, ?_, (hM.1 0 21 rfl).trans t3, fun i hi => ⟨?_, ?_⟩⟩, ?_, ?_, ?_⟩
  · rw [hC.1 43 (nn 43 (by omega))]; exact t2
  · rw [hC.1 44 (nn 44 (by omega))]; exact (hM.1 11 i rfl).trans (t4 i hi).1
  · rw [hC.1 44 (nn 44 (by omega))]; exact (t4 i hi).2
  · rw [hC.1 0 (nn 0 (by omega))]; exact (hM.1 3 0 rfl).trans c1
  · rw [hC.1 0 (nn 0 (by omega))]; exact (hM.1 3 1 rfl).trans c2
  · rw [hC.1 0 (nn 0 (by omega))]; exact (hM.1 3 2 rfl).trans c3
/-- a new live state in both -/
theorem RR.live {σ τ σ1 τ1 : wx_Z} {o m x c n : Nat} (hp : RP σ τ x c) (ht : RT σ τ n) (hc : RC σ τ) (hf : fr (gl 0) σ σ1) (hM : ∀ c k, ¬ c = 1 → coreM c k = true → τ1 c k = τ c k) (hl : RLv σ1 τ1 o m) : RR σ1 τ1 := by
  obtain ⟨p1, p2, p3, p4, p5, p6⟩ := hp
  obtain ⟨t1, t2, t3, t4⟩ := ht
  obtain ⟨c1, c2, c3⟩ := hc
  have nn : ∀ c', (c' = 0 ∨ 5 ≤ c') → c' ∉ gl 0 := fun c' h z => by have := gl_in z; omega
  refine ⟨⟨o, m, hl⟩, ⟨x, c, p1, p2, ?_, ?_, (hM 0 2 (by decide) rfl).trans p5, fun i hi => ?_⟩, ⟨n, t1, ?_, (hM 0 21 (by decide) rfl).trans t3, fun i hi => ⟨?_, ?_⟩⟩, ?_, ?_, ?_⟩
  · rw [hf 41 (nn 41 (by omega))]; exact p3
  · rw [hf 41 (nn 41 (by omega))]; exact p4
  · obtain ⟨⟨o', m', q1⟩, k1, k2, k3, k4⟩ := p6 i hi
    have hr := rg_in x c i
    have hg : ∀ c' ∈ gl (rg x c i), c' ∉ gl 0 := g_ne (by omega)
    exact ⟨⟨o', m', q1.fr hf hg⟩, EQ.fr (σ := σ) ⟨(hM 2 _ (by decide) rfl).trans k1, (hM 2 _ (by decide) rfl).trans k2, (hM 2 _ (by decide) rfl).trans k3, fun j hj => (hM 2 _ (by decide) rfl).trans (k4 j hj)⟩ hf hg⟩
  · rw [hf 43 (nn 43 (by omega))]; exact t2
  · rw [hf 44 (nn 44 (by omega))]; exact (hM 11 _ (by decide) rfl).trans (t4 i hi).1
  · rw [hf 44 (nn 44 (by omega))]; exact (t4 i hi).2
  · rw [hf 0 (nn 0 (by omega))]; exact (hM 3 0 (by decide) rfl).trans c1
  · rw [hf 0 (nn 0 (by omega))]; exact (hM 3 1 (by decide) rfl).trans c2
  · rw [hf 0 (nn 0 (by omega))]; exact (hM 3 2 (by decide) rfl).trans c3
/-- THE WORD becomes w -/
theorem RLv.word {σ τ : wx_Z} {o m : Nat} {w : Int32} (h : RLv σ τ o m) (hw : wi w (2 ^ m)) : RLv (wx_up σ (cSt 0) 2 w) (wx_up τ 1 2 w) o m := by
  obtain ⟨⟨s1, s2, s3, s4⟩, e1, e2, e3, e4⟩ := h
  obtain ⟨n1, n2, n3, n4, n5, n6⟩ := c_ne 0
  refine ⟨⟨s1.same (fun k => up_c n2) (fun k => up_c n4), ?_, ?_, ?_⟩, ?_, ?_, ?_, ?_⟩
  · rw [up_s]; exact hw
  · intro i hi; rw [up_c (fun z => n6 z.symm)]; exact s3 i hi
  · intro i h1 hi; rw [up_c (fun z => n6 z.symm)]; exact s4 i h1 hi
  · rw [up_k (by decide), up_c n2]; exact e1
  · rw [up_k (by decide), up_c n2]; exact e2
  · rw [up_s, up_s]
  · intro i hi
    rw [up_k (by omega), up_c (fun z => n6 z.symm)]
    exact e4 i hi
theorem RR.word {σ τ : wx_Z} {o m x c n : Nat} {w : Int32} (hl : RLv σ τ o m) (hp : RP σ τ x c) (ht : RT σ τ n) (hc : RC σ τ) (hw : wi w (2 ^ m)) : RR (wx_up σ (cSt 0) 2 w) (wx_up τ 1 2 w) :=
  RR.live hp ht hc (fr.rf.up (by simp [gl])) (fun c k h _ => by rw [up_c h]) (hl.word hw)
/-! ===== masks ===== -/
def mk (n : Nat) : Int32 := wx_us (-1) (32 - nI n)
theorem bt_mk {n i : Nat} (h1 : 1 ≤ n) (h2 : n ≤ 32) (hi : i < 32) : bt (mk n) i = decide (i < n) := by
  unfold mk wx_us
  rw [show (32 : Int32) = nI 32 from rfl, pk_sub h2, b_ushr (32 - n) (by omega)]
  by_cases h : i < n
  · rw [b_m1 _ (by omega), decide_eq_true h]
  · rw [b_big (by omega), decide_eq_false h]
theorem mk_wi {w : Int32} {n : Nat} (h1 : 1 ≤ n) (h2 : n ≤ 32) : w &&& (mk n ^^^ (-1)) = 0 ↔ wi w n := by
  constructor
  · intro h i hi1 hi2
    have := congrArg (fun z => bt z i) h
    simp only [b_and, b_xor, b_0] at this
    rw [bt_mk h1 h2 hi2, b_m1 i hi2, decide_eq_false (by omega)] at this
    simpa using this
  · intro h
    apply b_ext
    intro i hi
    rw [b_and, b_xor, b_0, bt_mk h1 h2 hi, b_m1 i hi]
    by_cases q : i < n
    · simp [q]
    · rw [h i (by omega) hi]; rfl
theorem mk_all : ∀ n, n < 33 → 1 ≤ n → (nI n < 32 → (1 : Int32) <<< (nI n &&& 31) - 1 = mk n) ∧ (¬ nI n < 32 → (-1 : Int32) = mk n) := by decide +kernel
theorem k_allOf {τ : wx_Z} {n : Nat} {K : Int32 → wx_Z → Prop} (h1 : 1 ≤ n) (h2 : n ≤ 32) (h : K (mk n) τ) : wpX9_allOf τ (nI n) K := by
  obtain ⟨a, b⟩ := mk_all n (by omega) h1
  exact ⟨fun q => by rw [a q]; exact h, fun q => by rw [b q]; exact h⟩
theorem k_isWithin {τ : wx_Z} {w : Int32} {n : Nat} {K : Int32 → wx_Z → Prop} (h1 : 1 ≤ n) (h2 : n ≤ 32) (hy : wi w n → K 1 τ) (hn : ¬ wi w n → K 0 τ) : wpX9_isWithin τ w (nI n) K := by
  unfold wpX9_isWithin
  apply k_allOf h1 h2
  rw [mk_wi h1 h2]
  exact ⟨hn, hy⟩
theorem q_lowest {σ : wx_Z} {n : Nat} {K : Int32 → wx_Z → Prop} (h : K (mk n) σ) : wpX8_lowest σ (nI n) K := h
/-! ===== places asked for ===== -/
theorem q_hasPlace {σ : wx_Z} {g o m : Nat} {x : Int32} {K : Int32 → wx_Z → Prop} (h : CO σ g o m) (hy : ∀ j, j < 2 ^ m → x = nI j → K 1 σ) (hn : (x < 0 ∨ nI (2 ^ m) ≤ x) → K 0 σ) : wpX1_hasPlace g σ x K := by
  have hp := p2_le h.2.2.2.2.2.2
  unfold wpX1_hasPlace
  rw [h.2.2.1]
  refine ⟨fun q => hn (Or.inl q), fun q => ⟨fun q2 => hn (Or.inr q2), fun q2 => ?_⟩⟩
  rcases pk_ix x (n := 2 ^ m) (by omega) with z | z | ⟨j, hj, z⟩
  · exact absurd z q
  · exact absurd z q2
  · exact hy j hj z
theorem out_not {x : Int32} {n : Nat} (hn : n < 2 ^ 31) (h : x < 0 ∨ nI n ≤ x) {j : Nat} (hj : j < n) : x ≠ nI j := by
  intro e
  subst e
  rcases h with h | h
  · exact nI_pos (by omega) h
  · exact nI_ge hj hn h
theorem k_isPlace {τ : wx_Z} {m : Nat} {x : Int32} {K : Int32 → wx_Z → Prop} (hm : τ 1 1 = nI m) (h5 : m ≤ 5) (hy : ∀ j, j < 2 ^ m → x = nI j → K 1 τ) (hn : (x < 0 ∨ nI (2 ^ m) ≤ x) → K 0 τ) : wpX9_isPlace τ x K := by
  have hp := p2_le h5
  have hpos := p2_pos m
  unfold wpX9_isPlace
  apply k_places hm h5
  obtain ⟨p, e⟩ : ∃ p, 2 ^ m = p + 1 := ⟨2 ^ m - 1, by omega⟩
  rw [e, nI_pred]
  rw [e] at hy hn hp
  apply k_in
  · intro h1 h2
    rw [show (0 : Int64) = (nI 0).toInt64 from rfl, toL_le] at h1
    rw [toL_le] at h2
    rcases pk_ix x (n := p + 1) (by omega) with z | z | ⟨j, hj, z⟩
    · exact absurd (Int32.not_le.mpr z) (fun q => q h1)
    · exact absurd (Int32.le_trans z h2) (nI_ge (by omega) (by omega))
    · exact ⟨rfl, hy j hj z⟩
  · intro h
    refine ⟨rfl, ?_⟩
    rcases pk_ix x (n := p + 1) (by omega) with z | z | ⟨j, hj, z⟩
    · exact hn (Or.inl z)
    · exact hn (Or.inr z)
    · refine absurd ?_ h
      subst z
      rw [show (0 : Int64) = (nI 0).toInt64 from rfl, toL_le, toL_le]
      exact ⟨nI_le (by omega) (by omega), nI_le (by omega) (by omega)⟩
/-- a number between two, asked by both -/
theorem in_iff {x lo hi : Int32} : (lo.toInt64 ≤ x.toInt64 ∧ x.toInt64 ≤ hi.toInt64) ↔ (lo ≤ x ∧ x ≤ hi) := by rw [toL_le, toL_le]

/-! ===== the class: a code, a state, copies ===== -/
def SN : List Nat := [0, 1, 2, 4, 8, 16, 3, 5, 6, 9, 10, 12, 17, 18, 20, 24, 7, 11, 13, 14, 19, 21, 22, 25, 26, 28, 15, 23, 27, 29, 30, 31]
theorem wC_SN : ∀ i, i < 32 → wC_S i = nI (SN.getD i 0) ∧ SN.getD i 0 < 32 := by decide +kernel
def sl (r m i : Nat) : List Nat := (SN.take i).filter (fun t => decide (t < 2 ^ m) && decide (pcF 5 t ≤ r))
theorem sl_tl : ∀ m, m < 6 → ∀ r, r < 6 → sl r m 32 = tl r m := by decide +kernel
theorem SN_take {i : Nat} (hi : i < 32) : SN.take (i + 1) = SN.take i ++ [SN.getD i 0] := by
  rw [List.take_succ, List.getD_eq_getElem?_getD, List.getElem?_eq_getElem (show i < SN.length from hi)]
  rfl
theorem sl_yes {r m i : Nat} (hi : i < 32) (h1 : SN.getD i 0 < 2 ^ m) (h2 : pcF 5 (SN.getD i 0) ≤ r) : sl r m (i + 1) = sl r m i ++ [SN.getD i 0] := by
  unfold sl
  rw [SN_take hi, List.filter_append]
  generalize SN.getD i 0 = t at *
  simp [h1, h2]
theorem sl_no {r m i : Nat} (hi : i < 32) (h : ¬ (SN.getD i 0 < 2 ^ m ∧ pcF 5 (SN.getD i 0) ≤ r)) : sl r m (i + 1) = sl r m i := by
  unfold sl
  rw [SN_take hi, List.filter_append]
  generalize SN.getD i 0 = t at *
  by_cases h1 : t < 2 ^ m
  · have h2 : ¬ pcF 5 t ≤ r := fun z => h ⟨h1, z⟩
    simp [h2]
  · simp [h1]
theorem sl_len {r m i : Nat} (hi : i ≤ 32) : (sl r m i).length ≤ i := by
  unfold sl
  refine Nat.le_trans (List.length_filter_le _ _) ?_
  rw [List.length_take]
  exact Nat.min_le_left _ _
theorem c_ne (g : Nat) : cCo g ≠ cTe g ∧ cCo g ≠ cSt g ∧ cCo g ≠ cSo g ∧ cTe g ≠ cSt g ∧ cTe g ≠ cSo g ∧ cSt g ≠ cSo g := by
  unfold cCo cTe cSt cSo
  omega
theorem q_become {σ : wx_Z} {g r m : Nat} {K : wx_Z → Prop} (hr : r ≤ m) (h5 : m ≤ 5) (hK : ∀ σ', fr [cCo g, cTe g] σ σ' → CO σ' g r m → K σ') : wpX1_become g σ (nI r) (nI m) K := by
  have hp := p2_le h5
  unfold wpX1_become
  intro σ2 e2 σ7 e7 σ14 e14 σ19 e19
  rw [sh1 m (by omega)] at e14
  have hce := (c_ne g).1
  have L : ∀ (d i : Nat) (σ' : wx_Z), i + d = 32 → fr [cCo g, cTe g] σ σ' → σ' (cCo g) 0 = nI r → σ' (cCo g) 1 = nI m → σ' (cCo g) 2 = nI (2 ^ m) → σ' (cCo g) 3 = nI (sl r m i).length → (∀ j, j < (sl r m i).length → σ' (cTe g) j = nI ((sl r m i).getD j 0)) → wpX1_become_33 g K (d + 1) σ' (nI r) 32 (nI i) := by
    intro d
    induction d with
    | zero =>
      intro i σ' hi f0 h0 h1 h2 h3 h4
      have hi : i = 32 := by omega
      subst hi
      unfold wpX1_become_33
      rw [sl_tl m (by omega) r (by omega)] at h3 h4
      exact ⟨fun _ => hK σ' f0 ⟨h0, h1, h2, h3, h4, hr, h5⟩, fun q => absurd (by decide) q⟩
    | succ d ih =>
      intro i σ' hi f0 h0 h1 h2 h3 h4
      unfold wpX1_become_33
      obtain ⟨w1, w2⟩ := wC_SN i (by omega)
      have hl := sl_len (r := r) (m := m) (i := i) (by omega)
      refine ⟨fun q => ?_, fun _ => ⟨vi (by omega), ?_⟩⟩
      · rw [show (32 : Int32) = nI 32 from rfl, nI_leI (by omega) (by omega)] at q
        omega
      · rw [cln (by omega), w1, h2]
        refine ⟨fun q t85 e85 => ?_, fun q => ?_⟩
        · rw [nI_leI (by omega) (by omega)] at q
          rw [e85, nI_1]
          have hs := sl_no (r := r) (m := m) (i := i) (by omega) (fun z => by omega)
          exact ih (i + 1) σ' (by omega) f0 h0 h1 h2 (by rw [hs]; exact h3) (by rw [hs]; exact h4)
        · rw [nI_leI (by omega) (by omega)] at q
          apply k_bitCount
          rw [pc_5 _ w2]
          have hb5 : pcF 5 (SN.getD i 0) ≤ 5 := (by decide +kernel : ∀ t, t < 32 → pcF 5 t ≤ 5) _ w2
          refine ⟨fun q2 t85 e85 => ?_, fun q2 => ?_⟩
          · rw [nI_ltI (by omega) (by omega)] at q2
            rw [e85, nI_1]
            have hs := sl_no (r := r) (m := m) (i := i) (by omega) (fun z => by omega)
            exact ih (i + 1) σ' (by omega) f0 h0 h1 h2 (by rw [hs]; exact h3) (by rw [hs]; exact h4)
          · rw [nI_ltI (by omega) (by omega)] at q2
            have hs := sl_yes (r := r) (m := m) (i := i) (by omega) (by omega) (by omega)
            rw [h3]
            refine ⟨vi (by omega), fun σ74 e74 σ82 e82 t85 e85 => ?_⟩
            rw [cln (by omega)] at e74
            have e3 : σ74 (cCo g) 3 = nI (sl r m i).length := by rw [e74, up_c hce, h3]
            rw [e3, nI_1, e74] at e82
            rw [e85, nI_1, e82]
            refine ih (i + 1) _ (by omega) ((f0.up (by simp)).up (by simp)) ?_ ?_ ?_ ?_ ?_
            · rw [up_k (by decide), up_c hce, h0]
            · rw [up_k (by decide), up_c hce, h1]
            · rw [up_k (by decide), up_c hce, h2]
            · rw [up_s, hs, List.length_append]; rfl
            · intro j hj
              rw [hs, List.length_append] at hj
              rw [up_c (fun z => hce z.symm), hs]
              by_cases e : j = (sl r m i).length
              · subst e
                rw [up_s]
                simp
              · have hj2 : j < (sl r m i).length := by
                  have : j < (sl r m i).length + 1 := hj
                  omega
                rw [up_k e, h4 j hj2, List.getD_eq_getElem?_getD, List.getD_eq_getElem?_getD, List.getElem?_append_left hj2]
  refine ⟨33, L 32 0 σ19 (by omega) ?_ ?_ ?_ ?_ ?_ ?_⟩
  · rw [e19, e14, e7, e2]
    exact (((fr.rf.up (by simp)).up (by simp)).up (by simp)).up (by simp)
  · rw [e19, up_k (by decide), e14, up_k (by decide), e7, up_k (by decide), e2, up_s]
  · rw [e19, up_k (by decide), e14, up_k (by decide), e7, up_s]
  · rw [e19, up_k (by decide), e14, up_s]
  · rw [e19, up_s]; rfl
  · intro j hj
    simp [sl] at hj
theorem q_fill {σ : wx_Z} {g : Nat} {v : Int32} {K : wx_Z → Prop} (hK : ∀ σ', fr [cSo g] σ σ' → (∀ i, i < 32 → σ' (cSo g) i = v) → K σ') : wpJ7_fill_53178 g σ v K := by
  have L : ∀ (d i : Nat) (σ' : wx_Z), i + d = 32 → fr [cSo g] σ σ' → (∀ j, j < i → σ' (cSo g) j = v) → wpJ7_fill_53178_5 g K (d + 1) σ' v (nI i) 32 := by
    intro d
    induction d with
    | zero =>
      intro i σ' hi f0 h0
      have hi : i = 32 := by omega
      subst hi
      unfold wpJ7_fill_53178_5
      exact ⟨fun _ => hK σ' f0 h0, fun q => absurd (by decide) q⟩
    | succ d ih =>
      intro i σ' hi f0 h0
      unfold wpJ7_fill_53178_5
      refine ⟨fun q => ?_, fun _ => ⟨vi (by omega), fun σ13 e13 t14 e14 => ?_⟩⟩
      · rw [show (32 : Int32) = nI 32 from rfl, nI_leI (by omega) (by omega)] at q
        omega
      · rw [cln (by omega)] at e13
        rw [e14, nI_1, e13]
        refine ih (i + 1) _ (by omega) (f0.up (by simp)) (fun j hj => ?_)
        by_cases e : j = i
        · subst e; rw [up_s]
        · rw [up_k e]; exact h0 j (by omega)
  exact ⟨33, L 32 0 σ (by omega) fr.rf (fun j hj => absurd hj (Nat.not_lt_zero j))⟩
/-- a state: its code, its word within the places, its soft places within bounds, 0 beyond -/
def ST (σ : wx_Z) (g o m : Nat) : Prop := CO σ g o m ∧ wi (σ (cSt g) 2) (2 ^ m) ∧ (∀ i, i < 32 → -99 ≤ (σ (cSo g) i).toInt ∧ (σ (cSo g) i).toInt ≤ 99) ∧ ∀ i, 2 ^ m ≤ i → i < 32 → σ (cSo g) i = 0
def gl (g : Nat) : List Nat := [cSt g, cSo g, cCo g, cTe g]
theorem q_start {σ : wx_Z} {g r m : Nat} {K : wx_Z → Prop} (hr : r ≤ m) (h5 : m ≤ 5) (hK : ∀ σ', fr (gl g) σ σ' → ST σ' g r m → σ' (cSt g) 2 = 0 → (∀ i, i < 32 → σ' (cSo g) i = 0) → K σ') : wpX5_start g σ (nI r) (nI m) K := by
  unfold wpX5_start
  obtain ⟨n1, n2, n3, n4, n5, n6⟩ := c_ne g
  apply q_become hr h5
  intro σ6 f6 h6 σ11 e11
  apply q_fill
  intro σ' f' h'
  have f11 : fr (gl g) σ σ11 := by
    rw [e11]
    exact (f6.mono (fun c h => by simp [gl] at *; rcases h with h | h <;> simp [h])).up (by simp [gl])
  have w : σ' (cSt g) 2 = 0 := by rw [f' _ (by simp [n6]), e11, up_s]
  have c' : CO σ' g r m := by
    refine h6.same (fun k => ?_) (fun k => ?_)
    · rw [f' _ (by simp [n3]), e11, up_c n2]
    · rw [f' _ (by simp [n5]), e11, up_c n4]
  refine hK σ' (f11.tr (f'.mono (fun c h => by simp [gl] at *; simp [h]))) ⟨c', ?_, ?_, ?_⟩ w h'
  · rw [w]; exact wi_0
  · intro i hi
    rw [h' i hi]
    decide
  · intro i _ hi
    exact h' i hi
theorem g_ne {g g2 : Nat} (h : g ≠ g2) : ∀ c ∈ gl g2, c ∉ gl g := by
  intro c hc
  unfold gl at *
  simp only [List.mem_cons, List.not_mem_nil, or_false] at hc ⊢
  unfold cSt cSo cCo cTe at *
  omega
theorem q_copy {σ : wx_Z} {g g2 o m : Nat} {K : wx_Z → Prop} (hg : g ≠ g2) (h : ST σ g2 o m) (hK : ∀ σ', fr (gl g) σ σ' → ST σ' g o m → σ' (cSt g) 2 = σ (cSt g2) 2 → (∀ i, i < 32 → σ' (cSo g) i = σ (cSo g2) i) → K σ') : wpX5_copy g g2 σ K := by
  obtain ⟨hc, hw, hs, hz⟩ := h
  unfold wpX5_copy
  obtain ⟨n1, n2, n3, n4, n5, n6⟩ := c_ne g
  have hn := g_ne hg
  have m1 : cSt g2 ∉ gl g := hn _ (by simp [gl])
  have m2 : cSo g2 ∉ gl g := hn _ (by simp [gl])
  rw [hc.1, hc.2.1]
  apply q_become hc.2.2.2.2.2.1 hc.2.2.2.2.2.2
  intro σ18 f18 h18 σ26 e26
  have f26 : fr (gl g) σ σ26 := by
    rw [e26]
    exact (f18.mono (fun c h => by simp [gl] at *; rcases h with h | h <;> simp [h])).up (by simp [gl])
  refine ⟨by decide, fun σ41 e41 => ?_⟩
  have f41 : fr (gl g) σ26 σ41 := by
    intro c hcm
    rw [e41]
    have : c ≠ cSo g := fun z => hcm (by simp [gl, z])
    simp [va_up, this]
  have w : σ41 (cSt g) 2 = σ (cSt g2) 2 := by
    rw [e41]
    have : (cSt g) ≠ cSo g := n6
    simp only [va_up, if_neg this]
    rw [e26, up_s, f18 _ (fun z => m1 (by simp [gl] at *; rcases z with z | z <;> simp [z]))]
  have so : ∀ i, i < 32 → σ41 (cSo g) i = σ (cSo g2) i := by
    intro i hi
    rw [e41]
    simp only [va_up, if_true]
    rw [pk_cpy_in (by show 0 ≤ i; omega) (by show i < 0 + 32; omega)]
    show σ26 (cSo g2) (0 + (i - 0)) = _
    rw [f26 _ m2]
    congr 1
    omega
  have c' : CO σ41 g o m := by
    refine h18.same (fun k => ?_) (fun k => ?_)
    · rw [e41]
      simp only [va_up, if_neg n3]
      rw [e26, up_c n2]
    · rw [e41]
      simp only [va_up, if_neg n5]
      rw [e26, up_c n4]
  refine hK σ41 (f26.tr f41) ⟨c', ?_, ?_, ?_⟩ w so
  · rw [w]; exact hw
  · intro i hi; rw [so i hi]; exact hs i hi
  · intro i h1 hi; rw [so i hi]; exact hz i h1 hi

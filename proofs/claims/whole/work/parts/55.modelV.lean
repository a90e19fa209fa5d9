/-! ===== votes: message, what is taken off, ties, the closest, by how much ===== -/
abbrev vB : Type := Int32 × Int32 × Int32 × Int32 × Int32
def ab (x : Int32) : Int32 := if 0 ≤ x then x else -x
def vst (m : Nat) (rest : Int32) (B : vB) (j t : Nat) : vB :=
  (B.1 ||| (if lead m rest t ≤ 0 then (0 : Int32) else (1 : Int32) <<< (nI j &&& 31)), B.2.1 ^^^ (if lead m rest t ≤ 0 then (0 : Int32) else wT m t), B.2.2.1 + (if lead m rest t = 0 then (1 : Int32) else 0),
    (if B.2.2.2.1 = -1 ∨ ¬ B.2.2.2.2 ≤ ab (lead m rest t) then nI t else B.2.2.2.1), (if B.2.2.2.1 = -1 ∨ ¬ B.2.2.2.2 ≤ ab (lead m rest t) then ab (lead m rest t) else B.2.2.2.2))
def lvl (m : Nat) (rest : Int32) (l : List Nat) (s : Nat) (B : vB) : Nat → vB
  | 0 => B
  | j + 1 => if pcF 5 (l.getD j 0) = s then vst m rest (lvl m rest l s B j) j (l.getD j 0) else lvl m rest l s B j
/-- all levels below s: left, then message, ties, closest, by -/
def vout (m : Nat) (l : List Nat) : Nat → Int32 → Int32 × Int32 × Int32 × Int32 → Int32 × (Int32 × Int32 × Int32 × Int32)
  | 0, left, b => (left, b)
  | s + 1, left, b =>
    let B := lvl m left l s (b.1, 0, b.2.1, b.2.2.1, b.2.2.2) l.length
    vout m l s (left ^^^ B.2.1) (B.1, B.2.2.1, B.2.2.2.1, B.2.2.2.2)
def vall (o m : Nat) (w : Int32) : Int32 × (Int32 × Int32 × Int32 × Int32) := vout m (tl o m) (o + 1) w (0, 0, -1, 0)
def sV (c k : Nat) : Bool := c == 0 && (k == 6 || k == 8 || k == 9 || k == 10)
def Bs (τ τ' : wx_Z) (b : Int32 × Int32 × Int32 × Int32) : Prop := md sV τ τ' ∧ τ' 0 6 = b.1 ∧ τ' 0 8 = b.2.1 ∧ τ' 0 9 = b.2.2.1 ∧ τ' 0 10 = b.2.2.2
theorem getD_mem {l : List Nat} {j : Nat} (h : j < l.length) : l.getD j 0 ∈ l := by
  rw [List.getD_eq_getElem?_getD, List.getElem?_eq_getElem h]
  exact List.getElem_mem _
section KV
variable {τ : wx_Z} {m : Nat} {l : List Nat} {K : wx_Z → Prop} {C35 : wx_Z → Int32 → Int32 → Int32 → Prop} {C45 : wx_Z → Int32 → Int32 → Int32 → Int32 → Int32 → Prop}
theorem k_v177 {τ' : wx_Z} {x1 x2 x3 x4 x7 : Int32} {j : Nat} {b : Int32 × Int32 × Int32 × Int32} (hl : lay τ l) (hj : j < l.length) (hlen : l.length ≤ 32) (hb : Bs τ τ' b)
    (hC : ∀ σ', Bs τ σ' (b.1, b.2.1, nI (l.getD j 0), x7) → C45 σ' x1 x2 x3 x4 (nI (j + 1))) : wpX9_votesNow_177 K C35 C45 τ' x1 x2 x3 x4 (nI j) x7 := by
  unfold wpX9_votesNow_177
  refine ⟨vi (by omega), fun σ185 e185 σ191 e191 t194 e194 => ?_⟩
  rw [e194, nI_1]
  rw [cln (by omega), hb.1 4 j rfl, hl.2 j hj] at e185
  refine hC _ ?_
  rw [e191, e185]
  refine ⟨(hb.1.up rfl).up rfl, ?_, ?_, ?_, ?_⟩
  · rw [up_k (by decide), up_k (by decide)]; exact hb.2.1
  · rw [up_k (by decide), up_k (by decide)]; exact hb.2.2.1
  · rw [up_k (by decide), up_s]
  · rw [up_s]
theorem k_v92 {τ' : wx_Z} {x1 x2 x3 x4 x6 s0 : Int32} {j : Nat} {b : Int32 × Int32 × Int32 × Int32} (hm : τ 1 1 = nI m) (h5 : m ≤ 5) (hl : lay τ l) (hj : j < l.length) (hlen : l.length ≤ 32) (hlt : ∀ t ∈ l, t < 32) (hb : Bs τ τ' b)
    (hC : ∀ σ', Bs τ σ' (b.1 ||| (if x6 ≤ 0 then (0 : Int32) else (1 : Int32) <<< (nI j &&& 31)), b.2.1 + (if x6 = 0 then (1 : Int32) else 0), (if b.2.2.1 = -1 ∨ ¬ b.2.2.2 ≤ s0 then nI (l.getD j 0) else b.2.2.1), (if b.2.2.1 = -1 ∨ ¬ b.2.2.2 ≤ s0 then s0 else b.2.2.2)) → C45 σ' x1 x2 x3 (x4 ^^^ (if x6 ≤ 0 then (0 : Int32) else wT m (l.getD j 0))) (nI (j + 1))) : wpX9_votesNow_92 K C35 C45 τ' x1 x2 x3 x4 (nI j) x6 s0 := by
  have h156 : ∀ (σ : wx_Z) (off m1 : Int32), Bs τ σ (m1, b.2.1, b.2.2.1, b.2.2.2) → ∀ s2 : Int32, (∀ σ', Bs τ σ' (m1, b.2.1 + s2, (if b.2.2.1 = -1 ∨ ¬ b.2.2.2 ≤ s0 then nI (l.getD j 0) else b.2.2.1), (if b.2.2.1 = -1 ∨ ¬ b.2.2.2 ≤ s0 then s0 else b.2.2.2)) → C45 σ' x1 x2 x3 off (nI (j + 1))) → wpX9_votesNow_156 K C35 C45 σ x1 x2 x3 off (nI j) s0 (σ 0 8) s2 := by
    intro σ off m1 hσ s2 hC2
    unfold wpX9_votesNow_156
    intro σ157 e157
    have hB : Bs τ σ157 (m1, b.2.1 + s2, b.2.2.1, b.2.2.2) := by
      rw [e157]
      refine ⟨hσ.1.up rfl, ?_, ?_, ?_, ?_⟩
      · rw [up_k (by decide)]; exact hσ.2.1
      · rw [up_s, hσ.2.2.1]
      · rw [up_k (by decide)]; exact hσ.2.2.2.1
      · rw [up_k (by decide)]; exact hσ.2.2.2.2
    have e9 := hB.2.2.2.1
    have e10 := hB.2.2.2.2
    dsimp only at e9 e10
    rw [e9, e10]
    refine ⟨fun q => ?_, fun q => ⟨fun q2 t194 e194 => ?_, fun q2 => ?_⟩⟩
    · apply k_v177 hl hj hlen hB
      rw [if_pos (Or.inl q), if_pos (Or.inl q)] at hC2
      exact hC2
    · rw [e194, nI_1]
      have hn : ¬ (b.2.2.1 = -1 ∨ ¬ b.2.2.2 ≤ s0) := fun z => z.elim q (fun y => y q2)
      rw [if_neg hn, if_neg hn] at hC2
      exact hC2 _ hB
    · apply k_v177 hl hj hlen hB
      rw [if_pos (Or.inr q2), if_pos (Or.inr q2)] at hC2
      exact hC2
  have h138 : ∀ (σ : wx_Z) (m1 s1 : Int32), Bs τ σ (m1, b.2.1, b.2.2.1, b.2.2.2) → (∀ σ', Bs τ σ' (m1, b.2.1 + (if x6 = 0 then (1 : Int32) else 0), (if b.2.2.1 = -1 ∨ ¬ b.2.2.2 ≤ s0 then nI (l.getD j 0) else b.2.2.1), (if b.2.2.1 = -1 ∨ ¬ b.2.2.2 ≤ s0 then s0 else b.2.2.2)) → C45 σ' x1 x2 x3 (x4 ^^^ s1) (nI (j + 1))) → wpX9_votesNow_138 K C35 C45 σ x1 x2 x3 (nI j) x6 s0 x4 s1 := by
    intro σ m1 s1 hσ hC2
    unfold wpX9_votesNow_138
    intro t139 e139
    rw [e139]
    refine ⟨fun q => ?_, fun q => ?_⟩
    · rw [if_neg q] at hC2
      exact h156 σ _ m1 hσ 0 hC2
    · rw [if_pos q] at hC2
      exact h156 σ _ m1 hσ 1 hC2
  have h112 : ∀ s2 : Int32, (∀ σ', Bs τ σ' (b.1 ||| s2, b.2.1 + (if x6 = 0 then (1 : Int32) else 0), (if b.2.2.1 = -1 ∨ ¬ b.2.2.2 ≤ s0 then nI (l.getD j 0) else b.2.2.1), (if b.2.2.1 = -1 ∨ ¬ b.2.2.2 ≤ s0 then s0 else b.2.2.2)) → C45 σ' x1 x2 x3 (x4 ^^^ (if x6 ≤ 0 then (0 : Int32) else wT m (l.getD j 0))) (nI (j + 1))) → wpX9_votesNow_112 K C35 C45 τ' x1 x2 x3 x4 (nI j) x6 s0 (τ' 0 6) s2 := by
    intro s2 hC2
    unfold wpX9_votesNow_112
    intro σ113 e113
    have hB : Bs τ σ113 (b.1 ||| s2, b.2.1, b.2.2.1, b.2.2.2) := by
      rw [e113]
      refine ⟨hb.1.up rfl, ?_, ?_, ?_, ?_⟩
      · rw [up_s, hb.2.1]
      · rw [up_k (by decide)]; exact hb.2.2.1
      · rw [up_k (by decide)]; exact hb.2.2.2.1
      · rw [up_k (by decide)]; exact hb.2.2.2.2
    refine ⟨fun q => ?_, fun q => ⟨vi (by omega), ?_⟩⟩
    · rw [if_pos q] at hC2
      exact h138 σ113 _ 0 hB hC2
    · rw [if_neg q] at hC2
      rw [cln (by omega), hB.1 4 j rfl, hl.2 j hj]
      apply k_wordOf ((hB.1 1 1 rfl).trans hm) h5 (hlt _ (getD_mem hj))
      exact h138 σ113 _ _ hB hC2
  unfold wpX9_votesNow_92
  refine ⟨fun q => ?_, fun q => ?_⟩
  · have h := h112 0
    rw [if_pos q] at hC
    exact h hC
  · have h := h112 (1 <<< (nI j &&& 31))
    rw [if_neg q] at hC
    exact h hC
theorem k_v45 {left : Int32} {s : Nat} (hm : τ 1 1 = nI m) (h5 : m ≤ 5) (hl : lay τ l) (hlen : l.length ≤ 32) (hlt : ∀ t ∈ l, t < 32) (hs : s ≤ 5) {b : Int32 × Int32 × Int32 × Int32}
    (hC : ∀ σ', Bs τ σ' ((lvl m left l s (b.1, 0, b.2.1, b.2.2.1, b.2.2.2) l.length).1, (lvl m left l s (b.1, 0, b.2.1, b.2.2.1, b.2.2.2) l.length).2.2) → C35 σ' (left ^^^ (lvl m left l s (b.1, 0, b.2.1, b.2.2.1, b.2.2.2) l.length).2.1) (nI l.length) (nI s + (-1))) :
    ∀ (d j : Nat) (τ' : wx_Z), j + d = l.length → Bs τ τ' ((lvl m left l s (b.1, 0, b.2.1, b.2.2.1, b.2.2.2) j).1, (lvl m left l s (b.1, 0, b.2.1, b.2.2.1, b.2.2.2) j).2.2) → wpX9_votesNow_45 K C35 (d + 1) τ' left (nI l.length) (nI s) (lvl m left l s (b.1, 0, b.2.1, b.2.2.1, b.2.2.2) j).2.1 (nI j) := by
  intro d
  induction d with
  | zero =>
    intro j τ' hj hb
    have hj : j = l.length := by omega
    subst hj
    unfold wpX9_votesNow_45
    refine ⟨fun _ t204 e204 t205 e205 => ?_, fun q => absurd (Int32.le_refl _) q⟩
    rw [e204, e205]
    exact hC τ' hb
  | succ d ih =>
    intro j τ' hj hb
    unfold wpX9_votesNow_45
    have hjl : j < l.length := by omega
    have htl := hlt _ (getD_mem hjl)
    have hb5 : pcF 5 (l.getD j 0) < 2 ^ 31 := by
      have : pcF 5 (l.getD j 0) ≤ 5 := (by decide +kernel : ∀ t, t < 32 → pcF 5 t ≤ 5) _ htl
      omega
    refine ⟨fun q => ?_, fun _ => ⟨vi (by omega), ?_⟩⟩
    · rw [nI_leI (by omega) (by omega)] at q
      omega
    · rw [cln (by omega), hb.1 4 j rfl, hl.2 j hjl]
      apply k_bits
      rw [pc_5 _ htl]
      refine ⟨fun q t194 e194 => ?_, fun q => ⟨vi (by omega), ?_⟩⟩
      · rw [e194, nI_1]
        rw [nI_eq hb5 (by omega)] at q
        have := ih (j + 1) τ' (by omega)
        rw [lvl, if_neg q] at this
        exact this hb
      · rw [nI_eq hb5 (by omega)] at q
        rw [hb.1 4 j rfl, hl.2 j hjl]
        apply k_voted ((hb.1 1 1 rfl).trans hm) h5 htl
        have ih2 := ih (j + 1)
        rw [lvl, if_pos q] at ih2
        refine ⟨fun q2 => ?_, fun q2 => ?_⟩
        · apply k_v92 hm h5 hl hjl hlen hlt hb
          have e : ab (lead m left (l.getD j 0)) = lead m left (l.getD j 0) := if_pos q2
          intro σ' hσ
          refine ih2 σ' (by omega) ?_
          unfold vst
          rw [e]
          exact hσ
        · apply k_v92 hm h5 hl hjl hlen hlt hb
          have e : ab (lead m left (l.getD j 0)) = -lead m left (l.getD j 0) := if_neg q2
          intro σ' hσ
          refine ih2 σ' (by omega) ?_
          unfold vst
          rw [e]
          exact hσ
end KV
def sVo (c k : Nat) : Bool := c == 4 || (c == 0 && (k == 5 || k == 6 || k == 7 || k == 8 || k == 9 || k == 10))
theorem k_votesNow {τ : wx_Z} {o m : Nat} (ho : τ 1 0 = nI o) (hm : τ 1 1 = nI m) (hom : o ≤ m) (h5 : m ≤ 5) {K : wx_Z → Prop}
    (hK : ∀ τ', md sVo τ τ' → τ' 0 6 = (vall o m (τ 1 2)).2.1 → τ' 0 7 = wMs m (tl o m) (vall o m (τ 1 2)).2.1 → τ' 0 8 = (vall o m (τ 1 2)).2.2.1 → τ' 0 9 = (vall o m (τ 1 2)).2.2.2.1 → τ' 0 10 = (vall o m (τ 1 2)).2.2.2.2 → K τ') : wpX9_votesNow τ K := by
  unfold wpX9_votesNow
  apply k_theWord
  apply k_many ho hm hom h5
  intro τ1 hmd hl
  intro σ12 e12 σ17 e17 σ22 e22 σ27 e27
  apply k_order
  obtain ⟨hlen, hpos, hmem⟩ := tl_fact m (by omega) o (by omega)
  have hlt : ∀ t ∈ tl o m, t < 32 := fun t ht => Nat.lt_of_lt_of_le (hmem t ht).1 (p2_le h5)
  have hB : Bs τ1 σ27 (0, 0, -1, 0) := by
    rw [e27, e22, e17, e12]
    refine ⟨(((md_up rfl).up rfl).up rfl).up rfl, ?_, ?_, ?_, ?_⟩
    · rw [up_k (by decide), up_k (by decide), up_k (by decide), up_s]
    · rw [up_k (by decide), up_k (by decide), up_s]
    · rw [up_k (by decide), up_s]
    · rw [up_s]
  have hm1 : τ1 1 1 = nI m := (hmd 1 1 rfl).trans hm
  have L : ∀ (s : Nat) (τ' : wx_Z) (left : Int32) (b : Int32 × Int32 × Int32 × Int32), s ≤ 6 → Bs τ1 τ' b → (vout m (tl o m) s left b = vall o m (τ 1 2)) → wpX9_votesNow_35 K (s + 1) τ' left (nI (tl o m).length) (nI s + (-1)) := by
    intro s
    induction s with
    | zero =>
      intro τ' left b _ hb hv
      unfold wpX9_votesNow_35
      refine ⟨fun _ => ?_, fun q => absurd (by decide) q⟩
      have hb2 : b = (vall o m (τ 1 2)).2 := by rw [← hv]; rfl
      rw [hb.2.1]
      have hl' : lay τ' (tl o m) := ⟨(hb.1 0 5 rfl).trans hl.1, fun j hj => (hb.1 4 j rfl).trans (hl.2 j hj)⟩
      apply k_sumOf ((hb.1 1 1 rfl).trans hm1) h5 hl' hlen hlt
      intro σ221 e221
      have hk : md sVo τ σ221 := by
        rw [e221]
        refine md.up ?_ rfl
        refine md.tr (hmd.mono (fun c k q => ?_)) (hb.1.mono (fun c k q => ?_))
        · unfold sVo at q
          unfold sMany
          simp only [Bool.or_eq_false_iff, Bool.and_eq_false_iff] at q ⊢
          exact ⟨q.1, q.2.imp_right (fun z => z.1.1.1.1.1)⟩
        · unfold sVo at q
          unfold sV
          simp only [Bool.or_eq_false_iff, Bool.and_eq_false_iff] at q ⊢
          exact q.2.imp_right (fun z => ⟨⟨⟨z.1.1.1.1.2, z.1.1.2⟩, z.1.2⟩, z.2⟩)
      rw [← hb2] at hK
      refine hK σ221 hk ?_ ?_ ?_ ?_ ?_
      · rw [e221, up_k (by decide)]; exact hb.2.1
      · rw [e221, up_s]
      · rw [e221, up_k (by decide)]; exact hb.2.2.1
      · rw [e221, up_k (by decide)]; exact hb.2.2.2.1
      · rw [e221, up_k (by decide)]; exact hb.2.2.2.2
    | succ s ih =>
      intro τ' left b hs hb hv
      rw [pk_m1]
      unfold wpX9_votesNow_35
      refine ⟨fun q => absurd q (nI_pos (by omega)), fun _ => ⟨(tl o m).length + 1, ?_⟩⟩
      refine k_v45 (b := b) hm1 h5 hl hlen hlt (by omega) (fun σ' hσ => ?_) (tl o m).length 0 τ' (by omega) hb
      exact ih σ' _ _ (by omega) hσ hv
  refine ⟨o + 1 + 1, ?_⟩
  have e0 : σ27 1 0 = nI (o + 1) + (-1) := by
    rw [pk_m1, hB.1 1 0 rfl, hmd 1 0 rfl, ho]
  have h := L (o + 1) σ27 (τ 1 2) (0, 0, -1, 0) (by omega) hB rfl
  rw [← e0] at h
  exact h

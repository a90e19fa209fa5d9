/-! ===== words of terms and messages; sums ===== -/
def wT (m t : Nat) : Int32 := wd (fun i => (i &&& t) == t) (2 ^ m)
def xw (f : Nat → Int32) : Nat → Int32
  | 0 => 0
  | n + 1 => xw f n ^^^ f n
def sI (f : Nat → Int32) : Nat → Int32
  | 0 => 0
  | n + 1 => sI f n + f n
theorem xw_cong {f g : Nat → Int32} : ∀ {n : Nat}, (∀ k, k < n → f k = g k) → xw f n = xw g n
  | 0, _ => rfl
  | n + 1, h => by rw [xw, xw, xw_cong (fun k hk => h k (by omega)), h n (by omega)]
theorem sI_cong {f g : Nat → Int32} : ∀ {n : Nat}, (∀ k, k < n → f k = g k) → sI f n = sI g n
  | 0, _ => rfl
  | n + 1, h => by rw [sI, sI, sI_cong (fun k hk => h k (by omega)), h n (by omega)]
theorem bt_xw (f : Nat → Int32) (i : Nat) : ∀ n, bt (xw f n) i = xs (fun k => bt (f k) i) n
  | 0 => by rw [xw, b_0]; rfl
  | n + 1 => by rw [xw, b_xor, bt_xw f i n]; rfl
/-- the word of a message over the terms l -/
def wMs (m : Nat) (l : List Nat) (msg : Int32) : Int32 := xw (fun j => if bt msg j then wT m (l.getD j 0) else 0) l.length
theorem and_lt {a b n : Nat} (h : a < n) : a &&& b < n := Nat.lt_of_le_of_lt Nat.and_le_left h
theorem k_wordOf {τ : wx_Z} {m t : Nat} (hm : τ 1 1 = nI m) (h5 : m ≤ 5) (ht : t < 32) {K : Int32 → wx_Z → Prop} (hK : K (wT m t) τ) : wpX9_wordOf τ (nI t) K := by
  have hp := p2_le h5
  have L : ∀ (d i : Nat), i + d = 2 ^ m → wpX9_wordOf_4 K (d + 1) τ (nI t) (wd (fun i => (i &&& t) == t) i) (nI i) := by
    intro d
    induction d with
    | zero =>
      intro i hi
      have hi : i = 2 ^ m := by omega
      subst hi
      unfold wpX9_wordOf_4
      apply k_places hm h5
      exact ⟨fun _ => hK, fun q => absurd (Int32.le_refl _) q⟩
    | succ d ih =>
      intro i hi
      unfold wpX9_wordOf_4
      apply k_places hm h5
      refine ⟨fun q => ?_, fun _ => ?_⟩
      · rw [nI_leI (by omega) (by omega)] at q
        omega
      · have hlt : i &&& t < 2 ^ 31 := and_lt (by omega)
        rw [fa_and, nI_eq hlt (by omega)]
        refine ⟨fun q t28 e28 t29 e29 => ?_, fun q t28 e28 t29 e29 => ?_⟩
        · rw [e28, e29, nI_1]
          have := ih (i + 1) (by omega)
          rw [wd, if_neg (by simp [q])] at this
          exact this
        · rw [e28, e29, nI_1]
          have := ih (i + 1) (by omega)
          rw [wd, if_pos (by simp [q])] at this
          exact this
  exact ⟨2 ^ m + 1, L (2 ^ m) 0 (by omega)⟩
theorem k_sumOf {τ : wx_Z} {m : Nat} {l : List Nat} {msg : Int32} (hm : τ 1 1 = nI m) (h5 : m ≤ 5) (hl : lay τ l) (hlen : l.length ≤ 32) (hlt : ∀ t ∈ l, t < 32) {K : Int32 → wx_Z → Prop} (hK : K (wMs m l msg) τ) : wpX9_sumOf τ msg (nI l.length) K := by
  have L : ∀ (d j : Nat), j + d = l.length → wpX9_sumOf_5 K (d + 1) τ msg (nI l.length) (xw (fun j => if bt msg j then wT m (l.getD j 0) else 0) j) (nI j) := by
    intro d
    induction d with
    | zero =>
      intro j hj
      have hj : j = l.length := by omega
      subst hj
      unfold wpX9_sumOf_5
      exact ⟨fun _ => hK, fun q => absurd (Int32.le_refl _) q⟩
    | succ d ih =>
      intro j hj
      unfold wpX9_sumOf_5
      refine ⟨fun q => ?_, fun _ => ?_⟩
      · rw [nI_leI (by omega) (by omega)] at q
        omega
      · apply k_has (by omega)
        refine ⟨fun q t37 e37 t38 e38 => ?_, fun q => ⟨vi (by omega), ?_⟩⟩
        · rw [b2i_0] at q
          rw [e37, e38, nI_1]
          have := ih (j + 1) (by omega)
          rw [xw, if_neg (by simp [q])] at this
          exact this
        · rw [b2i_0] at q
          rw [cln (by omega), hl.2 j (by omega)]
          have hmem : l.getD j 0 ∈ l := by
            rw [List.getD_eq_getElem?_getD, List.getElem?_eq_getElem (by omega)]
            exact List.getElem_mem _
          apply k_wordOf hm h5 (hlt _ hmem)
          intro t37 e37 t38 e38
          rw [e37, e38, nI_1]
          have := ih (j + 1) (by omega)
          rw [xw, if_pos (by simpa using q)] at this
          exact this
  exact ⟨l.length + 1, L l.length 0 (by omega)⟩
theorem k_coefficientOf {τ : wx_Z} {m t : Nat} {w : Int32} (hm : τ 1 1 = nI m) (h5 : m ≤ 5) (ht : t < 32) {K : Int32 → wx_Z → Prop} (hK : K (b2i (xs (fun i => ((i &&& t) == i) && bt w i) (2 ^ m))) τ) : wpX9_coefficientOf τ w (nI t) K := by
  have hp := p2_le h5
  have L : ∀ (d i : Nat), i + d = 2 ^ m → wpX9_coefficientOf_5 K (d + 1) τ w (nI t) (b2i (xs (fun i => ((i &&& t) == i) && bt w i) i)) (nI i) := by
    intro d
    induction d with
    | zero =>
      intro i hi
      have hi : i = 2 ^ m := by omega
      subst hi
      unfold wpX9_coefficientOf_5
      apply k_places hm h5
      exact ⟨fun _ => hK, fun q => absurd (Int32.le_refl _) q⟩
    | succ d ih =>
      intro i hi
      unfold wpX9_coefficientOf_5
      apply k_places hm h5
      refine ⟨fun q => ?_, fun _ => ?_⟩
      · rw [nI_leI (by omega) (by omega)] at q
        omega
      · have hlt : i &&& t < 2 ^ 31 := and_lt (by omega)
        rw [fa_and, nI_eq hlt (by omega)]
        refine ⟨fun q t28 e28 t29 e29 => ?_, fun q t28 e28 t29 e29 => ?_⟩
        · rw [e28, e29, nI_1, show (0 : Int32) = b2i false from rfl, b2i_xor]
          have := ih (i + 1) (by omega)
          have e : ((i &&& t) == i) = false := beq_eq_false_iff_ne.mpr q
          rw [xs, e, Bool.false_and] at this
          exact this
        · rw [e28, e29, nI_1, bit_s w (by omega), b2i_xor]
          have := ih (i + 1) (by omega)
          rw [xs] at this
          simpa [q] using this
  exact ⟨2 ^ m + 1, L (2 ^ m) 0 (by omega)⟩
/-! ===== votes for a term ===== -/
theorem nt_31 : ∀ i, i < 32 → ∀ t, t < 32 → nI i &&& (nI t ^^^ (-1)) = nI (i &&& (31 ^^^ t)) := by decide +kernel
/-- the sum over a stretch -/
def sp (m : Nat) (w : Int32) (t b : Nat) : Bool := xs (fun i => ((i &&& (31 ^^^ t)) == b) && bt w i) (2 ^ m)
def ldf (m : Nat) (w : Int32) (t b : Nat) : Int32 := if b &&& t = 0 then (if sp m w t b then 1 else -1) else 0
def lead (m : Nat) (w : Int32) (t : Nat) : Int32 := sI (ldf m w t) (2 ^ m)
theorem k_voted {τ : wx_Z} {m t : Nat} {w : Int32} (hm : τ 1 1 = nI m) (h5 : m ≤ 5) (ht : t < 32) {K : Int32 → wx_Z → Prop} (hK : K (lead m w t) τ) : wpX9_voted τ w (nI t) K := by
  have hp := p2_le h5
  have inner : ∀ (C5 : wx_Z → Int32 → Int32 → Int32 → Int32 → Prop) (b : Nat) (acc : Int32), b < 32 → C5 τ w (nI t) (acc + (if sp m w t b then 1 else -1)) (nI (b + 1)) → ∀ (d i : Nat), i + d = 2 ^ m → wpX9_voted_27 K C5 (d + 1) τ w (nI t) acc (nI b) (b2i (xs (fun i => ((i &&& (31 ^^^ t)) == b) && bt w i) i)) (nI i) := by
    intro C5 b acc hb hC d
    induction d with
    | zero =>
      intro i hi
      have hi : i = 2 ^ m := by omega
      subst hi
      unfold wpX9_voted_27
      apply k_places hm h5
      refine ⟨fun _ => ⟨fun q t81 e81 t82 e82 => ?_, fun q t81 e81 t82 e82 => ?_⟩, fun q => absurd (Int32.le_refl _) q⟩
      · rw [b2i_1] at q
        rw [if_neg (show ¬ sp m w t b = true from q)] at hC
        rw [e81, e82, nI_1]
        exact hC
      · rw [b2i_1] at q
        rw [if_pos (show sp m w t b = true from q)] at hC
        rw [e81, e82, nI_1]
        exact hC
    | succ d ih =>
      intro i hi
      unfold wpX9_voted_27
      apply k_places hm h5
      refine ⟨fun q => ?_, fun _ => ?_⟩
      · rw [nI_leI (by omega) (by omega)] at q
        omega
      · have hlt : i &&& (31 ^^^ t) < 2 ^ 31 := and_lt (by omega)
        rw [nt_31 i (by omega) t ht, nI_eq hlt (by omega)]
        refine ⟨fun q t28 e28 t29 e29 => ?_, fun q t28 e28 t29 e29 => ?_⟩
        · rw [e28, e29, nI_1, show (0 : Int32) = b2i false from rfl, b2i_xor]
          have := ih (i + 1) (by omega)
          have e : ((i &&& (31 ^^^ t)) == b) = false := beq_eq_false_iff_ne.mpr q
          rw [xs, e, Bool.false_and] at this
          exact this
        · rw [e28, e29, nI_1, bit_s w (by omega), b2i_xor]
          have := ih (i + 1) (by omega)
          rw [xs] at this
          simpa [q] using this
  have L : ∀ (d b : Nat), b + d = 2 ^ m → wpX9_voted_5 K (d + 1) τ w (nI t) (sI (ldf m w t) b) (nI b) := by
    intro d
    induction d with
    | zero =>
      intro b hb
      have hb : b = 2 ^ m := by omega
      subst hb
      unfold wpX9_voted_5
      apply k_places hm h5
      exact ⟨fun _ => hK, fun q => absurd (Int32.le_refl _) q⟩
    | succ d ih =>
      intro b hb
      unfold wpX9_voted_5
      apply k_places hm h5
      refine ⟨fun q => ?_, fun _ => ?_⟩
      · rw [nI_leI (by omega) (by omega)] at q
        omega
      · have hlt : b &&& t < 2 ^ 31 := and_lt (by omega)
        have := ih (b + 1) (by omega)
        rw [sI] at this
        rw [fa_and, show (0 : Int32) = nI 0 from rfl, nI_eq hlt (by omega)]
        refine ⟨fun q t82 e82 => ?_, fun q => ⟨2 ^ m + 1, ?_⟩⟩
        · rw [e82, nI_1]
          rw [show ldf m w t b = 0 from if_neg q, Int32.add_zero] at this
          exact this
        · rw [show ldf m w t b = _ from if_pos q] at this
          exact inner _ b _ (by omega) this (2 ^ m) 0 (by omega)
  exact ⟨2 ^ m + 1, L (2 ^ m) 0 (by omega)⟩

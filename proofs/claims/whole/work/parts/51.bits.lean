/-! ===== words by their bits, places by their numbers ===== -/
def uI (x : Int32) : Nat := x.toBitVec.toNat
theorem uI_lt (x : Int32) : uI x < 2 ^ 32 := x.toBitVec.isLt
theorem nI_uI (x : Int32) : nI (uI x) = x := Int32.toBitVec_inj.mp (by show BitVec.ofNat 32 _ = _; simp [uI])
theorem uI_nI {n : Nat} (h : n < 2 ^ 32) : uI (nI n) = n := pk_tn h
theorem bt_nI {n i : Nat} (hi : i < 32) : bt (nI n) i = n.testBit i := by
  unfold bt
  show (BitVec.ofNat 32 n).getLsbD i = _
  rw [BitVec.getLsbD_ofNat]
  simp only [hi, decide_true, Bool.true_and]
theorem bt_uI (x : Int32) (i : Nat) : bt x i = (uI x).testBit i := by
  unfold bt uI
  rw [BitVec.testBit_toNat]
theorem bt_1 : ∀ i, i < 32 → bt 1 i = decide (i = 0) := by decide +kernel
theorem bt_sh1 {k i : Nat} (hk : k < 32) (hi : i < 32) : bt (1 <<< (nI k &&& 31)) i = decide (i = k) := by
  rw [b_shl k hk 1 hi]
  by_cases h : k ≤ i
  · rw [bt_1 _ (by omega)]
    by_cases e : i = k
    · subst e; simp
    · simp [h, e, show ¬ i - k = 0 by omega]
  · simp [h, show ¬ i = k by omega]
def b2i (b : Bool) : Int32 := if b then 1 else 0
theorem bt_b2i (b : Bool) {i : Nat} (hi : i < 32) : bt (b2i b) i = (b && decide (i = 0)) := by
  cases b
  · simp [b2i, b_0]
  · simp [b2i, bt_1 i hi]
theorem bit_s (x : Int32) {k : Nat} (hk : k < 32) : (x >>> (nI k &&& 31)) &&& 1 = b2i (bt x k) := by
  apply b_ext
  intro i hi
  rw [b_and, b_sshr k hk x hi, bt_1 i hi, bt_b2i _ hi]
  by_cases h : i = 0
  · subst h; simp [hk]
  · simp [h]
theorem bit_u (x : Int32) {k : Nat} (hk : k < 32) : wx_us x (nI k) &&& 1 = b2i (bt x k) := by
  apply b_ext
  intro i hi
  unfold wx_us
  rw [b_and, b_ushr k hk x i, bt_1 i hi, bt_b2i _ hi]
  by_cases h : i = 0
  · subst h; simp
  · simp [h]
theorem b2i_1 (b : Bool) : b2i b = 1 ↔ b = true := by cases b <;> simp [b2i]
theorem b2i_0 (b : Bool) : b2i b = 0 ↔ b = false := by cases b <;> simp [b2i]
theorem b2i_xor (a b : Bool) : b2i a ^^^ b2i b = b2i (a ^^ b) := by cases a <;> cases b <;> decide +kernel
/-- sums of bits, by two left over -/
def xs (f : Nat → Bool) : Nat → Bool
  | 0 => false
  | n + 1 => xs f n ^^ f n
theorem xs_cong {f g : Nat → Bool} : ∀ {n : Nat}, (∀ k, k < n → f k = g k) → xs f n = xs g n
  | 0, _ => rfl
  | n + 1, h => by rw [xs, xs, xs_cong (fun k hk => h k (by omega)), h n (by omega)]
theorem xs_xor (f g : Nat → Bool) : ∀ n, xs (fun k => f k ^^ g k) n = (xs f n ^^ xs g n)
  | 0 => rfl
  | n + 1 => by
    rw [xs, xs, xs, xs_xor f g n]
    cases xs f n <;> cases xs g n <;> cases f n <;> cases g n <;> rfl
theorem xs_false : ∀ n, xs (fun _ => false) n = false
  | 0 => rfl
  | n + 1 => by rw [xs, xs_false n]; rfl
theorem xs_more {f : Nat → Bool} {n : Nat} : ∀ d, (∀ k, n ≤ k → f k = false) → xs f (n + d) = xs f n
  | 0, _ => rfl
  | d + 1, h => by
    show (xs f (n + d) ^^ f (n + d)) = _
    rw [xs_more d h, h (n + d) (by omega)]
    cases xs f n <;> rfl
theorem xs_ct (f : Nat → Bool) : ∀ n, xs f n = decide (fb_ct f n % 2 = 1)
  | 0 => rfl
  | n + 1 => by
    rw [xs, xs_ct f n, fb_ct_succ]
    cases f n
    · simp
    · rcases Nat.mod_two_eq_zero_or_one (fb_ct f n) with h | h
      · have : (fb_ct f n + 1) % 2 = 1 := by omega
        simp [h, this]
      · have : (fb_ct f n + 1) % 2 = 0 := by omega
        simp [h, this]
/-- how many bits are 1 -/
def pc (x : Int32) : Nat := fb_ct (bt x) 32
theorem pc_le (x : Int32) : pc x ≤ 32 := fb_ct_le _ _
/-- the word whose bits are those places k < n with p -/
def wd (p : Nat → Bool) : Nat → Int32
  | 0 => 0
  | n + 1 => wd p n ||| (if p n then 1 <<< (nI n &&& 31) else 0)
theorem bt_wd (p : Nat → Bool) : ∀ {n i : Nat}, n ≤ 32 → i < 32 → bt (wd p n) i = (decide (i < n) && p i)
  | 0, i, _, _ => by simp [wd, b_0]
  | n + 1, i, hn, hi => by
    rw [wd, b_or, bt_wd p (by omega) hi]
    cases hp : p n
    · simp only [Bool.false_eq_true, if_false, b_0, Bool.or_false]
      by_cases h : i < n
      · simp [h, show i < n + 1 by omega]
      · by_cases e : i = n
        · subst e; simp [hp]
        · simp [h, show ¬ i < n + 1 by omega]
    · simp only [if_true]
      rw [bt_sh1 (by omega) hi]
      by_cases h : i < n
      · simp [h, show i < n + 1 by omega, show ¬ i = n by omega]
      · by_cases e : i = n
        · subst e; simp [hp]
        · simp [h, e, show ¬ i < n + 1 by omega]
/-- a word has no bits from n on -/
def wi (x : Int32) (n : Nat) : Prop := ∀ i, n ≤ i → i < 32 → bt x i = false
theorem wi_xor {x y : Int32} {n : Nat} (hx : wi x n) (hy : wi y n) : wi (x ^^^ y) n := fun i h1 h2 => by rw [b_xor, hx i h1 h2, hy i h1 h2]; rfl
theorem wi_and {x y : Int32} {n : Nat} (hx : wi x n) : wi (x &&& y) n := fun i h1 h2 => by rw [b_and, hx i h1 h2]; rfl
theorem wi_wd {p : Nat → Bool} {n : Nat} (hn : n ≤ 32) : wi (wd p n) n := fun i h1 h2 => by rw [bt_wd p hn h2]; simp [show ¬ i < n by omega]
theorem wi_0 {n : Nat} : wi 0 n := fun i _ _ => b_0 i

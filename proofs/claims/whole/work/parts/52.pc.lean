/-! ===== counting ones ===== -/
def pcF : Nat → Nat → Nat
  | 0, _ => 0
  | f + 1, n => n % 2 + pcF f (n / 2)
theorem pcF_ct : ∀ (f n : Nat), pcF f n = fb_ct (fun i => n.testBit i) f
  | 0, _ => rfl
  | f + 1, n => by
    rw [pcF, pcF_ct f (n / 2), Nat.add_comm f 1, fb_ct_split]
    congr 1
    · show n % 2 = 0 + (if n.testBit 0 then 1 else 0)
      rw [Nat.testBit_zero]
      rcases Nat.mod_two_eq_zero_or_one n with h | h <;> simp [h]
    · apply fb_ct_cong
      intro k _
      show (n / 2).testBit k = n.testBit (1 + k)
      rw [Nat.add_comm 1 k, Nat.testBit_succ]
theorem pc_F (x : Int32) : pc x = pcF 32 (uI x) := by
  rw [pcF_ct]
  exact fb_ct_cong (fun k _ => bt_uI x k)
theorem pc_nI {n : Nat} (h : n < 2 ^ 32) : pc (nI n) = pcF 32 n := by rw [pc_F, uI_nI h]
theorem and2 (a b c d : Nat) (hb : b < 2) (hd : d < 2) : (2 * a + b) &&& (2 * c + d) = 2 * (a &&& c) + (b &&& d) := by
  apply Nat.eq_of_testBit_eq
  intro i
  cases i with
  | zero =>
    rw [Nat.testBit_and, Nat.testBit_zero, Nat.testBit_zero, Nat.testBit_zero]
    rcases (show b = 0 ∨ b = 1 by omega) with rfl | rfl <;> rcases (show d = 0 ∨ d = 1 by omega) with rfl | rfl
    · have h1 : (2 * a + 0) % 2 = 0 := by omega
      have h2 : (2 * c + 0) % 2 = 0 := by omega
      have h3 : (2 * (a &&& c) + (0 &&& 0)) % 2 = 0 := by simp
      simp [h1, h2, h3]
    · have h1 : (2 * a + 0) % 2 = 0 := by omega
      have h3 : (2 * (a &&& c) + (0 &&& 1)) % 2 = 0 := by simp
      simp [h1, h3]
    · have h1 : (2 * c + 0) % 2 = 0 := by omega
      have h3 : (2 * (a &&& c) + (1 &&& 0)) % 2 = 0 := by simp
      simp [h1, h3]
    · have h1 : (2 * a + 1) % 2 = 1 := by omega
      have h2 : (2 * c + 1) % 2 = 1 := by omega
      have h3 : (2 * (a &&& c) + (1 &&& 1)) % 2 = 1 := by
        show (2 * (a &&& c) + 1) % 2 = 1
        omega
      simp [h1, h2, h3]
  | succ i =>
    have e : (b &&& d) < 2 := Nat.lt_of_le_of_lt Nat.and_le_left hb
    rw [Nat.testBit_and, Nat.testBit_succ, Nat.testBit_succ, Nat.testBit_succ, show (2 * a + b) / 2 = a by omega, show (2 * c + d) / 2 = c by omega, show (2 * (a &&& c) + (b &&& d)) / 2 = (a &&& c) by omega, Nat.testBit_and]
theorem pcF_pred : ∀ (f n : Nat), 0 < n → n < 2 ^ f → pcF f (n &&& (n - 1)) + 1 = pcF f n
  | 0, n, h0, h => by simp at h; omega
  | f + 1, n, h0, h => by
    rcases Nat.mod_two_eq_zero_or_one n with e | e
    · obtain ⟨a, rfl⟩ : ∃ a, n = 2 * a := ⟨n / 2, by omega⟩
      have ha : 0 < a := by omega
      have h1 : 2 * a - 1 = 2 * (a - 1) + 1 := by omega
      have h2 := and2 a 0 (a - 1) 1 (by omega) (by omega)
      rw [← h1] at h2
      rw [show (2 * a) &&& (2 * a - 1) = 2 * (a &&& (a - 1)) from h2]
      rw [pcF, pcF]
      have ih := pcF_pred f a ha (by rw [Nat.pow_succ] at h; omega)
      rw [show 2 * (a &&& (a - 1)) % 2 = 0 by omega, show 2 * (a &&& (a - 1)) / 2 = (a &&& (a - 1)) by omega, show 2 * a % 2 = 0 by omega, show 2 * a / 2 = a by omega]
      omega
    · obtain ⟨a, rfl⟩ : ∃ a, n = 2 * a + 1 := ⟨n / 2, by omega⟩
      have h2 := and2 a 1 a 0 (by omega) (by omega)
      rw [Nat.and_self] at h2
      rw [show (2 * a + 1) &&& (2 * a + 1 - 1) = 2 * a from h2]
      rw [pcF, pcF, show 2 * a % 2 = 0 by omega, show 2 * a / 2 = a by omega, show (2 * a + 1) % 2 = 1 by omega, show (2 * a + 1) / 2 = a by omega]
      omega
theorem pc_pred {x : Int32} (h : ¬ x = 0) : pc (x &&& (x - 1)) + 1 = pc x := by
  have hn := uI_lt x
  have hx := nI_uI x
  generalize uI x = n at hn hx
  subst hx
  have h0 : 0 < n := by
    rcases Nat.eq_zero_or_pos n with e | e
    · subst e; exact absurd rfl h
    · exact e
  obtain ⟨k, rfl⟩ : ∃ k, n = k + 1 := ⟨n - 1, by omega⟩
  rw [nI_pred, fa_and, pc_nI hn, pc_nI (Nat.lt_of_le_of_lt Nat.and_le_left hn)]
  exact pcF_pred 32 (k + 1) h0 hn
theorem pc_zero {x : Int32} (h : pc x = 0) : x = 0 := by
  apply b_ext
  intro i hi
  rw [b_0]
  exact (fb_ct_zero.mp h) i hi
theorem pc_0 : pc 0 = 0 := by decide +kernel
theorem and256 (a b c d : Nat) (hb : b < 256) (hd : d < 256) : (256 * a + b) &&& (256 * c + d) = 256 * (a &&& c) + (b &&& d) := by
  apply Nat.eq_of_testBit_eq
  intro i
  have e : (b &&& d) < 256 := Nat.lt_of_le_of_lt Nat.and_le_left hb
  rw [Nat.testBit_and, show (256 : Nat) = 2 ^ 8 from rfl, Nat.testBit_two_pow_mul_add a hb, Nat.testBit_two_pow_mul_add c hd, Nat.testBit_two_pow_mul_add _ e]
  by_cases h : i < 8
  · simp [h]
  · simp [h]
def b4 (a b c d : Nat) : Nat := 256 * (256 * (256 * d + c) + b) + a
theorem and4 {a b c d a' b' c' d' : Nat} (ha : a < 256) (hb : b < 256) (hc : c < 256) (ha' : a' < 256) (hb' : b' < 256) (hc' : c' < 256) : b4 a b c d &&& b4 a' b' c' d' = b4 (a &&& a') (b &&& b') (c &&& c') (d &&& d') := by
  unfold b4
  rw [and256 _ _ _ _ ha ha', and256 _ _ _ _ hb hb', and256 _ _ _ _ hc hc']
def s1 (n : Nat) : Nat := n - ((n / 2) &&& 85)
def s2 (n : Nat) : Nat := (n &&& 51) + ((n / 4) &&& 51)
def s3 (n : Nat) : Nat := (n + n / 16) &&& 15
theorem s_fact : ∀ n, n < 256 → (n / 2) &&& 85 ≤ n ∧ s1 n ≤ 170 ∧ s2 (s1 n) ≤ 68 ∧ s2 (s1 n) % 16 ≤ 4 ∧ s3 (s2 (s1 n)) = pcF 8 n ∧ pcF 8 n ≤ 8 := by decide +kernel
theorem m_1 : ∀ n, n < 256 → n &&& 85 = (n % 128) &&& 85 := by decide +kernel
theorem m_2 : ∀ n, n < 256 → n &&& 51 = (n % 64) &&& 51 := by decide +kernel
theorem m_2' : ∀ n, n < 256 → (n / 4) &&& 51 < 256 ∧ n &&& 51 < 256 ∧ (n &&& 51) + ((n / 4) &&& 51) < 256 := by decide +kernel
theorem m_3 : ∀ n, n < 256 → n &&& 15 = (n % 16) &&& 15 := by decide +kernel
theorem pcF_8 (a n : Nat) (ha : a < 256) : ∀ f, pcF (8 + f) (256 * n + a) = pcF 8 a + pcF f n := by
  intro f
  have e : 8 + f = f + 1 + 1 + 1 + 1 + 1 + 1 + 1 + 1 := by omega
  rw [e]
  simp only [pcF]
  have q : (256 * n + a) / 2 / 2 / 2 / 2 / 2 / 2 / 2 / 2 = n := by omega
  rw [q]
  have r0 : (256 * n + a) % 2 = a % 2 := by omega
  have r1 : (256 * n + a) / 2 % 2 = a / 2 % 2 := by omega
  have r2 : (256 * n + a) / 2 / 2 % 2 = a / 2 / 2 % 2 := by omega
  have r3 : (256 * n + a) / 2 / 2 / 2 % 2 = a / 2 / 2 / 2 % 2 := by omega
  have r4 : (256 * n + a) / 2 / 2 / 2 / 2 % 2 = a / 2 / 2 / 2 / 2 % 2 := by omega
  have r5 : (256 * n + a) / 2 / 2 / 2 / 2 / 2 % 2 = a / 2 / 2 / 2 / 2 / 2 % 2 := by omega
  have r6 : (256 * n + a) / 2 / 2 / 2 / 2 / 2 / 2 % 2 = a / 2 / 2 / 2 / 2 / 2 / 2 % 2 := by omega
  have r7 : (256 * n + a) / 2 / 2 / 2 / 2 / 2 / 2 / 2 % 2 = a / 2 / 2 / 2 / 2 / 2 / 2 / 2 % 2 := by omega
  rw [r0, r1, r2, r3, r4, r5, r6, r7]
  omega
theorem pcF_b4 {a b c d : Nat} (ha : a < 256) (hb : b < 256) (hc : c < 256) : pcF 32 (b4 a b c d) = pcF 8 a + (pcF 8 b + (pcF 8 c + pcF 8 d)) := by
  unfold b4
  rw [show (32 : Nat) = 8 + (8 + (8 + 8)) from rfl, pcF_8 _ _ ha, pcF_8 _ _ hb, pcF_8 _ _ hc]
/-- the JDK's way, over natural numbers -/
theorem swar {n : Nat} (hn : n < 2 ^ 32) : let x1 := n - ((n / 2) &&& 1431655765); let x2 := (x1 &&& 858993459) + ((x1 / 4) &&& 858993459); let x3 := (x2 + x2 / 16) &&& 252645135; let x4 := x3 + x3 / 256; let x5 := x4 + x4 / 65536; (n / 2) &&& 1431655765 ≤ n ∧ x1 < 2 ^ 32 ∧ x2 < 2 ^ 32 ∧ x2 + x2 / 16 < 2 ^ 32 ∧ x3 < 2 ^ 32 ∧ x4 < 2 ^ 32 ∧ x5 < 2 ^ 32 ∧ x5 % 64 = pcF 32 n := by
  obtain ⟨a, b, c, d, ha, hb, hc, hd, rfl⟩ : ∃ a b c d, a < 256 ∧ b < 256 ∧ c < 256 ∧ d < 256 ∧ n = b4 a b c d := ⟨n % 256, n / 256 % 256, n / 65536 % 256, n / 16777216, by omega, by omega, by omega, by omega, by unfold b4; omega⟩
  obtain ⟨fa1, fa2, fa3, fa4, fa5, fa6⟩ := s_fact a ha
  obtain ⟨fb1, fb2, fb3, fb4, fb5, fb6⟩ := s_fact b hb
  obtain ⟨fc1, fc2, fc3, fc4, fc5, fc6⟩ := s_fact c hc
  obtain ⟨fd1, fd2, fd3, fd4, fd5, fd6⟩ := s_fact d hd
  intro x1 x2 x3 x4 x5
  have e0 : b4 a b c d / 2 = b4 (a / 2 + 128 * (b % 2)) (b / 2 + 128 * (c % 2)) (c / 2 + 128 * (d % 2)) (d / 2) := by unfold b4; omega
  have e1 : (b4 a b c d / 2) &&& 1431655765 = b4 ((a / 2) &&& 85) ((b / 2) &&& 85) ((c / 2) &&& 85) ((d / 2) &&& 85) := by
    rw [e0, show (1431655765 : Nat) = b4 85 85 85 85 from rfl, and4 (by omega) (by omega) (by omega) (by omega) (by omega) (by omega), m_1 (a / 2 + 128 * (b % 2)) (by omega), m_1 (b / 2 + 128 * (c % 2)) (by omega), m_1 (c / 2 + 128 * (d % 2)) (by omega)]
    rw [show (a / 2 + 128 * (b % 2)) % 128 = a / 2 by omega, show (b / 2 + 128 * (c % 2)) % 128 = b / 2 by omega, show (c / 2 + 128 * (d % 2)) % 128 = c / 2 by omega]
  have E1 : x1 = b4 (s1 a) (s1 b) (s1 c) (s1 d) := by
    show b4 a b c d - _ = _
    rw [e1]
    unfold b4 s1
    omega
  have hle : (b4 a b c d / 2) &&& 1431655765 ≤ b4 a b c d := by
    rw [e1]
    unfold b4
    omega
  have e2 : x1 &&& 858993459 = b4 (s1 a &&& 51) (s1 b &&& 51) (s1 c &&& 51) (s1 d &&& 51) := by
    rw [E1, show (858993459 : Nat) = b4 51 51 51 51 from rfl, and4 (by omega) (by omega) (by omega) (by omega) (by omega) (by omega)]
  have e3 : (x1 / 4) &&& 858993459 = b4 ((s1 a / 4) &&& 51) ((s1 b / 4) &&& 51) ((s1 c / 4) &&& 51) ((s1 d / 4) &&& 51) := by
    have q : x1 / 4 = b4 (s1 a / 4 + 64 * (s1 b % 4)) (s1 b / 4 + 64 * (s1 c % 4)) (s1 c / 4 + 64 * (s1 d % 4)) (s1 d / 4) := by rw [E1]; unfold b4; omega
    rw [q, show (858993459 : Nat) = b4 51 51 51 51 from rfl, and4 (by omega) (by omega) (by omega) (by omega) (by omega) (by omega), m_2 (s1 a / 4 + 64 * (s1 b % 4)) (by omega), m_2 (s1 b / 4 + 64 * (s1 c % 4)) (by omega), m_2 (s1 c / 4 + 64 * (s1 d % 4)) (by omega)]
    rw [show (s1 a / 4 + 64 * (s1 b % 4)) % 64 = s1 a / 4 by omega, show (s1 b / 4 + 64 * (s1 c % 4)) % 64 = s1 b / 4 by omega, show (s1 c / 4 + 64 * (s1 d % 4)) % 64 = s1 c / 4 by omega]
  have E2 : x2 = b4 (s2 (s1 a)) (s2 (s1 b)) (s2 (s1 c)) (s2 (s1 d)) := by
    show (x1 &&& 858993459) + ((x1 / 4) &&& 858993459) = _
    rw [e2, e3]
    unfold b4 s2
    omega
  generalize s2 (s1 a) = p at *
  generalize s2 (s1 b) = q at *
  generalize s2 (s1 c) = r at *
  generalize s2 (s1 d) = t at *
  have e4 : x2 + x2 / 16 = b4 (p + p / 16 + 16 * (q % 16)) (q + q / 16 + 16 * (r % 16)) (r + r / 16 + 16 * (t % 16)) (t + t / 16) := by rw [E2]; unfold b4; omega
  have E3 : x3 = b4 (s3 p) (s3 q) (s3 r) (s3 t) := by
    show (x2 + x2 / 16) &&& 252645135 = _
    rw [e4, show (252645135 : Nat) = b4 15 15 15 15 from rfl, and4 (by omega) (by omega) (by omega) (by omega) (by omega) (by omega)]
    unfold s3
    rw [m_3 (p + p / 16 + 16 * (q % 16)) (by omega), m_3 (q + q / 16 + 16 * (r % 16)) (by omega), m_3 (r + r / 16 + 16 * (t % 16)) (by omega), m_3 (p + p / 16) (by omega), m_3 (q + q / 16) (by omega), m_3 (r + r / 16) (by omega)]
    rw [show (p + p / 16 + 16 * (q % 16)) % 16 = (p + p / 16) % 16 by omega, show (q + q / 16 + 16 * (r % 16)) % 16 = (q + q / 16) % 16 by omega, show (r + r / 16 + 16 * (t % 16)) % 16 = (r + r / 16) % 16 by omega]
  rw [fa5, fb5, fc5, fd5] at E3
  rw [pcF_b4 ha hb hc]
  generalize pcF 8 a = A at *
  generalize pcF 8 b = B at *
  generalize pcF 8 c = C at *
  generalize pcF 8 d = F at *
  have h4 : x4 = x3 + x3 / 256 := rfl
  have h5 : x5 = x4 + x4 / 65536 := rfl
  have hx1 : x1 < 2 ^ 32 := by rw [E1]; unfold b4; omega
  refine ⟨hle, hx1, ?_, ?_, ?_, ?_, ?_, ?_⟩
  · rw [E2]; unfold b4; omega
  · rw [e4]; unfold b4; omega
  · rw [E3]; unfold b4; omega
  · rw [h4, E3]; unfold b4; omega
  · rw [h5, h4, E3]; unfold b4; omega
  · have g1 : x3 = 16777216 * F + 65536 * C + 256 * B + A := by rw [E3]; unfold b4; omega
    have g2 : x3 / 256 = 65536 * F + 256 * C + B := by omega
    have g3 : x4 = 16777216 * F + 65536 * (C + F) + 256 * (B + C) + (A + B) := by omega
    have g4 : x4 / 65536 = 256 * F + (C + F) := by omega
    have g5 : x5 = 64 * (262144 * F + 1024 * (C + F) + 4 * (B + C) + 4 * F) + (A + (B + (C + F))) := by omega
    omega
theorem us_nI {n k : Nat} (hn : n < 2 ^ 32) (hk : k < 32) : wx_us (nI n) (nI k) = nI (n / 2 ^ k) := pk_ushrN hn (nI k) k (s_u k hk)

theorem k_bitCount {σ : wx_Z} {x : Int32} {K : Int32 → wx_Z → Prop} (h : K (nI (pc x)) σ) : wpJ6_bitCount_0f7a4 σ x K := by
  unfold wpJ6_bitCount_0f7a4
  have hn := uI_lt x
  have hx := nI_uI x
  rw [pc_F] at h
  generalize uI x = n at hn hx h
  subst hx
  obtain ⟨h1, h2, h3, h4, h5, h6, h7, h8⟩ := swar hn
  intro t9 e9 t23 e23 t33 e33 t40 e40 t47 e47
  have q9 : t9 = nI (n - ((n / 2) &&& 1431655765)) := by
    rw [e9, show (1 : Int32) = nI 1 from rfl, us_nI hn (by decide), show (1431655765 : Int32) = nI 1431655765 from rfl, fa_and, pk_sub h1]
  generalize n - ((n / 2) &&& 1431655765) = x1 at *
  have q23 : t23 = nI ((x1 &&& 858993459) + ((x1 / 4) &&& 858993459)) := by
    rw [e23, q9, show (2 : Int32) = nI 2 from rfl, us_nI h2 (by decide), show (858993459 : Int32) = nI 858993459 from rfl, fa_and, fa_and, nI_add]
  generalize (x1 &&& 858993459) + ((x1 / 4) &&& 858993459) = x2 at *
  have q33 : t33 = nI ((x2 + x2 / 16) &&& 252645135) := by
    rw [e33, q23, show (4 : Int32) = nI 4 from rfl, us_nI h3 (by decide), nI_add, show (252645135 : Int32) = nI 252645135 from rfl, fa_and]
  generalize (x2 + x2 / 16) &&& 252645135 = x3 at *
  have q40 : t40 = nI (x3 + x3 / 256) := by
    rw [e40, q33, show (8 : Int32) = nI 8 from rfl, us_nI h5 (by decide), nI_add]
  generalize x3 + x3 / 256 = x4 at *
  have q47 : t47 = nI (x4 + x4 / 65536) := by
    rw [e47, q40, show (16 : Int32) = nI 16 from rfl, us_nI h6 (by decide), nI_add]
  rw [q47, show (63 : Int32) = nI (2 ^ 6 - 1) from rfl, fa_mask, show (2 : Nat) ^ 6 = 64 from rfl, h8]
  exact h
theorem k_bits {τ : wx_Z} {x : Int32} {K : Int32 → wx_Z → Prop} (h : K (nI (pc x)) τ) : wpX9_bits τ x K := by
  have L : ∀ (d c : Nat) (x : Int32), pc x = d → K (nI (c + d)) τ → wpX9_bits_4 K (d + 1) τ (nI c) x := by
    intro d
    induction d with
    | zero =>
      intro c x hp h
      unfold wpX9_bits_4
      exact ⟨fun _ => h, fun q => absurd (pc_zero hp) q⟩
    | succ d ih =>
      intro c x hp h
      unfold wpX9_bits_4
      refine ⟨fun q => ?_, fun q => ?_⟩
      · rw [q, pc_0] at hp
        omega
      · intro t8 e8 t16 e16
        rw [e8, e16, nI_1]
        have := pc_pred q
        exact ih (c + 1) _ (by omega) (by rw [show c + 1 + d = c + (d + 1) by omega]; exact h)
  exact ⟨pc x + 1, L (pc x) 0 x rfl (by rw [Nat.zero_add]; exact h)⟩

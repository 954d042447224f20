/-! how many bits are set -/
theorem and256 {a b c e : Nat} (hb : b < 256) (he : e < 256) : (256 * a + b) &&& (256 * c + e) = 256 * (a &&& c) + (b &&& e) := by
  have h8 : (256 : Nat) = 2 ^ 8 := by decide
  have hbe : b &&& e < 2 ^ 8 := Nat.and_lt_two_pow _ (by omega)
  apply Nat.eq_of_testBit_eq
  intro j
  rw [h8] at hb he ⊢
  rw [Nat.testBit_and, Nat.testBit_two_pow_mul_add a hb j, Nat.testBit_two_pow_mul_add c he j, Nat.testBit_two_pow_mul_add (a &&& c) hbe j]
  by_cases q : j < 8
  · rw [if_pos q, if_pos q, if_pos q, Nat.testBit_and]
  · rw [if_neg q, if_neg q, if_neg q, Nat.testBit_and]
def rb_ (b : Nat) : Nat → Nat
  | 0 => 0
  | k + 1 => 256 * rb_ b k + b
def p1_ (k n : Nat) : Nat := n - (n / 2 &&& rb_ 85 k)
def p2_ (k n : Nat) : Nat := (n &&& rb_ 51 k) + (n / 4 &&& rb_ 51 k)
def p3_ (k n : Nat) : Nat := (n + n / 16) &&& rb_ 15 k
def q1_ (d : Nat) : Nat := d - (d / 2 &&& 85)
def q2_ (d : Nat) : Nat := (d &&& 51) + (d / 4 &&& 51)
def q3_ (d : Nat) : Nat := (d + d / 16) &&& 15
def bc_ (n : Nat) : Nat → Nat
  | 0 => 0
  | j + 1 => bc_ n j + n / 2 ^ j % 2
theorem z85 : ∀ z, z < 256 → z &&& 85 = z % 128 &&& 85 := by decide +kernel
theorem z51 : ∀ z, z < 256 → z &&& 51 = z % 64 &&& 51 := by decide +kernel
theorem q12 : ∀ d, d < 256 → q1_ d < 256 ∧ q2_ (q1_ d) ≤ 68 ∧ q2_ (q1_ d) % 16 ≤ 4 ∧ q3_ (q2_ (q1_ d)) = bc_ d 8 ∧ bc_ d 8 ≤ 8 := by decide +kernel
theorem p1_s {k m d : Nat} (hd : d < 256) : p1_ (k + 1) (256 * m + d) = 256 * p1_ k m + q1_ d := by
  unfold p1_ q1_
  show 256 * m + d - ((256 * m + d) / 2 &&& (256 * rb_ 85 k + 85)) = _
  have e : (256 * m + d) / 2 = 256 * (m / 2) + (128 * (m % 2) + d / 2) := by omega
  have e2 : (128 * (m % 2) + d / 2) % 128 = d / 2 := by omega
  rw [e, and256 (by omega) (by omega), z85 _ (by omega), e2]
  have h1 : m / 2 &&& rb_ 85 k ≤ m / 2 := Nat.and_le_left
  have h2 : d / 2 &&& 85 ≤ d / 2 := Nat.and_le_left
  omega
theorem p2_s {k m d : Nat} (hd : d < 256) : p2_ (k + 1) (256 * m + d) = 256 * p2_ k m + q2_ d := by
  unfold p2_ q2_
  show ((256 * m + d) &&& (256 * rb_ 51 k + 51)) + ((256 * m + d) / 4 &&& (256 * rb_ 51 k + 51)) = _
  have e : (256 * m + d) / 4 = 256 * (m / 4) + (64 * (m % 4) + d / 4) := by omega
  have e2 : (64 * (m % 4) + d / 4) % 64 = d / 4 := by omega
  rw [e, and256 hd (by omega), and256 (by omega) (by omega), z51 (64 * (m % 4) + d / 4) (by omega), e2]
  omega
theorem p3_s {k m d : Nat} (hd : d ≤ 68) (hm : m % 16 ≤ 4) : p3_ (k + 1) (256 * m + d) = 256 * p3_ k m + q3_ d := by
  unfold p3_ q3_
  show ((256 * m + d) + (256 * m + d) / 16) &&& (256 * rb_ 15 k + 15) = _
  have e : (256 * m + d) + (256 * m + d) / 16 = 256 * (m + m / 16) + (16 * (m % 16) + d + d / 16) := by omega
  rw [e, and256 (by omega) (by omega), show (15 : Nat) = 2 ^ 4 - 1 from rfl, Nat.and_two_pow_sub_one_eq_mod, Nat.and_two_pow_sub_one_eq_mod]
  have e2 : (16 * (m % 16) + d + d / 16) % 2 ^ 4 = (d + d / 16) % 2 ^ 4 := by omega
  rw [e2]
def pb_ : Nat → Nat → Nat
  | 0, _ => 0
  | k + 1, n => 256 * pb_ k (n / 256) + bc_ (n % 256) 8
theorem pb_eq : ∀ k n, n < 256 ^ k → p3_ k (p2_ k (p1_ k n)) = pb_ k n ∧ p2_ k (p1_ k n) % 16 ≤ 4 := by
  intro k
  induction k with
  | zero =>
    intro n h
    have : n = 0 := by rw [Nat.pow_zero] at h; omega
    subst this
    decide
  | succ k ih =>
    intro n h
    have hd : n % 256 < 256 := Nat.mod_lt _ (by omega)
    have hn : n / 256 < 256 ^ k := by
      rw [Nat.pow_succ] at h
      exact Nat.div_lt_of_lt_mul (by rw [Nat.mul_comm]; exact h)
    obtain ⟨i1, i2⟩ := ih (n / 256) hn
    obtain ⟨a1, a2, a3, a4, a5⟩ := q12 (n % 256) hd
    have e : n = 256 * (n / 256) + n % 256 := (Nat.div_add_mod n 256).symm
    have e2 : p2_ (k + 1) (p1_ (k + 1) n) = 256 * p2_ k (p1_ k (n / 256)) + q2_ (q1_ (n % 256)) := by
      conv => lhs; rw [e]
      rw [p1_s hd, p2_s a1]
    rw [e2]
    refine ⟨?_, by omega⟩
    rw [p3_s a2 i2, i1, a4]
    rfl
theorem bc_8 (n : Nat) : bc_ n 8 = bc_ (n % 256) 8 := by
  show 0 + n / 2 ^ 0 % 2 + n / 2 ^ 1 % 2 + n / 2 ^ 2 % 2 + n / 2 ^ 3 % 2 + n / 2 ^ 4 % 2 + n / 2 ^ 5 % 2 + n / 2 ^ 6 % 2 + n / 2 ^ 7 % 2 = 0 + n % 256 / 2 ^ 0 % 2 + n % 256 / 2 ^ 1 % 2 + n % 256 / 2 ^ 2 % 2 + n % 256 / 2 ^ 3 % 2 + n % 256 / 2 ^ 4 % 2 + n % 256 / 2 ^ 5 % 2 + n % 256 / 2 ^ 6 % 2 + n % 256 / 2 ^ 7 % 2
  omega
theorem bc_add (n : Nat) : ∀ j, bc_ n (8 + j) = bc_ (n % 256) 8 + bc_ (n / 256) j := by
  intro j
  induction j with
  | zero => exact bc_8 n
  | succ j ih =>
    show bc_ n (8 + j) + n / 2 ^ (8 + j) % 2 = bc_ (n % 256) 8 + (bc_ (n / 256) j + n / 256 / 2 ^ j % 2)
    rw [ih, Nat.div_div_eq_div_mul, show (256 : Nat) * 2 ^ j = 2 ^ (8 + j) from by rw [Nat.pow_add]]
    omega
theorem bc_le (n : Nat) : ∀ j, bc_ n j ≤ j := by
  intro j
  induction j with
  | zero => exact Nat.le_refl 0
  | succ j ih =>
    show bc_ n j + n / 2 ^ j % 2 ≤ j + 1
    omega
theorem dv1 {x a c : Nat} (h : x = 256 * a + c) (hc : c < 256) : x / 256 = a := by omega
theorem dv2 {x a c : Nat} (h : x = 65536 * a + c) (hc : c < 65536) : x / 65536 = a := by omega
theorem dv4 {x a c : Nat} (h : x = 4294967296 * a + c) (hc : c < 4294967296) : x / 4294967296 = a := by omega
theorem sm1 {a0 a1 a2 a3 c0 c1 c2 : Nat} (h0 : a0 = 256 * a1 + c0) (h1 : a1 = 256 * a2 + c1) (h2 : a2 = 256 * a3 + c2) : a0 + a1 = 65536 * (a2 + a3) + (256 * (c1 + c2) + (c0 + c1)) := by omega
theorem sm2 {a0 a1 a2 a3 a4 c0 c1 c2 c3 : Nat} (h0 : a0 = 256 * a1 + c0) (h1 : a1 = 256 * a2 + c1) (h2 : a2 = 256 * a3 + c2) (h3 : a3 = 256 * a4 + c3) : a0 = 4294967296 * a4 + (16777216 * c3 + 65536 * c2 + 256 * c1 + c0) := by omega
theorem sm3 {x s c : Nat} (h : x = 256 * s + c) (hc : c ≤ 64) : x % 4294967296 % 128 = c := by omega
theorem smb {a b c : Nat} (h : a = 256 * b + c) (hc : c ≤ 8) (B : Nat) (hb : b ≤ B) : a ≤ 256 * B + 8 := by omega
theorem cA {c0 c1 c2 : Nat} (h0 : c0 ≤ 8) (h1 : c1 ≤ 8) (h2 : c2 ≤ 8) : c0 < 256 ∧ 256 * (c1 + c2) + (c0 + c1) < 65536 := by omega
theorem cB {c0 c1 c2 c3 c4 c5 c6 : Nat} (h0 : c0 ≤ 8) (h1 : c1 ≤ 8) (h2 : c2 ≤ 8) (h3 : c3 ≤ 8) (h4 : c4 ≤ 8) (h5 : c5 ≤ 8) (h6 : c6 ≤ 8) : (16777216 * c3 + 65536 * c2 + 256 * c1 + c0) + (16777216 * c4 + 65536 * c3 + 256 * c2 + c1) + (16777216 * c5 + 65536 * c4 + 256 * c3 + c2) + (16777216 * c6 + 65536 * c5 + 256 * c4 + c3) < 4294967296 := by omega
theorem cC {c0 c1 c2 c3 c4 c5 c6 c7 : Nat} (h0 : c0 ≤ 8) (h1 : c1 ≤ 8) (h2 : c2 ≤ 8) (h3 : c3 ≤ 8) (h4 : c4 ≤ 8) (h5 : c5 ≤ 8) (h6 : c6 ≤ 8) (h7 : c7 ≤ 8) : c0 + (c1 + (c2 + (c3 + (c4 + (c5 + (c6 + c7)))))) ≤ 64 := by omega
theorem tA {a0 a1 a2 a3 a4 a5 a6 a7 d0 d1 d2 d3 : Nat} (t0 : a0 = 4294967296 * a4 + d0) (t1 : a1 = 4294967296 * a5 + d1) (t2 : a2 = 4294967296 * a6 + d2) (t3 : a3 = 4294967296 * a7 + d3) : a0 + a1 + (a2 + a3) = 4294967296 * (a4 + a5 + (a6 + a7)) + (d0 + d1 + d2 + d3) := by omega
theorem tB {a0 a1 a2 a3 a4 a5 a6 a7 c0 c1 c2 c3 c4 c5 c6 c7 : Nat} (e0 : a0 = 256 * a1 + c0) (e1 : a1 = 256 * a2 + c1) (e2 : a2 = 256 * a3 + c2) (e3 : a3 = 256 * a4 + c3) (e4 : a4 = 256 * a5 + c4) (e5 : a5 = 256 * a6 + c5) (e6 : a6 = 256 * a7 + c6) (e7 : a7 = 256 * 0 + c7) : a0 + a1 + (a2 + a3) + (a4 + a5 + (a6 + a7)) = 256 * (a1 + a2 + a3 + a4 + a5 + a6 + a7) + (c0 + (c1 + (c2 + (c3 + (c4 + (c5 + (c6 + c7))))))) := by
  have h : ∀ {x0 x1 x2 x3 x4 x5 x6 x7 y1 y2 y3 y4 y5 y6 y7 : Nat}, x0 = 256 * y1 + c0 → x1 = 256 * y2 + c1 → x2 = 256 * y3 + c2 → x3 = 256 * y4 + c3 → x4 = 256 * y5 + c4 → x5 = 256 * y6 + c5 → x6 = 256 * y7 + c6 → x7 = c7 → x0 + x1 + (x2 + x3) + (x4 + x5 + (x6 + x7)) = 256 * (y1 + y2 + y3 + y4 + y5 + y6 + y7) + (c0 + (c1 + (c2 + (c3 + (c4 + (c5 + (c6 + c7))))))) := by
    clear e0 e1 e2 e3 e4 e5 e6 e7
    intros
    omega
  exact h e0 e1 e2 e3 e4 e5 e6 (by rw [e7, Nat.mul_zero, Nat.zero_add])
theorem bb2 {a b : Nat} (h : a ≤ 600000000000000000) (g : b ≤ 600000000000000000) : a + b < 18446744073709551616 := by omega
theorem bb4 {a b c d : Nat} (h : a ≤ 600000000000000000) (g : b ≤ 600000000000000000) (i : c ≤ 600000000000000000) (j : d ≤ 600000000000000000) : a + b + (c + d) < 18446744073709551616 := by omega
theorem sum8 {c0 c1 c2 c3 c4 c5 c6 c7 a0 a1 a2 a3 a4 a5 a6 a7 : Nat} (h0 : c0 ≤ 8) (h1 : c1 ≤ 8) (h2 : c2 ≤ 8) (h3 : c3 ≤ 8) (h4 : c4 ≤ 8) (h5 : c5 ≤ 8) (h6 : c6 ≤ 8) (h7 : c7 ≤ 8) (e0 : a0 = 256 * a1 + c0) (e1 : a1 = 256 * a2 + c1) (e2 : a2 = 256 * a3 + c2) (e3 : a3 = 256 * a4 + c3) (e4 : a4 = 256 * a5 + c4) (e5 : a5 = 256 * a6 + c5) (e6 : a6 = 256 * a7 + c6) (e7 : a7 = 256 * 0 + c7) : a0 / 256 = a1 ∧ (a0 + a1) / 65536 = a2 + a3 ∧ (a0 + a1 + (a2 + a3)) / 4294967296 = a4 + a5 + (a6 + a7) ∧ (a0 + a1 + (a2 + a3) + (a4 + a5 + (a6 + a7))) % 4294967296 % 128 = c0 + (c1 + (c2 + (c3 + (c4 + (c5 + (c6 + c7)))))) ∧ a0 ≤ 600000000000000000 ∧ a1 ≤ 600000000000000000 ∧ a2 ≤ 600000000000000000 ∧ a3 ≤ 600000000000000000 := by
  have b7 : a7 ≤ 8 := by rw [e7, Nat.mul_zero, Nat.zero_add]; exact h7
  have b6 := smb e6 h6 _ b7
  have b5 := smb e5 h5 _ b6
  have b4 := smb e4 h4 _ b5
  have b3 := smb e3 h3 _ b4
  have b2 := smb e2 h2 _ b3
  have b1 := smb e1 h1 _ b2
  have b0 := smb e0 h0 _ b1
  have t0 := sm2 e0 e1 e2 e3
  have t1 := sm2 e1 e2 e3 e4
  have t2 := sm2 e2 e3 e4 e5
  have t3 := sm2 e3 e4 e5 e6
  exact ⟨dv1 e0 (cA h0 h1 h2).1, dv2 (sm1 e0 e1 e2) (cA h0 h1 h2).2, dv4 (tA t0 t1 t2 t3) (cB h0 h1 h2 h3 h4 h5 h6), sm3 (tB e0 e1 e2 e3 e4 e5 e6 e7) (cC h0 h1 h2 h3 h4 h5 h6 h7), Nat.le_trans b0 (by decide), Nat.le_trans b1 (by decide), Nat.le_trans b2 (by decide), Nat.le_trans b3 (by decide)⟩
theorem s_bitCount {x : Int64} {Q : Int32 → Prop} (h : Q (nI (bc_ x.toBitVec.toNat 64))) : wp_J13_bitCount_95d88 x Q := by
  obtain ⟨n, hn, rfl⟩ := wb_of x
  rw [wb_tn hn] at h
  have hn' : n < 18446744073709551616 := hn
  unfold wp_J13_bitCount_95d88
  intro x1 e1 x2 e2 x3 e3 x4 e4 x5 e5 x6 e6
  have m85 : (6148914691236517205 : Int64) = lN (rb_ 85 8) := by decide
  have m51 : (3689348814741910323 : Int64) = lN (rb_ 51 8) := by decide
  have m15 : (1085102592571150095 : Int64) = lN (rb_ 15 8) := by decide
  have b85 : rb_ 85 8 = 6148914691236517205 := by decide
  have b51 : rb_ 51 8 = 3689348814741910323 := by decide
  have b15 : rb_ 15 8 = 1085102592571150095 := by decide
  have sh : ∀ {a k : Nat}, a < 18446744073709551616 → k < 64 → ((lN a).toUInt64 >>> ((nI k).toInt64.toUInt64 &&& Int64.toUInt64 63)).toInt64 = lN (a / 2 ^ k) := fun ha hk => wb_shr ha hk
  have s1 : x1 = lN (p1_ 8 n) := by
    rw [e1, show (1 : Int32) = nI 1 from rfl, sh hn' (by omega), m85, wb_and (by show n / 2 ^ 1 < 18446744073709551616; omega) (by rw [b85]; decide)]
    have : n / 2 ^ 1 &&& rb_ 85 8 ≤ n / 2 ^ 1 := Nat.and_le_left
    rw [lN_sub (by omega)]
    rfl
  have l1 : p1_ 8 n < 18446744073709551616 := by
    have : p1_ 8 n ≤ n := Nat.sub_le _ _
    omega
  have s2 : x2 = lN (p2_ 8 (p1_ 8 n)) := by
    rw [e2, s1, show (2 : Int32) = nI 2 from rfl, sh l1 (by omega), m51, wb_and l1 (by rw [b51]; decide), wb_and (by show p1_ 8 n / 2 ^ 2 < 18446744073709551616; omega) (by rw [b51]; decide), lN_add]
    rfl
  have l2 : p2_ 8 (p1_ 8 n) < 8000000000000000000 := by
    have a : p1_ 8 n &&& rb_ 51 8 ≤ rb_ 51 8 := Nat.and_le_right
    have b : p1_ 8 n / 4 &&& rb_ 51 8 ≤ rb_ 51 8 := Nat.and_le_right
    rw [b51] at a b
    show (p1_ 8 n &&& rb_ 51 8) + (p1_ 8 n / 4 &&& rb_ 51 8) < _
    rw [b51]
    omega
  have s3 : x3 = lN (pb_ 8 n) := by
    rw [← (pb_eq 8 n (by show n < 18446744073709551616; exact hn')).1, e3, s2, show (4 : Int32) = nI 4 from rfl, sh (by omega) (by omega), m15, lN_add, wb_and (by show p2_ 8 (p1_ 8 n) + p2_ 8 (p1_ 8 n) / 2 ^ 4 < 18446744073709551616; omega) (by rw [b15]; decide)]
    rfl
  have q0 := bc_le (n % 256) 8
  have q1 := bc_le (n / 256 % 256) 8
  have q2 := bc_le (n / 256 / 256 % 256) 8
  have q3 := bc_le (n / 256 / 256 / 256 % 256) 8
  have q4 := bc_le (n / 256 / 256 / 256 / 256 % 256) 8
  have q5 := bc_le (n / 256 / 256 / 256 / 256 / 256 % 256) 8
  have q6 := bc_le (n / 256 / 256 / 256 / 256 / 256 / 256 % 256) 8
  have q7 := bc_le (n / 256 / 256 / 256 / 256 / 256 / 256 / 256 % 256) 8
  have ep : pb_ 8 n = 256 * (256 * (256 * (256 * (256 * (256 * (256 * (256 * 0 + bc_ (n / 256 / 256 / 256 / 256 / 256 / 256 / 256 % 256) 8) + bc_ (n / 256 / 256 / 256 / 256 / 256 / 256 % 256) 8) + bc_ (n / 256 / 256 / 256 / 256 / 256 % 256) 8) + bc_ (n / 256 / 256 / 256 / 256 % 256) 8) + bc_ (n / 256 / 256 / 256 % 256) 8) + bc_ (n / 256 / 256 % 256) 8) + bc_ (n / 256 % 256) 8) + bc_ (n % 256) 8 := rfl
  have eb : bc_ n 64 = bc_ (n % 256) 8 + (bc_ (n / 256 % 256) 8 + (bc_ (n / 256 / 256 % 256) 8 + (bc_ (n / 256 / 256 / 256 % 256) 8 + (bc_ (n / 256 / 256 / 256 / 256 % 256) 8 + (bc_ (n / 256 / 256 / 256 / 256 / 256 % 256) 8 + (bc_ (n / 256 / 256 / 256 / 256 / 256 / 256 % 256) 8 + (bc_ (n / 256 / 256 / 256 / 256 / 256 / 256 / 256 % 256) 8))))))) := by
    rw [show 64 = 8 + 56 from rfl, bc_add, show 56 = 8 + 48 from rfl, bc_add, show 48 = 8 + 40 from rfl, bc_add, show 40 = 8 + 32 from rfl, bc_add, show 32 = 8 + 24 from rfl, bc_add, show 24 = 8 + 16 from rfl, bc_add, show 16 = 8 + 8 from rfl, bc_add, bc_8 (n / 256 / 256 / 256 / 256 / 256 / 256 / 256)]
  generalize bc_ (n % 256) 8 = c0 at *
  generalize bc_ (n / 256 % 256) 8 = c1 at *
  generalize bc_ (n / 256 / 256 % 256) 8 = c2 at *
  generalize bc_ (n / 256 / 256 / 256 % 256) 8 = c3 at *
  generalize bc_ (n / 256 / 256 / 256 / 256 % 256) 8 = c4 at *
  generalize bc_ (n / 256 / 256 / 256 / 256 / 256 % 256) 8 = c5 at *
  generalize bc_ (n / 256 / 256 / 256 / 256 / 256 / 256 % 256) 8 = c6 at *
  generalize bc_ (n / 256 / 256 / 256 / 256 / 256 / 256 / 256 % 256) 8 = c7 at *
  obtain ⟨a1, g1⟩ : ∃ a1, a1 = 256 * (256 * (256 * (256 * (256 * (256 * (256 * 0 + c7) + c6) + c5) + c4) + c3) + c2) + c1 := ⟨_, rfl⟩
  obtain ⟨a2, g2⟩ : ∃ a2, a2 = 256 * (256 * (256 * (256 * (256 * (256 * 0 + c7) + c6) + c5) + c4) + c3) + c2 := ⟨_, rfl⟩
  obtain ⟨a3, g3⟩ : ∃ a3, a3 = 256 * (256 * (256 * (256 * (256 * 0 + c7) + c6) + c5) + c4) + c3 := ⟨_, rfl⟩
  obtain ⟨a4, g4⟩ : ∃ a4, a4 = 256 * (256 * (256 * (256 * 0 + c7) + c6) + c5) + c4 := ⟨_, rfl⟩
  obtain ⟨a5, g5⟩ : ∃ a5, a5 = 256 * (256 * (256 * 0 + c7) + c6) + c5 := ⟨_, rfl⟩
  obtain ⟨a6, g6⟩ : ∃ a6, a6 = 256 * (256 * 0 + c7) + c6 := ⟨_, rfl⟩
  obtain ⟨a7, g7⟩ : ∃ a7, a7 = 256 * 0 + c7 := ⟨_, rfl⟩
  rw [← g7] at g6 g5 g4 g3 g2 g1 ep
  rw [← g6] at g5 g4 g3 g2 g1 ep
  rw [← g5] at g4 g3 g2 g1 ep
  rw [← g4] at g3 g2 g1 ep
  rw [← g3] at g2 g1 ep
  rw [← g2] at g1 ep
  rw [← g1] at ep
  generalize pb_ 8 n = y3 at *
  obtain ⟨f1, f2, f3, f4, f5, f6, f7, f8⟩ := sum8 q0 q1 q2 q3 q4 q5 q6 q7 ep g1 g2 g3 g4 g5 g6 g7
  have s4 : x4 = lN (y3 + a1) := by
    rw [e4, s3, show (8 : Int32) = nI 8 from rfl, sh (Nat.lt_of_le_of_lt f5 (by decide)) (by decide), lN_add, show (2 : Nat) ^ 8 = 256 from rfl, f1]
  have s5 : x5 = lN (y3 + a1 + (a2 + a3)) := by
    rw [e5, s4, show (16 : Int32) = nI 16 from rfl, sh (bb2 f5 f6) (by decide), lN_add, show (2 : Nat) ^ 16 = 65536 from rfl, f2]
  have s6 : x6 = lN (y3 + a1 + (a2 + a3) + (a4 + a5 + (a6 + a7))) := by
    rw [e6, s5, show (32 : Int32) = nI 32 from rfl, sh (bb4 f5 f6 f7 f8) (by decide), lN_add, show (2 : Nat) ^ 32 = 4294967296 from rfl, f3]
  rw [s6, lN_i, pk_and _ 7 (by decide)]
  have et : ∀ z : Nat, (nI z).toBitVec.toNat = z % 4294967296 := fun z => by
    show (BitVec.ofNat 32 z).toNat = _
    rw [BitVec.toNat_ofNat]
  rw [et, show (2 : Nat) ^ 7 = 128 from rfl, f4]
  rw [eb] at h
  exact h
/-! counting by a property -/
noncomputable def b01 (p : Prop) : Nat := @ite Nat p (Classical.propDecidable p) 1 0
theorem b01_1 {p : Prop} (h : p) : b01 p = 1 := by unfold b01; exact if_pos h
theorem b01_0 {p : Prop} (h : ¬ p) : b01 p = 0 := by unfold b01; exact if_neg h
theorem b01_le (p : Prop) : b01 p ≤ 1 := by
  by_cases h : p
  · rw [b01_1 h]; exact Nat.le_refl 1
  · rw [b01_0 h]; omega
theorem b01_iff {p q : Prop} (h : p ↔ q) : b01 p = b01 q := by
  by_cases a : p
  · rw [b01_1 a, b01_1 (h.mp a)]
  · rw [b01_0 a, b01_0 (fun b => a (h.mpr b))]
noncomputable def cntQ (P : Nat → Prop) : Nat → Nat
  | 0 => 0
  | i + 1 => cntQ P i + b01 (P i)
theorem cntQ_le (P : Nat → Prop) : ∀ n, cntQ P n ≤ n := by
  intro n
  induction n with
  | zero => exact Nat.le_refl 0
  | succ n ih =>
    show cntQ P n + b01 (P n) ≤ n + 1
    have := b01_le (P n)
    omega
theorem cntQ_eq {P R : Nat → Prop} : ∀ n, (∀ i, i < n → (P i ↔ R i)) → cntQ P n = cntQ R n := by
  intro n
  induction n with
  | zero => intro _; rfl
  | succ n ih =>
    intro h
    show cntQ P n + b01 (P n) = cntQ R n + b01 (R n)
    rw [ih (fun i a => h i (by omega)), b01_iff (h n (by omega))]
theorem cntQ_tail {P : Nat → Prop} {m : Nat} : ∀ n, m ≤ n → (∀ i, m ≤ i → i < n → ¬ P i) → cntQ P n = cntQ P m := by
  intro n
  induction n with
  | zero =>
    intro h _
    have : m = 0 := by omega
    subst this; rfl
  | succ n ih =>
    intro h hz
    by_cases q : m = n + 1
    · rw [q]
    · show cntQ P n + b01 (P n) = _
      rw [b01_0 (hz n (by omega) (by omega)), ih (by omega) (fun i a b => hz i a (by omega))]
      rfl
theorem cntQ_not {P : Nat → Prop} : ∀ n, cntQ P n + cntQ (fun i => ¬ P i) n = n := by
  intro n
  induction n with
  | zero => rfl
  | succ n ih =>
    show cntQ P n + b01 (P n) + (cntQ (fun i => ¬ P i) n + b01 (¬ P n)) = n + 1
    by_cases h : P n
    · rw [b01_1 h, b01_0 (fun g => g h)]; omega
    · rw [b01_0 h, b01_1 h]; omega
/-! marks -/
def mk_ (w : Nat → Int64) (k : Nat) : Prop := (w (k / 64)).toBitVec.toNat.testBit (k % 64) = true
theorem b_iff (n j : Nat) : n / 2 ^ j % 2 = b01 (n.testBit j = true) := by
  have h := Nat.testBit_eq_decide_div_mod_eq (x := n) (i := j)
  by_cases q : n / 2 ^ j % 2 = 1
  · rw [b01_1 (by rw [h]; exact decide_eq_true q), q]
  · rw [b01_0 (by rw [h]; exact fun g => q (of_decide_eq_true g))]
    omega
theorem mk_word {w : Nat → Int64} {i : Nat} : ∀ j, j ≤ 64 → cntQ (mk_ w) (64 * i + j) = cntQ (mk_ w) (64 * i) + bc_ (w i).toBitVec.toNat j := by
  intro j
  induction j with
  | zero => intro _; rfl
  | succ j ih =>
    intro h
    show cntQ (mk_ w) (64 * i + j) + b01 (mk_ w (64 * i + j)) = cntQ (mk_ w) (64 * i) + (bc_ (w i).toBitVec.toNat j + (w i).toBitVec.toNat / 2 ^ j % 2)
    rw [ih (by omega), b_iff]
    have e1 : (64 * i + j) / 64 = i := by omega
    have e2 : (64 * i + j) % 64 = j := by omega
    have : b01 (mk_ w (64 * i + j)) = b01 ((w i).toBitVec.toNat.testBit j = true) := by
      apply b01_iff
      unfold mk_
      rw [e1, e2]
    rw [this]
    omega
theorem measN {a b N : Nat} (h : a < b) (hb : b ≤ N) (hN : N < 2147483648) : ((N : Int) - (nI b).toInt).toNat < ((N : Int) - (nI a).toInt).toNat := by
  rw [tn (n := a) (by omega), tn (n := b) (by omega)]
  omega
theorem s_tally {N : Nat} (hN : N ≤ 10000) {w : Nat → Int64} {Q : Int32 → Prop} (h : Q (nI (cntQ (mk_ w) (64 * N)))) : wp_X0_tally N w Q := by
  unfold wp_X0_tally
  refine ⟨fun x s => ∃ i, i ≤ N ∧ x = nI i ∧ s = nI (cntQ (mk_ w) (64 * i)), fun x _ => ((N : Int) - x.toInt).toNat, ⟨0, Nat.zero_le _, rfl, rfl⟩, ?_⟩
  rintro x s ⟨i, hi, rfl, rfl⟩
  refine ⟨fun c => ?_, fun c => ⟨?_, ?_⟩⟩
  · have c' := (nI_leI (a := N) (b := i) (by omega) (by omega)).mp c
    have : i = N := by omega
    rw [this]; exact h
  · have c' := mt (nI_leI (a := N) (b := i) (by omega) (by omega)).mpr c
    exact vp_in_nI (by omega) (by omega)
  · have c' := mt (nI_leI (a := N) (b := i) (by omega) (by omega)).mpr c
    refine s_bitCount (fun x1 e1 x2 e2 => ?_)
    rw [nI_clamp (by omega), nI_add, ← mk_word 64 (Nat.le_refl 64)] at e1
    rw [show nI i + (1 : Int32) = nI (i + 1) from nI_1 i] at e2
    subst e1 e2
    exact ⟨⟨i + 1, by omega, rfl, rfl⟩, measN (by omega) (by omega) (by omega)⟩
theorem sh6 {k : Nat} (hk : k < 2147483648) : nI k >>> ((6 : Int32) &&& 31) = nI (k / 64) := pk_shrN (n := k) hk _ 6 (by decide)
theorem an6 {k : Nat} (hk : k < 2147483648) : nI k &&& (63 : Int32) = nI (k % 64) := pk_andN (n := k) (by omega) 6 (by decide)
/-- a word with one more mark -/
theorem or_bit {w : Nat → Int64} {k : Nat} (hk : k < 2147483648) (y : Int64) (hy : y = w (k / 64) ||| ((1 : Int64) <<< ((nI k &&& (63 : Int32)).toInt64 &&& 63))) : ∀ j, mk_ (vp_updL w (k / 64) y) j ↔ mk_ w j ∨ j = k := by
  intro j
  rw [an6 hk, show (1 : Int64) = lN 1 from rfl, wb_shl 1 (Nat.mod_lt k (by omega)), Nat.one_mul] at hy
  obtain ⟨a, ha, ea⟩ := wb_of (w (k / 64))
  have hp : 2 ^ (k % 64) < 2 ^ 64 := Nat.pow_lt_pow_right (by omega) (Nat.mod_lt k (by omega))
  rw [ea, wb_or ha hp] at hy
  unfold mk_
  by_cases q : j / 64 = k / 64
  · rw [q, upL_same, ea, hy, wb_tn (Nat.or_lt_two_pow ha hp), wb_tn ha, Nat.testBit_or, Nat.testBit_two_pow, Bool.or_eq_true, decide_eq_true_eq]
    have : k % 64 = j % 64 ↔ j = k := by omega
    rw [this]
  · rw [upL_ne q]
    have : ¬ j = k := fun e => q (by rw [e])
    simp [this]
theorem s_mark {N : Nat} (hN : N ≤ 10000) {w : Nat → Int64} {k : Nat} (hk : k < 64 * N) {Q : (Nat → Int64) → Prop} (h : ∀ w', (∀ j, mk_ w' j ↔ mk_ w j ∨ j = k) → Q w') : wp_X0_mark N w (nI k) Q := by
  unfold wp_X0_mark
  intro x e
  rw [sh6 (by omega)] at e
  subst e
  refine ⟨fun c => absurd c (nI_pos (by omega)), fun _ => ⟨fun c => ?_, fun _ => ⟨vp_in_nI (by omega) (by omega), fun y hy => ⟨vp_in_nI (by omega) (by omega), ?_⟩⟩⟩⟩
  · have := (nI_leI (a := N) (b := k / 64) (by omega) (by omega)).mp c
    omega
  · rw [nI_clamp (by omega)] at hy ⊢
    exact h _ (or_bit (by omega) y hy)
theorem s_isMarked {N : Nat} (hN : N ≤ 10000) {w : Nat → Int64} {k : Nat} (hk : k < 64 * N) {Q : Int32 → Prop} (h1 : mk_ w k → Q 1) (h0 : ¬ mk_ w k → Q 0) : wp_X0_isMarked N w (nI k) Q := by
  unfold wp_X0_isMarked
  intro x e
  rw [sh6 (by omega)] at e
  subst e
  obtain ⟨a, ha, ea⟩ := wb_of (w (k / 64))
  refine ⟨fun c => absurd c (nI_pos (by omega)), fun _ => ⟨fun c => ?_, fun _ => ⟨vp_in_nI (by omega) (by omega), ?_⟩⟩⟩
  · have := (nI_leI (a := N) (b := k / 64) (by omega) (by omega)).mp c
    omega
  · rw [nI_clamp (by omega), an6 (by omega), ea, wb_bit ha (Nat.mod_lt k (by omega)), show (0 : Int64) = lN 0 from rfl]
    have hm : mk_ w k ↔ a / 2 ^ (k % 64) % 2 = 1 := by
      unfold mk_
      rw [ea, wb_tn ha, Nat.testBit_eq_decide_div_mod_eq, decide_eq_true_eq]
    have hb : a / 2 ^ (k % 64) % 2 < 2 := Nat.mod_lt _ (by omega)
    refine ⟨fun c => h0 (fun q => ?_), fun c => h1 (hm.mpr ?_)⟩
    · have c' := (pk_lEQ (by omega) (by omega)).mp c
      have := hm.mp q
      omega
    · have c' := mt (pk_lEQ (a := a / 2 ^ (k % 64) % 2) (b := 0) (by omega) (by omega)).mpr c
      omega
theorem s_wipe {N : Nat} (hN : N ≤ 10000) {w : Nat → Int64} {Q : (Nat → Int64) → Prop} (h : ∀ w', (∀ k, k < 64 * N → ¬ mk_ w' k) → Q w') : wp_X0_wipe N w Q := by
  unfold wp_X0_wipe wp_J7_fill_d0a16
  intro x e
  have e : x = nI N := e
  subst e
  refine ⟨fun x f => ∃ i, i ≤ N ∧ x = nI i ∧ ∀ j, j < i → f j = 0, fun x _ => ((N : Int) - x.toInt).toNat, ⟨0, Nat.zero_le _, rfl, fun j hj => absurd hj (Nat.not_lt_zero j)⟩, ?_⟩
  rintro x f ⟨i, hi, rfl, hf⟩
  refine ⟨fun c => h f (fun k hk => ?_), fun c => ?_⟩
  · have c' := (nI_leI (a := N) (b := i) (by omega) (by omega)).mp c
    unfold mk_
    rw [hf (k / 64) (by omega)]
    show ¬ Nat.testBit 0 (k % 64) = true
    rw [Nat.zero_testBit]
    exact Bool.false_ne_true
  · have c' := mt (nI_leI (a := N) (b := i) (by omega) (by omega)).mpr c
    rw [nI_clamp (by omega)]
    refine ⟨vp_in_nI (by omega) (by omega), fun x3 e3 => ?_⟩
    rw [show nI i + (1 : Int32) = nI (i + 1) from nI_1 i] at e3
    subst e3
    refine ⟨⟨i + 1, by omega, rfl, fun j hj => ?_⟩, measN (by omega) (by omega) (by omega)⟩
    by_cases q : j = i
    · rw [q, upL_same]
    · rw [upL_ne q]; exact hf j (by omega)
theorem s_markEvery {N : Nat} (hN : N ≤ 10000) {w : Nat → Int64} {a s e : Nat} (ha : a ≤ 1000000000) (hs : 1 ≤ s) (hs2 : s ≤ 1000000) (he : e ≤ 64 * N) {Q : (Nat → Int64) → Prop} (h : ∀ w', (∀ k, mk_ w' k ↔ mk_ w k ∨ (k < e ∧ ∃ j, k = a + j * s)) → Q w') : wp_X0_markEvery N w (nI a) (nI s) (nI e) Q := by
  unfold wp_X0_markEvery
  refine ⟨fun c => absurd c (nI_pos (by omega)), fun _ => ⟨fun _ x4 e4 => ?_, fun c => ?_⟩⟩
  · have e5 : x4 = nI e := by
      rw [e4, show (Int32.ofNat N) * (64 : Int32) = nI (N * 64) from pk_mul N 64]
      by_cases q : nI (N * 64) < nI e
      · have := (nI_ltI (by omega) (by omega)).mp q
        omega
      · rw [if_neg q]
    clear e4
    subst e5
    refine ⟨fun x f => ∃ j, a + j * s ≤ 1001000000 ∧ x = nI (a + j * s) ∧ (∀ i, i < j → a + i * s < e) ∧ ∀ k, mk_ f k ↔ mk_ w k ∨ ∃ i, i < j ∧ k = a + i * s, fun x _ => ((2002000000 : Nat) - x.toInt).toNat, ⟨0, by omega, by rw [Nat.zero_mul, Nat.add_zero], fun i hi => absurd hi (Nat.not_lt_zero i), fun k => ⟨fun q => Or.inl q, fun q => q.elim id (fun ⟨i, hi, _⟩ => absurd hi (Nat.not_lt_zero i))⟩⟩, ?_⟩
    rintro x f ⟨j, hj, rfl, hi, hm⟩
    refine ⟨fun c => h f (fun k => ?_), fun c => ?_⟩
    · have c' := (nI_leI (by omega) (by omega)).mp c
      rw [hm k]
      constructor
      · rintro (q | ⟨i, q1, q2⟩)
        · exact Or.inl q
        · exact Or.inr ⟨by rw [q2]; exact hi i q1, i, q2⟩
      · rintro (q | ⟨q1, i, q2⟩)
        · exact Or.inl q
        · refine Or.inr ⟨i, ?_, q2⟩
          rcases Nat.lt_or_ge i j with z | z
          · exact z
          · have := Nat.mul_le_mul_right s z
            omega
    · have c' := mt (nI_leI (a := e) (b := a + j * s) (by omega) (by omega)).mpr c
      rw [sh6 (by omega), nI_clamp (by omega)]
      refine ⟨vp_in_nI (by omega) (by omega), fun y hy => ⟨vp_in_nI (by omega) (by omega), fun x5 e5 => ?_⟩⟩
      have en : a + (j + 1) * s = a + j * s + s := by rw [Nat.succ_mul]; omega
      rw [nI_add, ← en] at e5
      subst e5
      refine ⟨⟨j + 1, by omega, rfl, fun i q => ?_, fun k => ?_⟩, measN (by omega) (by omega) (by omega)⟩
      · by_cases z : i = j
        · rw [z]; omega
        · exact hi i (by omega)
      · rw [or_bit (by omega) y hy k, hm k]
        constructor
        · rintro ((q | ⟨i, q1, q2⟩) | q)
          · exact Or.inl q
          · exact Or.inr ⟨i, by omega, q2⟩
          · exact Or.inr ⟨j, by omega, q⟩
        · rintro (q | ⟨i, q1, q2⟩)
          · exact Or.inl (Or.inl q)
          · by_cases z : i = j
            · rw [z] at q2; exact Or.inr q2
            · exact Or.inl (Or.inr ⟨i, by omega, q2⟩)
  · exact absurd (nI_le (a := 1) (b := s) hs (by omega)) c
theorem mk_0 (k : Nat) : ¬ mk_ (fun _ => 0) k := by
  unfold mk_
  show ¬ Nat.testBit 0 (k % 64) = true
  rw [Nat.zero_testBit]
  exact Bool.false_ne_true

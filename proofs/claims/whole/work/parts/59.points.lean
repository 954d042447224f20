theorem sh1 : ∀ j, j < 17 → (1 : Int64) <<< ((nI j).toInt64 &&& 63) = lN (2 ^ j) := by decide +kernel
theorem or_add {F j : Nat} (h : 2 ^ (j + 1) ∣ F) : F ||| 2 ^ j = F + 2 ^ j := by
  obtain ⟨a, rfl⟩ := h
  exact (Nat.two_pow_add_eq_or_of_lt (Nat.pow_lt_pow_right (by omega) (by omega)) a).symm
/-- the root, cut -/
theorem s_root {n : Nat} (hn : n ≤ 10000000000) {Q : Int64 → Prop} (h : ∀ r : Nat, r ≤ 100000 → r * r ≤ n → n < (r + 1) * (r + 1) → Q (lN r)) : wp_X7_root (lN n) Q := by
  unfold wp_X7_root
  refine ⟨fun bit f => ∃ k F : Nat, k ≤ 17 ∧ bit.toInt = (k : Int) - 1 ∧ f = lN F ∧ 2 ^ k ∣ F ∧ F ≤ 131072 ∧ F * F ≤ n ∧ n < (F + 2 ^ k) * (F + 2 ^ k), fun bit _ => (bit.toInt + 1).toNat, ⟨17, 0, by omega, by decide, rfl, ⟨0, rfl⟩, by omega, by omega, by omega⟩, ?_⟩
  rintro bit f ⟨k, F, hk, hb, rfl, hd, hF, h1, h2⟩
  have hF2 : F ≤ 100000 := by
    rcases Nat.lt_or_ge 100000 F with q | q
    · have := Nat.mul_le_mul q q
      omega
    · exact q
  refine ⟨fun c => ?_, fun c x5 e5 => ?_⟩
  · have c' : bit.toInt < 0 := ilt.mp c
    have : k = 0 := by omega
    subst this
    exact h F hF2 h1 h2
  · have c' : ¬ bit.toInt < 0 := fun q => c (ilt.mpr q)
    obtain ⟨j, rfl⟩ : ∃ j, k = j + 1 := ⟨k - 1, by omega⟩
    have ebit : bit = nI j := i_of (by omega)
    subst ebit
    have hj := tn (n := j) (by omega)
    have hpj : 2 ^ j ≤ 2 ^ 16 := Nat.pow_le_pow_right (by omega) (by omega)
    have h16 : (2 : Nat) ^ 16 = 65536 := by decide
    rw [sh1 j (by omega), wb_or (by omega) (by omega), or_add hd] at e5
    subst e5
    have hlt : (F + 2 ^ j) * (F + 2 ^ j) < 9223372036854775808 := by
      have := Nat.mul_le_mul (show F + 2 ^ j ≤ 200000 by omega) (show F + 2 ^ j ≤ 200000 by omega)
      omega
    have em1 : (nI j + (-1 : Int32)).toInt = (j : Int) - 1 := by
      rcases Nat.eq_zero_or_pos j with q | q
      · subst q; decide
      · obtain ⟨i, rfl⟩ : ∃ i, j = i + 1 := ⟨j - 1, by omega⟩
        rw [pk_m1, tn (by omega)]
        omega
    have e2 : 2 ^ (j + 1) = 2 ^ j + 2 ^ j := by rw [Nat.pow_succ]; omega
    rw [lN_mul]
    refine ⟨fun d x4 e4 => ?_, fun d x4 e4 => ?_⟩
    · have d' := (pk_lLT (by omega) (by omega)).mp d
      subst e4
      refine ⟨⟨j, F, by omega, em1, rfl, Nat.dvd_trans ⟨2, by rw [Nat.pow_succ]⟩ hd, hF, h1, d'⟩, ?_⟩
      show ((nI j + (-1 : Int32)).toInt + 1).toNat < ((nI j).toInt + 1).toNat
      rw [em1, hj]; omega
    · have d' := mt (pk_lLT (a := n) (by omega) hlt).mpr d
      subst e4
      have hF3 : F + 2 ^ j ≤ 100000 := by
        rcases Nat.lt_or_ge 100000 (F + 2 ^ j) with q | q
        · have := Nat.mul_le_mul q q
          omega
        · exact q
      refine ⟨⟨j, F + 2 ^ j, by omega, em1, rfl, ?_, by omega, by omega, ?_⟩, ?_⟩
      · exact Nat.dvd_add (Nat.dvd_trans ⟨2, by rw [Nat.pow_succ]⟩ hd) (Nat.dvd_refl _)
      · rw [e2] at h2
        rw [Nat.add_assoc]; exact h2
      · show ((nI j + (-1 : Int32)).toInt + 1).toNat < ((nI j).toInt + 1).toNat
        rw [em1, hj]; omega
/-- the sum of n / x, x 1 .. r -/
def ds_ (n : Nat) : Nat → Nat
  | 0 => 0
  | r + 1 => ds_ n r + n / (r + 1)
theorem ds_le {n : Nat} : ∀ r, ds_ n r ≤ r * n := by
  intro r
  induction r with
  | zero => simp [ds_]
  | succ r ih =>
    show ds_ n r + n / (r + 1) ≤ (r + 1) * n
    have := Nat.div_le_self n (r + 1)
    rw [Nat.succ_mul]; omega
theorem s_pointsU {n : Nat} (hn : n ≤ 10000000000) {Q : Int64 → Prop} (h : ∀ r : Nat, r ≤ 100000 → r * r ≤ n → n < (r + 1) * (r + 1) → Q (lN 2 * lN (ds_ n r) - lN (r * r))) : wp_X7_pointsUnder (lN n) Q := by
  unfold wp_X7_pointsUnder
  refine s_root hn (fun r hr h1 h2 => ?_)
  refine ⟨fun x f => ∃ i : Nat, i ≤ r ∧ x = lN (i + 1) ∧ f = lN (ds_ n i), fun x _ => (200000 - x.toInt).toNat, ⟨0, by omega, rfl, rfl⟩, ?_⟩
  rintro x f ⟨i, hi, rfl, rfl⟩
  have e1 := tl (n := i + 1) (by omega)
  refine ⟨fun c => ?_, fun c => ⟨fun e => ?_, fun x4 e4 x6 e6 => ?_⟩⟩
  · have c' := (pk_lLT (by omega) (by omega)).mp c
    have : i = r := by omega
    subst this
    rw [lN_mul]
    exact h i hr h1 h2
  · have := (pk_lEQ (a := i + 1) (b := 0) (by omega) (by omega)).mp e
    omega
  · have c' := mt (pk_lLT (a := r) (b := i + 1) (by omega) (by omega)).mpr c
    rw [pk_lDiv (by omega) (by omega) (by omega), lN_add] at e4
    rw [lN_1] at e6
    subst e4 e6
    refine ⟨⟨i + 1, by omega, rfl, rfl⟩, ?_⟩
    show (200000 - (lN (i + 1 + 1)).toInt).toNat < (200000 - (lN (i + 1)).toInt).toNat
    rw [tl (n := i + 1 + 1) (by omega), e1]
    omega
theorem meas {i : Nat} (hi : i ≤ 100000) : (200000 - (lN (i + 1 + 1)).toInt).toNat < (200000 - (lN (i + 1)).toInt).toNat := by
  rw [tl (n := i + 1 + 1) (by omega), tl (n := i + 1) (by omega)]
  omega
theorem root_uq {n r t : Nat} (h1 : r * r ≤ n) (h2 : n < (r + 1) * (r + 1)) (h3 : t * t ≤ n) (h4 : n < (t + 1) * (t + 1)) : r = t := by
  rcases Nat.lt_trichotomy r t with q | q | q
  · have := Nat.mul_le_mul (show r + 1 ≤ t from q) (show r + 1 ≤ t from q)
    omega
  · exact q
  · have := Nat.mul_le_mul (show t + 1 ≤ r from q) (show t + 1 ≤ r from q)
    omega
theorem s_points9 {n : Nat} (hn : n ≤ 10000000000) {Q : Int64 → Prop} (h : ∀ r a : Nat, r * r ≤ n → n < (r + 1) * (r + 1) → a + r * r = 2 * ds_ n r → Q (lN a)) : wp_X9_points (lN n) Q := by
  unfold wp_X9_points
  have en := tl (n := n) (by omega)
  refine s_in (fun _ _ => ⟨fun c => absurd c (by decide), fun _ => ?_⟩) (fun c => ?_)
  rotate_left
  · rw [en] at c
    have c' : (n : Int) < 0 ∨ (10000000000 : Int) < (n : Int) := c
    omega
  refine ⟨fun x f => ∃ i a : Nat, i ≤ 100000 ∧ i * i ≤ n ∧ x = lN (i + 1) ∧ f = lN a ∧ a + i * i = 2 * ds_ n i, fun x _ => (200000 - x.toInt).toNat, ⟨0, 0, by omega, by omega, rfl, rfl, rfl⟩, ?_⟩
  rintro x f ⟨i, a, hi, h1, rfl, rfl, ha⟩
  have e1 := tl (n := i + 1) (by omega)
  have hb : (i + 1) * (i + 1) < 9223372036854775808 := by
    have := Nat.mul_le_mul (show i + 1 ≤ 200000 by omega) (show i + 1 ≤ 200000 by omega)
    omega
  rw [lN_mul]
  refine ⟨fun c => ?_, fun c => ⟨fun e => ?_, fun x3 e3 x5 e5 => ?_⟩⟩
  · have c' := (pk_lLT (by omega) hb).mp c
    exact h i a h1 c' ha
  · have := (pk_lEQ (a := i + 1) (b := 0) (by omega) (by omega)).mp e
    omega
  · have c' := mt (pk_lLT (a := n) (b := (i + 1) * (i + 1)) (by omega) hb).mpr c
    have hle : i + 1 ≤ n / (i + 1) := (Nat.le_div_iff_mul_le (by omega)).mpr (by omega)
    have hi2 : i + 1 ≤ 100000 := by
      rcases Nat.lt_or_ge 100000 (i + 1) with q | q
      · have := Nat.mul_le_mul q q
        omega
      · exact q
    rw [pk_lDiv (by omega) (by omega) (by omega), lN_sub hle, show (2 : Int64) = lN 2 from rfl, lN_mul, lN_1, lN_add] at e3
    rw [lN_1] at e5
    subst e3 e5
    refine ⟨⟨i + 1, _, hi2, by omega, rfl, rfl, ?_⟩, ?_⟩
    · show _ = 2 * (ds_ n i + n / (i + 1))
      have e9 : (i + 1) * (i + 1) = i * i + i + i + 1 := by
        rw [Nat.succ_mul, Nat.mul_succ]
        omega
      rw [e9]
      omega
    · exact meas hi
theorem s_points9N {p : Int64} (h : p.toInt < 0 ∨ 10000000000 < p.toInt) {Q : Int64 → Prop} (hq : Q (-1)) : wp_X9_points p Q := by
  unfold wp_X9_points
  refine s_in (fun a b => ?_) (fun _ => ⟨fun _ => hq, fun c => absurd rfl c⟩)
  have a' : (0 : Int) ≤ p.toInt := a
  have b' : p.toInt ≤ (10000000000 : Int) := b
  omega
theorem t_points {Inv : XC_ → MC_ → Prop} : st_points Inv := by
  rintro ⟨oP, oS, oT, oU, oG, oR⟩ ⟨m0, m1, m2, m3, m4, m5, m6, m7, m8, m9, m10, m11, m12, m13, m14, m15, m16, m17, m18⟩ p1 hI
  refine ⟨0, 0, by omega, by omega, ?_⟩
  unfold wpx_points
  refine ⟨rfl, rfl, ?_⟩
  unfold wp_X8_points
  refine ⟨fun c => ⟨le00, le00, s_points9N (Or.inl (llt.mp c)) ⟨rfl, hI⟩⟩, fun c => ⟨fun d => ?_, fun d => ⟨le00, le00, s_points9N (Or.inr ?_) ⟨rfl, hI⟩⟩⟩⟩
  · have c' : ¬ p1.toInt < 0 := fun q => c (llt.mpr q)
    have d' : p1.toInt ≤ (10000000000 : Int) := lle.mp d
    obtain ⟨n, hn, e1, e2⟩ := l_nat (a := p1) (by omega)
    subst e1
    refine s_pointsU (by omega) (fun r hr h1 h2 => ⟨le00, le00, s_points9 (by omega) (fun t a g1 g2 g3 => ⟨?_, hI⟩)⟩)
    have := root_uq h1 h2 g1 g2
    subst this
    rw [lN_mul, lN_sub (by omega)]
    congr 1
    omega
  · have d' : ¬ p1.toInt ≤ (10000000000 : Int) := fun q => d (lle.mpr q)
    show (10000000000 : Int) < p1.toInt
    omega

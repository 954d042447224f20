/-! FLOORS: both sides go as Euclid does -/
def fl_ : Nat → Nat → Nat → Nat → Nat → Nat
  | 0, _, _, _, _ => 0
  | t + 1, n, a, b, m => n * (n - 1) / 2 * (a / m) + n * (b / m) + (if (a % m) * n + b % m < m then 0 else fl_ t (((a % m) * n + b % m) / m) m (((a % m) * n + b % m) % m) (a % m))
theorem half_even {N : Nat} (h : N % 2 = 0) : N * (N - 1) / 2 = N / 2 * (N - 1) := by
  have e : N = 2 * (N / 2) := by omega
  generalize hk : N / 2 = k at e
  rw [e, Nat.mul_assoc, Nat.mul_div_cancel_left _ (by omega)]
theorem half_odd {N : Nat} (h : N % 2 = 1) : N * (N - 1) / 2 = (N - 1) / 2 * N := by
  have e : N - 1 = 2 * ((N - 1) / 2) := by omega
  generalize hk : (N - 1) / 2 = k at e
  rw [e, show N * (2 * k) = 2 * (k * N) from by rw [← Nat.mul_assoc, Nat.mul_comm N 2, Nat.mul_assoc, Nat.mul_comm N k], Nat.mul_div_cancel_left _ (by omega)]
theorem sq_lt {N : Nat} (h : N ≤ 1000000000) : N * (N - 1) ≤ 1000000000000000000 := by
  have := Nat.mul_le_mul h (show N - 1 ≤ 1000000000 by omega)
  omega
theorem l0_mul (x : Int64) : lN 0 * x = lN 0 := Int64.zero_mul
theorem tri64 {N : Nat} (h : N ≤ 1000000000) : (lN N * (lN N - (1 : Int64))) / (2 : Int64) = lN (N * (N - 1) / 2) := by
  rcases Nat.eq_zero_or_pos N with q | q
  · subst q
    rw [l0_mul]; decide
  · have hs := sq_lt h
    rw [show (1 : Int64) = lN 1 from rfl, lN_sub (b := 1) q, lN_mul, show (2 : Int64) = lN 2 from rfl, pk_lDiv (by omega) (by omega) (by omega)]
theorem s_pairs {N : Nat} (h : N ≤ 1000000000) {Q : Int64 → Prop} (hq : Q (lN (N * (N - 1) / 2))) : wp_X9_pairs (lN N) Q := by
  unfold wp_X9_pairs
  rw [show (2 : Int64) = lN 2 from rfl, pk_lRem (by omega) (by omega) (by omega), pk_lDiv (by omega) (by omega) (by omega), show (0 : Int64) = lN 0 from rfl]
  refine ⟨fun c => ?_, fun c => ?_⟩
  · have c' := (pk_lEQ (by omega) (by omega)).mp c
    rw [half_even c'] at hq
    rcases Nat.eq_zero_or_pos N with q | q
    · subst q
      rw [show lN (0 / 2) = lN 0 from rfl, l0_mul]
      exact hq
    · rw [show (1 : Int64) = lN 1 from rfl, lN_sub (b := 1) q, lN_mul]
      exact hq
  · have c' := mt (pk_lEQ (a := N % 2) (b := 0) (by omega) (by omega)).mpr c
    rw [half_odd (by omega)] at hq
    rw [show (1 : Int64) = lN 1 from rfl, lN_sub (b := 1) (by omega), pk_lDiv (by omega) (by omega) (by omega), lN_mul]
    exact hq
/-- what holds at a turn T of either loop -/
def flI_ (tot T s N A B M : Nat) : Prop := T ≤ 41 ∧ 1 ≤ M ∧ M ≤ 1000000 ∧ A ≤ 1000000 ∧ B ≤ 1000000 ∧ N ≤ 1000000000 ∧ (T = 0 ∨ (M ≤ A ∧ A * M * 2 ^ (T - 1) ≤ 1000000000000)) ∧ s + fl_ (64 - T) N A B M = tot
theorem fl_h {N A B M : Nat} (hM : 1 ≤ M) : A % M * N + B % M < M * (N + 1) := by
  have h1 := Nat.mod_lt A (show 0 < M by omega)
  have h2 := Nat.mod_lt B (show 0 < M by omega)
  have h3 : A % M * N ≤ (M - 1) * N := Nat.mul_le_mul_right N (by omega)
  have e : M * (N + 1) = (M - 1) * N + N + M := by
    obtain ⟨k, rfl⟩ : ∃ k, M = k + 1 := ⟨M - 1, by omega⟩
    rw [show k + 1 - 1 = k from rfl, Nat.mul_add, Nat.mul_one, Nat.succ_mul]
  omega
theorem fl_hb {N A B M : Nat} (hM : 1 ≤ M) (hM2 : M ≤ 1000000) (hN : N ≤ 1000000000) : A % M * N + B % M < 2000000000000000 := by
  have h := fl_h (N := N) (A := A) (B := B) hM
  have : M * (N + 1) ≤ 1000000 * 1000000001 := Nat.mul_le_mul hM2 (by omega)
  omega
theorem fl_end {tot T s N A B M : Nat} (h : flI_ tot T s N A B M) (hc : A % M * N + B % M < M) : s + (N * (N - 1) / 2 * (A / M) + N * (B / M)) = tot := by
  obtain ⟨h1, h2, h3, h4, h5, h6, h7, h8⟩ := h
  obtain ⟨t, ht⟩ : ∃ t, 64 - T = t + 1 := ⟨63 - T, by omega⟩
  rw [ht] at h8
  have e : fl_ (t + 1) N A B M = N * (N - 1) / 2 * (A / M) + N * (B / M) + (if (A % M) * N + B % M < M then 0 else fl_ t (((A % M) * N + B % M) / M) M (((A % M) * N + B % M) % M) (A % M)) := rfl
  rw [e, if_pos hc] at h8
  omega
theorem fl_step {tot T s N A B M : Nat} (h : flI_ tot T s N A B M) (hc : ¬ A % M * N + B % M < M) : flI_ tot (T + 1) (s + (N * (N - 1) / 2 * (A / M) + N * (B / M))) ((A % M * N + B % M) / M) M ((A % M * N + B % M) % M) (A % M) ∧ A % M < M := by
  obtain ⟨h1, h2, h3, h4, h5, h6, h7, h8⟩ := h
  have hr := Nat.mod_lt A (show 0 < M by omega)
  have hb := Nat.mod_lt B (show 0 < M by omega)
  have hp : 1 ≤ A % M := by
    rcases Nat.eq_zero_or_pos (A % M) with q | q
    · rw [q, Nat.zero_mul] at hc; omega
    · exact q
  obtain ⟨t, ht⟩ : ∃ t, 64 - T = t + 1 := ⟨63 - T, by omega⟩
  rw [ht] at h8
  have e : fl_ (t + 1) N A B M = N * (N - 1) / 2 * (A / M) + N * (B / M) + (if (A % M) * N + B % M < M then 0 else fl_ t (((A % M) * N + B % M) / M) M (((A % M) * N + B % M) % M) (A % M)) := rfl
  rw [e, if_neg hc] at h8
  have hpb : M * (A % M) * 2 ^ T ≤ 1000000000000 := by
    rcases h7 with q | ⟨q1, q2⟩
    · subst q
      rw [Nat.pow_zero, Nat.mul_one]
      have := Nat.mul_le_mul h3 (show A % M ≤ 1000000 by omega)
      omega
    · have hdm := Nat.div_add_mod A M
      have hq : 1 ≤ A / M := (Nat.le_div_iff_mul_le (by omega)).mpr (by omega)
      have hq2 : M ≤ M * (A / M) := by
        have := Nat.mul_le_mul_left M hq
        omega
      have h2r : 2 * (A % M) ≤ A := by omega
      rcases Nat.eq_zero_or_pos T with z | z
      · subst z
        rw [Nat.pow_zero, Nat.mul_one]
        have := Nat.mul_le_mul h3 (show A % M ≤ 1000000 by omega)
        omega
      · obtain ⟨k, rfl⟩ : ∃ k, T = k + 1 := ⟨T - 1, by omega⟩
        rw [show k + 1 - 1 = k from rfl] at q2
        have e1 : M * (A % M) * 2 ^ (k + 1) = 2 * (A % M) * M * 2 ^ k := by
          rw [Nat.pow_succ, Nat.mul_comm M (A % M), Nat.mul_comm (2 ^ k) 2, ← Nat.mul_assoc, Nat.mul_comm (A % M * M) 2, ← Nat.mul_assoc]
        rw [e1]
        have := Nat.mul_le_mul_right (2 ^ k) (Nat.mul_le_mul_right M h2r)
        omega
  have hT : T + 1 ≤ 41 := by
    rcases Nat.lt_or_ge T 41 with q | q
    · omega
    · exfalso
      have h1 : 2 ^ 40 ≤ 2 ^ T := Nat.pow_le_pow_right (by omega) (by omega)
      have h2' : 1 ≤ M * (A % M) := Nat.mul_pos (by omega) hp
      have h3' := Nat.mul_le_mul h2' h1
      have : (2 : Nat) ^ 40 = 1099511627776 := by decide
      omega
  refine ⟨⟨hT, hp, by omega, h3, ?_, ?_, Or.inr ⟨by omega, ?_⟩, ?_⟩, hr⟩
  · have := Nat.mod_lt (A % M * N + B % M) (show 0 < M by omega)
    omega
  · have := fl_h (N := N) (A := A) (B := B) h2
    have := Nat.div_lt_of_lt_mul this
    omega
  · rw [show T + 1 - 1 = T from rfl]; exact hpb
  · have : 64 - (T + 1) = t := by omega
    rw [this]; omega
theorem l_le {a b : Nat} (ha : a < 9223372036854775808) (hb : b < 9223372036854775808) : lN a ≤ lN b ↔ a ≤ b := pk_lLE ha hb
theorem s_floorSum {N A B M : Nat} (hM : 1 ≤ M) (hM2 : M ≤ 1000000) (hA : A ≤ 1000000) (hB : B ≤ 1000000) (hN : N ≤ 1000000000) {Q : Int64 → Prop} (hq : Q (lN (fl_ 64 N A B M))) : wp_X7_floorSum (lN N) (lN A) (lN B) (lN M) Q := by
  unfold wp_X7_floorSum
  refine ⟨fun turn acc n a b m => ∃ T s N' A' B' M' : Nat, flI_ (fl_ 64 N A B M) T s N' A' B' M' ∧ turn = nI T ∧ acc = lN s ∧ n = lN N' ∧ a = lN A' ∧ b = lN B' ∧ m = lN M', fun turn _ _ _ _ _ => (100 - turn.toInt).toNat, ⟨0, 0, N, A, B, M, ⟨by omega, hM, hM2, hA, hB, hN, Or.inl rfl, Nat.zero_add _⟩, rfl, rfl, rfl, rfl, rfl, rfl⟩, ?_⟩
  rintro turn acc n a b m ⟨T, s, N', A', B', M', hI, rfl, rfl, rfl, rfl, rfl, rfl⟩
  obtain ⟨h1, h2, h3, h4, h5, h6, h7, h8⟩ := id hI
  have eT := tn (n := T) (by omega)
  have hne : ¬ lN M' = (0 : Int64) := fun e => by
    have := (pk_lEQ (a := M') (b := 0) (by omega) (by omega)).mp e
    omega
  have hh := fl_hb (N := N') (A := A') (B := B') h2 h3 h6
  refine ⟨fun c => ?_, fun _ => ⟨fun c => ?_, fun _ => ⟨hne, hne, fun x8 e8 => ⟨hne, fun x2 e2 => ⟨hne, fun x4 e4 x11 e11 => ?_⟩⟩⟩⟩⟩
  · have c' : (64 : Int) ≤ (nI T).toInt := ile.mp c
    omega
  · have := (l_le (a := M') (b := 0) (by omega) (by omega)).mp c
    omega
  · rw [tri64 h6, pk_lDiv (by omega) (by omega) (by omega), pk_lDiv (by omega) (by omega) (by omega), lN_mul, lN_mul, lN_add, lN_add] at e8
    rw [pk_lRem (by omega) (by omega) (by omega)] at e2 e4
    rw [e2, e4, lN_mul, lN_add] at e11
    subst e8 e2 e4 e11
    refine ⟨fun c => ⟨hne, fun x0 e0 => ⟨hne, fun x4 e4 x10 e10 => ?_⟩⟩, fun c => ?_⟩
    · have c' := (l_le (by omega) (by omega)).mp c
      rw [pk_lDiv (by omega) (by omega) (by omega)] at e0
      rw [pk_lRem (by omega) (by omega) (by omega)] at e4
      rw [show nI T + (1 : Int32) = nI (T + 1) from nI_1 T] at e10
      subst e0 e4 e10
      have hst := fl_step hI (by omega)
      refine ⟨⟨T + 1, _, _, _, _, _, hst.1, rfl, rfl, rfl, rfl, rfl, rfl⟩, ?_⟩
      show (100 - (nI (T + 1)).toInt).toNat < (100 - (nI T).toInt).toNat
      rw [tn (n := T + 1) (by omega), eT]
      omega
    · have c' := mt (l_le (by omega) (by omega)).mpr c
      rw [fl_end hI (by omega)]
      exact hq

theorem o_n (n : Nat) : Int64.ofInt (n : Int) = lN n := Int64.ofInt_eq_ofNat
def far_ (k : Nat) : Prop := k = 0 ∨ k = 1 ∨ k = 2 ∨ k = 9
theorem s_ruleAt {k d : Nat} (hk : far_ k) (hd : d ≤ 1000000000) {Q : Int64 → Prop} (h : Q (Int64.ofInt (ra_ k d))) : wp_X7_ruleAt (nI k) (lN d) Q := by
  unfold wp_X7_ruleAt
  rcases hk with rfl | rfl | rfl | rfl
  · refine ⟨fun _ => ⟨fun c => ?_, fun c => ?_⟩, fun c => absurd c (by decide), fun c => absurd c (by decide), fun c => absurd rfl c⟩
    · have := (pk_lEQ (a := d) (b := 1) (by omega) (by omega)).mp c
      subst this
      rw [show Int64.ofInt (ra_ 0 1) = 1 from by decide] at h
      exact h
    · have := mt (pk_lEQ (a := d) (b := 1) (by omega) (by omega)).mpr c
      rw [show ra_ 0 d = 0 from if_neg this, show Int64.ofInt 0 = 0 from by decide] at h
      exact h
  · rw [show ra_ 1 d = 1 from rfl, show Int64.ofInt 1 = 1 from by decide] at h
    exact ⟨fun c => absurd c (by decide), fun _ => h, fun c => absurd c (by decide), fun _ c => absurd rfl c⟩
  · rw [show ra_ 2 d = (d : Int) from rfl, o_n] at h
    exact ⟨fun c => absurd c (by decide), fun c => absurd c (by decide), fun _ => h, fun _ _ c => absurd rfl c⟩
  · rw [show ra_ 9 d = (d : Int) * (d : Int) from rfl, Int64.ofInt_mul, o_n] at h
    exact ⟨fun c => absurd c (by decide), fun c => absurd c (by decide), fun c => absurd c (by decide), fun _ _ _ => h⟩
theorem tri_lt {m : Nat} (h : m ≤ 1000000000) : m * (m + 1) ≤ 1000000001000000000 := by
  have := Nat.mul_le_mul h (show m + 1 ≤ 1000000001 by omega)
  omega
theorem s_sq {m T : Nat} (hm : m ≤ 1000000000) (hT : T = m * (m + 1) / 2) {Q : Int64 → Prop} (h : Q (Int64.ofInt (si_ (ra_ 9) m))) : ((lN T - lN T / (3 : Int64) * (3 : Int64)) = (0 : Int64) → Q ((lN T / (3 : Int64)) * (lN (2 * m + 1)))) ∧ (¬ (lN T - lN T / (3 : Int64) * (3 : Int64)) = (0 : Int64) → Q (lN T * (lN (2 * m + 1) / (3 : Int64)))) := by
  have ht := tri_lt hm
  rw [sq_form, ← hT, o_n] at h
  rw [show (3 : Int64) = lN 3 from rfl, pk_lRem (by omega) (by omega) (by omega), pk_lDiv (by omega) (by omega) (by omega), pk_lDiv (by omega) (by omega) (by omega), lN_mul, lN_mul]
  refine ⟨fun c => ?_, fun c => ?_⟩
  · have c' := (pk_lEQ (a := T % 3) (b := 0) (by omega) (by omega)).mp c
    rw [if_pos c'] at h
    exact h
  · have c' := mt (pk_lEQ (a := T % 3) (b := 0) (by omega) (by omega)).mpr c
    rw [if_neg c'] at h
    exact h
theorem s_ruleUpTo {k m : Nat} (hk : far_ k) (hm : m ≤ 1000000000) {Q : Int64 → Prop} (h : Q (Int64.ofInt (si_ (ra_ k) m))) : wp_X7_ruleUpTo (nI k) (lN m) Q := by
  unfold wp_X7_ruleUpTo
  have ht := tri_lt hm
  have et : (lN m * (lN m + (1 : Int64))) / (2 : Int64) = lN (m * (m + 1) / 2) := by
    rw [lN_1, lN_mul, show (2 : Int64) = lN 2 from rfl, pk_lDiv (by omega) (by omega) (by omega)]
  rcases hk with rfl | rfl | rfl | rfl
  · rw [sr0] at h
    refine ⟨fun _ => ⟨fun c => ?_, fun c => ?_⟩, fun c => absurd c (by decide), fun c => absurd c (by decide), fun c => absurd rfl c⟩
    · have := (pk_lLT (a := m) (b := 1) (by omega) (by omega)).mp c
      rw [if_pos (by omega), show Int64.ofInt 0 = 0 from by decide] at h
      exact h
    · have := mt (pk_lLT (a := m) (b := 1) (by omega) (by omega)).mpr c
      rw [if_neg (by omega), show Int64.ofInt 1 = 1 from by decide] at h
      exact h
  · rw [sr1, o_n] at h
    exact ⟨fun c => absurd c (by decide), fun _ => h, fun c => absurd c (by decide), fun _ c => absurd rfl c⟩
  · rw [sr2, o_n] at h
    refine ⟨fun c => absurd c (by decide), fun c => absurd c (by decide), fun _ => ?_, fun _ _ c => absurd rfl c⟩
    rw [et]; exact h
  · refine ⟨fun c => absurd c (by decide), fun c => absurd c (by decide), fun c => absurd c (by decide), fun _ _ _ => ?_⟩
    unfold wp_X7_squaresUpTo
    intro x2 e2 x4 e4
    rw [et] at e2
    rw [show (2 : Int64) = lN 2 from rfl, lN_mul, lN_1] at e4
    subst e2 e4
    exact s_sq hm rfl h
theorem s_upTo9 {k m : Nat} (hk : far_ k) (hm : m ≤ 1000000000) {Q : Int64 → Prop} (h : Q (Int64.ofInt (si_ (ra_ k) m))) : wp_X9_upTo (nI k) (lN m) Q := by
  unfold wp_X9_upTo
  rw [lN_1]
  have key : (m + 1) * (m + 1 - 1) / 2 = m * (m + 1) / 2 := by
    rw [show m + 1 - 1 = m from rfl, Nat.mul_comm]
  have hp : ∀ {P : Int64 → Prop}, P (lN (m * (m + 1) / 2)) → wp_X9_pairs (lN (m + 1)) P := by
    intro P hP
    rw [← key] at hP
    unfold wp_X9_pairs
    have ht := tri_lt hm
    rw [show (2 : Int64) = lN 2 from rfl, pk_lRem (by omega) (by omega) (by omega), pk_lDiv (by omega) (by omega) (by omega), show (0 : Int64) = lN 0 from rfl, show (1 : Int64) = lN 1 from rfl, lN_sub (a := m + 1) (b := 1) (by omega)]
    refine ⟨fun c => ?_, fun c => ?_⟩
    · have c' := (pk_lEQ (a := (m + 1) % 2) (b := 0) (by omega) (by omega)).mp c
      rw [half_even c'] at hP
      rw [lN_mul]; exact hP
    · have c' := mt (pk_lEQ (a := (m + 1) % 2) (b := 0) (by omega) (by omega)).mpr c
      rw [half_odd (by omega)] at hP
      rw [pk_lDiv (by omega) (by omega) (by omega), lN_mul]; exact hP
  refine hp ?_
  rcases hk with rfl | rfl | rfl | rfl
  · rw [sr0] at h
    refine ⟨fun _ => ⟨fun c => ?_, fun c => ?_⟩, fun c => absurd c (by decide), fun c => absurd c (by decide), fun c => absurd rfl c⟩
    · have := (pk_lLE (a := m) (b := 0) (by omega) (by omega)).mp c
      rw [if_pos (by omega), show Int64.ofInt 0 = 0 from by decide] at h
      exact h
    · have := mt (pk_lLE (a := m) (b := 0) (by omega) (by omega)).mpr c
      rw [if_neg (by omega), show Int64.ofInt 1 = 1 from by decide] at h
      exact h
  · rw [sr1, o_n] at h
    exact ⟨fun c => absurd c (by decide), fun _ => h, fun c => absurd c (by decide), fun _ c => absurd rfl c⟩
  · rw [sr2, o_n] at h
    exact ⟨fun c => absurd c (by decide), fun c => absurd c (by decide), fun _ => h, fun _ _ c => absurd rfl c⟩
  · refine ⟨fun c => absurd c (by decide), fun c => absurd c (by decide), fun c => absurd c (by decide), fun _ _ _ => ?_⟩
    rw [show (2 : Int64) = lN 2 from rfl, lN_mul, lN_1]
    exact s_sq hm rfl h

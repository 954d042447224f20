/-- the rules 0, 1, 2 and 9 -/
def ra_ (k n : Nat) : Int := if k = 0 then (if n = 1 then 1 else 0) else if k = 1 then 1 else if k = 2 then (n : Int) else (n : Int) * (n : Int)
theorem sr0 : ∀ m, si_ (ra_ 0) m = if m = 0 then 0 else 1 := by
  intro m
  induction m with
  | zero => rfl
  | succ m ih =>
    show si_ (ra_ 0) m + (if m + 1 = 1 then 1 else 0) = _
    rw [ih]
    by_cases h : m = 0
    · subst h; rfl
    · rw [if_neg h, if_neg (by omega), if_neg (by omega)]; rfl
theorem sr1 : ∀ m, si_ (ra_ 1) m = (m : Int) := by
  intro m
  induction m with
  | zero => rfl
  | succ m ih =>
    show si_ (ra_ 1) m + 1 = _
    rw [ih]; omega
theorem sr2 : ∀ m, si_ (ra_ 2) m = ((m * (m + 1) / 2 : Nat) : Int) := by
  intro m
  induction m with
  | zero => rfl
  | succ m ih =>
    show si_ (ra_ 2) m + ((m + 1 : Nat) : Int) = _
    rw [ih]
    have e : (m + 1) * (m + 1 + 1) = m * (m + 1) + 2 * (m + 1) := by grind
    rw [e]
    omega
theorem sr9 : ∀ m, 6 * si_ (ra_ 9) m = ((m * (m + 1) * (2 * m + 1) : Nat) : Int) := by
  intro m
  induction m with
  | zero => rfl
  | succ m ih =>
    show 6 * (si_ (ra_ 9) m + ((m + 1 : Nat) : Int) * ((m + 1 : Nat) : Int)) = _
    rw [Int.mul_add, ih]
    have e : (m + 1) * (m + 1 + 1) * (2 * (m + 1) + 1) = m * (m + 1) * (2 * m + 1) + 6 * ((m + 1) * (m + 1)) := by grind
    rw [e, ← Int.natCast_mul]
    omega
theorem tri_even (m : Nat) : 2 * (m * (m + 1) / 2) = m * (m + 1) := by
  have h : m * (m + 1) % 2 = 0 := by
    rcases (by omega : m % 2 = 0 ∨ m % 2 = 1) with q | q
    · rw [Nat.mul_mod, q, Nat.zero_mul]
    · rw [Nat.mul_mod, show (m + 1) % 2 = 0 by omega, Nat.mul_zero]
  omega
/-- the sum of squares as both write it -/
theorem sq_form (m : Nat) : si_ (ra_ 9) m = (((if m * (m + 1) / 2 % 3 = 0 then m * (m + 1) / 2 / 3 * (2 * m + 1) else m * (m + 1) / 2 * ((2 * m + 1) / 3)) : Nat) : Int) := by
  have h := sr9 m
  have ht := tri_even m
  generalize hT : m * (m + 1) / 2 = T at ht ⊢
  rw [← ht] at h
  by_cases c : T % 3 = 0
  · rw [if_pos c]
    obtain ⟨k, hk⟩ : ∃ k, T = 3 * k := ⟨T / 3, by omega⟩
    rw [show T / 3 = k by omega]
    have e : 2 * T * (2 * m + 1) = 6 * (k * (2 * m + 1)) := by rw [hk]; grind
    rw [e] at h
    omega
  · rw [if_neg c]
    have hm : (2 * m + 1) % 3 = 0 := by
      rcases (by omega : m % 3 = 0 ∨ m % 3 = 1 ∨ m % 3 = 2) with q | q | q
      · exfalso
        have : (2 * T) % 3 = 0 := by rw [ht, Nat.mul_mod, q, Nat.zero_mul]
        omega
      · omega
      · exfalso
        have : (2 * T) % 3 = 0 := by rw [ht, Nat.mul_mod, show (m + 1) % 3 = 0 by omega, Nat.mul_zero]
        omega
    obtain ⟨k, hk⟩ : ∃ k, 2 * m + 1 = 3 * k := ⟨(2 * m + 1) / 3, by omega⟩
    rw [hk] at h ⊢
    rw [show 3 * k / 3 = k by omega]
    have e : 2 * T * (3 * k) = 6 * (T * k) := by grind
    rw [e] at h
    omega

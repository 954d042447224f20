/-! small facts on Int32 and Int64 -/
theorem ilt {a b : Int32} : a < b ↔ a.toInt < b.toInt := Int32.lt_iff_toInt_lt
theorem ile {a b : Int32} : a ≤ b ↔ a.toInt ≤ b.toInt := Int32.le_iff_toInt_le
theorem llt {a b : Int64} : a < b ↔ a.toInt < b.toInt := Int64.lt_iff_toInt_lt
theorem lle {a b : Int64} : a ≤ b ↔ a.toInt ≤ b.toInt := Int64.le_iff_toInt_le
theorem ib (a : Int32) : -2147483648 ≤ a.toInt ∧ a.toInt ≤ 2147483647 := by
  have h1 := Int32.le_toInt a
  have h2 := Int32.toInt_lt a
  omega
theorem lb (a : Int64) : -9223372036854775808 ≤ a.toInt ∧ a.toInt ≤ 9223372036854775807 := by
  have h1 := Int64.le_toInt a
  have h2 := Int64.toInt_lt a
  omega
theorem tn {n : Nat} (h : n < 2147483648) : (nI n).toInt = (n : Int) := nI_toInt h
theorem tl {n : Nat} (h : n < 9223372036854775808) : (lN n).toInt = (n : Int) := pk_lT h
theorem i_nat {a : Int32} (h : 0 ≤ a.toInt) : ∃ n : Nat, n < 2147483648 ∧ a = nI n ∧ a.toInt = (n : Int) := by
  have hb := ib a
  refine ⟨a.toInt.toNat, by omega, ?_, by omega⟩
  apply Int32.toInt_inj.mp
  rw [tn (by omega)]
  omega
theorem l_nat {a : Int64} (h : 0 ≤ a.toInt) : ∃ n : Nat, n < 9223372036854775808 ∧ a = lN n ∧ a.toInt = (n : Int) := by
  have hb := lb a
  refine ⟨a.toInt.toNat, by omega, ?_, by omega⟩
  apply Int64.toInt_inj.mp
  rw [tl (by omega)]
  omega
theorem i_of {a : Int32} {n : Nat} (h : a.toInt = (n : Int)) : a = nI n := by
  have hb := ib a
  apply Int32.toInt_inj.mp
  rw [tn (by omega)]
  exact h
theorem l_of {a : Int64} {n : Nat} (h : a.toInt = (n : Int)) : a = lN n := by
  have hb := lb a
  apply Int64.toInt_inj.mp
  rw [tl (by omega)]
  exact h
theorem i2l_t (a : Int32) : a.toInt64.toInt = a.toInt := Int32.toInt_toInt64 a
theorem nI_ne {a b : Nat} (ha : a < 2147483648) (hb : b < 2147483648) (h : a ≠ b) : nI a ≠ nI b := fun e => h ((nI_eq ha hb).mp e)
theorem sub1_t {k : Nat} (hk : k < 1000000000) : (nI k - (1 : Int32)).toInt = (k : Int) - 1 := pk_sub_toInt (a := k) (b := 1) (by omega) (by omega)
/-- the reference's 'in' -/
theorem s_in {a b c : Int64} {Q : Int32 → Prop} (h1 : b.toInt ≤ a.toInt → a.toInt ≤ c.toInt → Q 1) (h0 : (a.toInt < b.toInt ∨ c.toInt < a.toInt) → Q 0) : wp_X9_in a b c Q := by
  unfold wp_X9_in
  refine ⟨fun c1 => h0 (Or.inl (llt.mp c1)), fun c1 => ⟨fun c2 => h0 (Or.inr (llt.mp c2)), fun c2 => h1 ?_ ?_⟩⟩
  · have := mt llt.mpr c1; omega
  · have := mt llt.mpr c2; omega
theorem s_in32 {a b c : Int32} {Q : Int32 → Prop} (h1 : b.toInt ≤ a.toInt → a.toInt ≤ c.toInt → Q 1) (h0 : (a.toInt < b.toInt ∨ c.toInt < a.toInt) → Q 0) : wp_X9_in a.toInt64 b.toInt64 c.toInt64 Q := by
  refine s_in (fun x y => ?_) (fun x => ?_)
  · rw [i2l_t, i2l_t] at x y; exact h1 x y
  · rw [i2l_t, i2l_t, i2l_t] at x; exact h0 x
/-! the invariant between the class's state and the reference's -/
abbrev m_primes (M : MC_) : Int32 := M.1
abbrev m_prime (M : MC_) : Nat → Int32 := M.2.1
abbrev m_isNone (M : MC_) : Nat → Int32 := M.2.2.1
abbrev m_hasSpan (M : MC_) : Int32 := M.2.2.2.1
abbrev m_spanFrom (M : MC_) : Int64 := M.2.2.2.2.1
abbrev m_spanMany (M : MC_) : Int32 := M.2.2.2.2.2.1
abbrev m_least (M : MC_) : Nat → Int64 := M.2.2.2.2.2.2.1
abbrev m_greatest (M : MC_) : Nat → Int64 := M.2.2.2.2.2.2.2.1
abbrev m_isSquared (M : MC_) : Nat → Int32 := M.2.2.2.2.2.2.2.2.1
abbrev m_hasPart (M : MC_) : Int32 := M.2.2.2.2.2.2.2.2.2.1
abbrev m_parted (M : MC_) : Int64 := M.2.2.2.2.2.2.2.2.2.2.1
abbrev m_partMany (M : MC_) : Int32 := M.2.2.2.2.2.2.2.2.2.2.2.1
abbrev m_partPrime (M : MC_) : Nat → Int64 := M.2.2.2.2.2.2.2.2.2.2.2.2.1
abbrev m_partPower (M : MC_) : Nat → Int32 := M.2.2.2.2.2.2.2.2.2.2.2.2.2.1
abbrev m_rows (M : MC_) : Int32 := M.2.2.2.2.2.2.2.2.2.2.2.2.2.2.1
abbrev m_row (M : MC_) : Nat → Int64 := M.2.2.2.2.2.2.2.2.2.2.2.2.2.2.2.1
/-- the rows: how many there are, and what they tell -/
def RR_ (o : Option CR_) (rows : Int32) (row : Nat → Int64) : Prop := match o with
  | none => rows = nI 0
  | some w => ∃ k : Nat, k ≤ 16 ∧ w.2 = nI k ∧ rows = nI k ∧ ∀ r n : Nat, r < k → 1 ≤ n → n ≤ 600 → w.1 (600 * r + n - 1) = row (601 * r + n)

/-! rows by a RULE -/
def geo_ (p : Nat) : Nat → Nat
  | 0 => 1
  | k + 1 => geo_ p k * p + 1
theorem geo_s (p : Nat) : ∀ k, geo_ p (k + 1) = geo_ p k + p ^ (k + 1) := by
  intro k
  induction k with
  | zero => show 1 * p + 1 = 1 + p ^ 1; rw [Nat.pow_one]; omega
  | succ k ih =>
    show geo_ p (k + 1) * p + 1 = geo_ p (k + 1) + p ^ (k + 1 + 1)
    have e : geo_ p (k + 1) = geo_ p k * p + 1 := rfl
    rw [Nat.pow_succ p (k + 1)]
    calc geo_ p (k + 1) * p + 1 = (geo_ p k + p ^ (k + 1)) * p + 1 := by rw [ih]
      _ = geo_ p k * p + 1 + p ^ (k + 1) * p := by rw [Nat.add_mul]; omega
      _ = geo_ p (k + 1) + p ^ (k + 1) * p := by rw [← e]
def aP_ (c p k : Nat) : Int64 :=
  if c = 0 then 0 else if c = 1 then 1 else if c = 2 then lN (p ^ k) else if c = 3 then (if k = 1 then -1 else 0) else if c = 4 then lN (p ^ k) - lN (p ^ (k - 1)) else if c = 5 then lN (k + 1) else if c = 6 then lN (geo_ p k) else if c = 7 then (if k % 2 = 0 then 1 else -1) else if c = 8 then (if k = 1 then 1 else 0) else lN (p ^ (2 * k))
theorem i_lt {a b : Nat} (ha : a < 2147483648) (hb : b < 2147483648) : nI a ≤ nI b ↔ a ≤ b := nI_leI ha hb
theorem meas1 {j : Nat} (hj : j ≤ 600) : (700 - (nI (j + 1)).toInt).toNat < (700 - (nI j).toInt).toNat := by
  rw [tn (n := j + 1) (by omega), tn (n := j) (by omega)]
  omega
theorem s_X5_power {p k : Nat} (hk : k ≤ 100) {Q : Int64 → Prop} (h : Q (lN (p ^ k))) : wp_X5_power (lN p) (nI k) Q := by
  unfold wp_X5_power
  refine ⟨fun x s => ∃ j : Nat, j ≤ k ∧ x = nI j ∧ s = lN (p ^ j), fun x _ => (700 - x.toInt).toNat, ⟨0, by omega, rfl, rfl⟩, ?_⟩
  rintro x s ⟨j, hj, rfl, rfl⟩
  refine ⟨fun c => ?_, fun c x3 e3 x5 e5 => ?_⟩
  · have c' := (nI_leI (by omega) (by omega)).mp c
    have : j = k := by omega
    rw [this]; exact h
  · have c' := mt (nI_leI (a := k) (b := j) (by omega) (by omega)).mpr c
    rw [lN_mul, ← Nat.pow_succ] at e3
    rw [show nI j + (1 : Int32) = nI (j + 1) from nI_1 j] at e5
    subst e3 e5
    exact ⟨⟨j + 1, by omega, rfl, rfl⟩, meas1 (by omega)⟩
theorem s_X9_powered {p k : Nat} (hk : k ≤ 100) {Q : Int64 → Prop} (h : Q (lN (p ^ k))) : wp_X9_powered (lN p) (nI k) Q := by
  unfold wp_X9_powered
  refine ⟨fun x s => ∃ j : Nat, j ≤ k ∧ x = nI j ∧ s = lN (p ^ j), fun x _ => (700 - x.toInt).toNat, ⟨0, by omega, rfl, rfl⟩, ?_⟩
  rintro x s ⟨j, hj, rfl, rfl⟩
  refine ⟨fun c => ?_, fun c x3 e3 x5 e5 => ?_⟩
  · have c' := (nI_leI (by omega) (by omega)).mp c
    have : j = k := by omega
    rw [this]; exact h
  · have c' := mt (nI_leI (a := k) (b := j) (by omega) (by omega)).mpr c
    rw [lN_mul, ← Nat.pow_succ] at e3
    rw [show nI j + (1 : Int32) = nI (j + 1) from nI_1 j] at e5
    subst e3 e5
    exact ⟨⟨j + 1, by omega, rfl, rfl⟩, meas1 (by omega)⟩
theorem s_powersUpTo {p k : Nat} (hk : k ≤ 100) {Q : Int64 → Prop} (h : Q (lN (geo_ p k))) : wp_X5_powersUpTo (lN p) (nI k) Q := by
  unfold wp_X5_powersUpTo
  refine ⟨fun x s => ∃ j : Nat, j ≤ k ∧ x = nI j ∧ s = lN (geo_ p j), fun x _ => (700 - x.toInt).toNat, ⟨0, by omega, rfl, rfl⟩, ?_⟩
  rintro x s ⟨j, hj, rfl, rfl⟩
  refine ⟨fun c => ?_, fun c x3 e3 x5 e5 => ?_⟩
  · have c' := (nI_leI (by omega) (by omega)).mp c
    have : j = k := by omega
    rw [this]; exact h
  · have c' := mt (nI_leI (a := k) (b := j) (by omega) (by omega)).mpr c
    rw [lN_mul, lN_1] at e3
    rw [show nI j + (1 : Int32) = nI (j + 1) from nI_1 j] at e5
    subst e3 e5
    exact ⟨⟨j + 1, by omega, rfl, rfl⟩, meas1 (by omega)⟩
theorem i_eq1 {k : Nat} (hk : k ≤ 100) : nI k = (1 : Int32) ↔ k = 1 := by
  rw [show (1 : Int32) = nI 1 from rfl]
  exact nI_eq (by omega) (by omega)
theorem i_ev {k : Nat} (hk : k ≤ 100) : (nI k - nI k / (2 : Int32) * (2 : Int32)) = (0 : Int32) ↔ k % 2 = 0 := by
  rw [show (2 : Int32) = nI 2 from rfl, pk_rem (by omega) (by omega) (by omega), show (0 : Int32) = nI 0 from rfl]
  exact nI_eq (by omega) (by omega)
theorem s_atP_X5 {c p k : Nat} (hc : c ≤ 9) (h1 : 1 ≤ k) (hk : k ≤ 10) {Q : Int64 → Prop} (h : Q (aP_ c p k)) : wp_X5_atPower (nI c) (lN p) (nI k) Q := by
  unfold wp_X5_atPower
  rcases (by omega : c = 0 ∨ c = 1 ∨ c = 2 ∨ c = 3 ∨ c = 4 ∨ c = 5 ∨ c = 6 ∨ c = 7 ∨ c = 8 ∨ c = 9) with rfl | rfl | rfl | rfl | rfl | rfl | rfl | rfl | rfl | rfl
  · refine ⟨fun e => absurd e (by decide), fun e => absurd e (by decide), fun e => absurd e (by decide), fun e => absurd e (by decide), fun e => absurd e (by decide), fun e => absurd e (by decide), fun e => absurd e (by decide), fun e => absurd e (by decide), fun e => absurd e (by decide), fun _ _ _ _ _ _ _ _ _ => ?_⟩
    exact h
  · refine ⟨fun _ => ?_, fun e => absurd e (by decide), fun e => absurd e (by decide), fun e => absurd e (by decide), fun e => absurd e (by decide), fun e => absurd e (by decide), fun e => absurd e (by decide), fun e => absurd e (by decide), fun e => absurd e (by decide), fun d _ _ _ _ _ _ _ _ => absurd rfl d⟩
    exact h
  · refine ⟨fun e => absurd e (by decide), fun _ => ?_, fun e => absurd e (by decide), fun e => absurd e (by decide), fun e => absurd e (by decide), fun e => absurd e (by decide), fun e => absurd e (by decide), fun e => absurd e (by decide), fun e => absurd e (by decide), fun _ d _ _ _ _ _ _ _ => absurd rfl d⟩
    exact s_X5_power (by omega) h
  · refine ⟨fun e => absurd e (by decide), fun e => absurd e (by decide), fun _ => ?_, fun e => absurd e (by decide), fun e => absurd e (by decide), fun e => absurd e (by decide), fun e => absurd e (by decide), fun e => absurd e (by decide), fun e => absurd e (by decide), fun _ _ d _ _ _ _ _ _ => absurd rfl d⟩
    replace h : Q (if k = 1 then -1 else 0) := h
    refine ⟨fun e => ?_, fun e => ?_⟩
    · rw [if_pos ((i_eq1 (by omega)).mp e)] at h; exact h
    · rw [if_neg (fun q => e ((i_eq1 (by omega)).mpr q))] at h; exact h
  · refine ⟨fun e => absurd e (by decide), fun e => absurd e (by decide), fun e => absurd e (by decide), fun _ => ?_, fun e => absurd e (by decide), fun e => absurd e (by decide), fun e => absurd e (by decide), fun e => absurd e (by decide), fun e => absurd e (by decide), fun _ _ _ d _ _ _ _ _ => absurd rfl d⟩
    refine s_X5_power (by omega) ?_
    rw [show nI k - (1 : Int32) = nI (k - 1) from pk_sub (a := k) (b := 1) h1]
    exact s_X5_power (by omega) h
  · refine ⟨fun e => absurd e (by decide), fun e => absurd e (by decide), fun e => absurd e (by decide), fun e => absurd e (by decide), fun _ => ?_, fun e => absurd e (by decide), fun e => absurd e (by decide), fun e => absurd e (by decide), fun e => absurd e (by decide), fun _ _ _ _ d _ _ _ _ => absurd rfl d⟩
    rw [show nI k + (1 : Int32) = nI (k + 1) from nI_1 k, nI_l (by omega)]
    exact h
  · refine ⟨fun e => absurd e (by decide), fun e => absurd e (by decide), fun e => absurd e (by decide), fun e => absurd e (by decide), fun e => absurd e (by decide), fun _ => ?_, fun e => absurd e (by decide), fun e => absurd e (by decide), fun e => absurd e (by decide), fun _ _ _ _ _ d _ _ _ => absurd rfl d⟩
    exact s_powersUpTo (by omega) h
  · refine ⟨fun e => absurd e (by decide), fun e => absurd e (by decide), fun e => absurd e (by decide), fun e => absurd e (by decide), fun e => absurd e (by decide), fun e => absurd e (by decide), fun _ => ?_, fun e => absurd e (by decide), fun e => absurd e (by decide), fun _ _ _ _ _ _ d _ _ => absurd rfl d⟩
    replace h : Q (if k % 2 = 0 then 1 else -1) := h
    refine ⟨fun e => ?_, fun e => ?_⟩
    · rw [if_pos ((i_ev (by omega)).mp e)] at h; exact h
    · rw [if_neg (fun q => e ((i_ev (by omega)).mpr q))] at h; exact h
  · refine ⟨fun e => absurd e (by decide), fun e => absurd e (by decide), fun e => absurd e (by decide), fun e => absurd e (by decide), fun e => absurd e (by decide), fun e => absurd e (by decide), fun e => absurd e (by decide), fun _ => ?_, fun e => absurd e (by decide), fun _ _ _ _ _ _ _ d _ => absurd rfl d⟩
    replace h : Q (if k = 1 then 1 else 0) := h
    refine ⟨fun e => ?_, fun e => ?_⟩
    · rw [if_pos ((i_eq1 (by omega)).mp e)] at h; exact h
    · rw [if_neg (fun q => e ((i_eq1 (by omega)).mpr q))] at h; exact h
  · refine ⟨fun e => absurd e (by decide), fun e => absurd e (by decide), fun e => absurd e (by decide), fun e => absurd e (by decide), fun e => absurd e (by decide), fun e => absurd e (by decide), fun e => absurd e (by decide), fun e => absurd e (by decide), fun _ => ?_, fun _ _ _ _ _ _ _ _ d => absurd rfl d⟩
    rw [show (2 : Int32) * nI k = nI (2 * k) from pk_mul 2 k]
    exact s_X5_power (by omega) h
theorem s_atP_X9 {c p k : Nat} (hc : c ≤ 9) (h1 : 1 ≤ k) (hk : k ≤ 10) {Q : Int64 → Prop} (h : Q (aP_ c p k)) : wp_X9_atPower (nI c) (lN p) (nI k) Q := by
  unfold wp_X9_atPower
  rcases (by omega : c = 0 ∨ c = 1 ∨ c = 2 ∨ c = 3 ∨ c = 4 ∨ c = 5 ∨ c = 6 ∨ c = 7 ∨ c = 8 ∨ c = 9) with rfl | rfl | rfl | rfl | rfl | rfl | rfl | rfl | rfl | rfl
  · refine ⟨fun _ => ?_, fun e => absurd e (by decide), fun e => absurd e (by decide), fun e => absurd e (by decide), fun e => absurd e (by decide), fun e => absurd e (by decide), fun e => absurd e (by decide), fun e => absurd e (by decide), fun e => absurd e (by decide), fun d _ _ _ _ _ _ _ _ => absurd rfl d⟩
    exact h
  · refine ⟨fun e => absurd e (by decide), fun _ => ?_, fun e => absurd e (by decide), fun e => absurd e (by decide), fun e => absurd e (by decide), fun e => absurd e (by decide), fun e => absurd e (by decide), fun e => absurd e (by decide), fun e => absurd e (by decide), fun _ d _ _ _ _ _ _ _ => absurd rfl d⟩
    exact h
  · refine ⟨fun e => absurd e (by decide), fun e => absurd e (by decide), fun _ => ?_, fun e => absurd e (by decide), fun e => absurd e (by decide), fun e => absurd e (by decide), fun e => absurd e (by decide), fun e => absurd e (by decide), fun e => absurd e (by decide), fun _ _ d _ _ _ _ _ _ => absurd rfl d⟩
    exact s_X9_powered (by omega) h
  · refine ⟨fun e => absurd e (by decide), fun e => absurd e (by decide), fun e => absurd e (by decide), fun _ => ?_, fun e => absurd e (by decide), fun e => absurd e (by decide), fun e => absurd e (by decide), fun e => absurd e (by decide), fun e => absurd e (by decide), fun _ _ _ d _ _ _ _ _ => absurd rfl d⟩
    replace h : Q (if k = 1 then -1 else 0) := h
    refine ⟨fun e => ?_, fun e => ?_⟩
    · rw [if_pos ((i_eq1 (by omega)).mp e)] at h; exact h
    · rw [if_neg (fun q => e ((i_eq1 (by omega)).mpr q))] at h; exact h
  · refine ⟨fun e => absurd e (by decide), fun e => absurd e (by decide), fun e => absurd e (by decide), fun e => absurd e (by decide), fun _ => ?_, fun e => absurd e (by decide), fun e => absurd e (by decide), fun e => absurd e (by decide), fun e => absurd e (by decide), fun _ _ _ _ d _ _ _ _ => absurd rfl d⟩
    refine s_X9_powered (by omega) ?_
    rw [show nI k - (1 : Int32) = nI (k - 1) from pk_sub (a := k) (b := 1) h1]
    exact s_X9_powered (by omega) h
  · refine ⟨fun e => absurd e (by decide), fun e => absurd e (by decide), fun e => absurd e (by decide), fun e => absurd e (by decide), fun e => absurd e (by decide), fun _ => ?_, fun e => absurd e (by decide), fun e => absurd e (by decide), fun e => absurd e (by decide), fun _ _ _ _ _ d _ _ _ => absurd rfl d⟩
    rw [nI_l (by omega), lN_1]
    exact h
  · refine ⟨fun e => absurd e (by decide), fun e => absurd e (by decide), fun e => absurd e (by decide), fun e => absurd e (by decide), fun e => absurd e (by decide), fun e => absurd e (by decide), fun _ => ?_, fun e => absurd e (by decide), fun e => absurd e (by decide), fun _ _ _ _ _ _ d _ _ => absurd rfl d⟩
    refine ⟨fun x s => ∃ j : Nat, j ≤ k + 1 ∧ x = nI j ∧ s = lN (geo_ p j - p ^ j) ∧ p ^ j ≤ geo_ p j, fun x _ => (700 - x.toInt).toNat, ⟨0, by omega, rfl, rfl, Nat.le_refl 1⟩, ?_⟩
    rintro x s ⟨j, hj, rfl, rfl, hle⟩
    refine ⟨fun e => ?_, fun e => ?_⟩
    · have e' := (nI_ltI (by omega) (by omega)).mp e
      have : j = k + 1 := by omega
      subst this
      rw [geo_s, Nat.add_sub_cancel]; exact h
    · have e' := mt (nI_ltI (a := k) (b := j) (by omega) (by omega)).mpr e
      refine s_X9_powered (by omega) (fun x4 e4 x6 e6 => ?_)
      rw [lN_add, Nat.sub_add_cancel hle] at e4
      rw [show nI j + (1 : Int32) = nI (j + 1) from nI_1 j] at e6
      subst e4 e6
      refine ⟨⟨j + 1, by omega, rfl, ?_, ?_⟩, meas1 (by omega)⟩
      · rw [geo_s, Nat.add_sub_cancel]
      · rw [geo_s]; exact Nat.le_add_left _ _
  · refine ⟨fun e => absurd e (by decide), fun e => absurd e (by decide), fun e => absurd e (by decide), fun e => absurd e (by decide), fun e => absurd e (by decide), fun e => absurd e (by decide), fun e => absurd e (by decide), fun _ => ?_, fun e => absurd e (by decide), fun _ _ _ _ _ _ _ d _ => absurd rfl d⟩
    replace h : Q (if k % 2 = 0 then 1 else -1) := h
    refine ⟨fun e => ?_, fun e => ?_⟩
    · rw [if_pos ((i_ev (by omega)).mp e)] at h; exact h
    · rw [if_neg (fun q => e ((i_ev (by omega)).mpr q))] at h; exact h
  · refine ⟨fun e => absurd e (by decide), fun e => absurd e (by decide), fun e => absurd e (by decide), fun e => absurd e (by decide), fun e => absurd e (by decide), fun e => absurd e (by decide), fun e => absurd e (by decide), fun e => absurd e (by decide), fun _ => ?_, fun _ _ _ _ _ _ _ _ d => absurd rfl d⟩
    replace h : Q (if k = 1 then 1 else 0) := h
    refine ⟨fun e => ?_, fun e => ?_⟩
    · rw [if_pos ((i_eq1 (by omega)).mp e)] at h; exact h
    · rw [if_neg (fun q => e ((i_eq1 (by omega)).mpr q))] at h; exact h
  · refine ⟨fun e => absurd e (by decide), fun e => absurd e (by decide), fun e => absurd e (by decide), fun e => absurd e (by decide), fun e => absurd e (by decide), fun e => absurd e (by decide), fun e => absurd e (by decide), fun e => absurd e (by decide), fun e => absurd e (by decide), fun _ _ _ _ _ _ _ _ _ => ?_⟩
    rw [show (2 : Int32) * nI k = nI (2 * k) from pk_mul 2 k]
    exact s_X9_powered (by omega) h
/-- the least divisor above 1 -/
def LD_ (p n : Nat) : Prop := 2 ≤ p ∧ p ∣ n ∧ ∀ q, 2 ≤ q → q ∣ n → p ≤ q
theorem s_leastD {n : Nat} (h2 : 2 ≤ n) (h6 : n ≤ 600) {Q : Int32 → Prop} (h : ∀ p, LD_ p n → Q (nI p)) : wp_X5_leastDivisor (nI n) Q := by
  unfold wp_X5_leastDivisor
  refine ⟨fun x => ∃ d : Nat, 2 ≤ d ∧ d ≤ 30 ∧ x = nI d ∧ ∀ q, 2 ≤ q → q < d → ¬ q ∣ n, fun x => (700 - x.toInt).toNat, ⟨2, by omega, by omega, rfl, fun q a b => absurd b (by omega)⟩, ?_⟩
  rintro x ⟨d, hd2, hd, rfl, hq⟩
  have hdd : d * d ≤ 900 := Nat.mul_le_mul hd hd
  rw [pk_mul]
  have end_ : n < d * d → Q (nI n) := by
    intro c
    refine h n ⟨h2, Nat.dvd_refl n, fun q q2 ⟨m, hm⟩ => ?_⟩
    rcases Nat.lt_or_ge q n with z | z
    · exfalso
      have m2 : 2 ≤ m := by
        rcases Nat.lt_or_ge m 2 with y | y
        · exfalso
          rcases (by omega : m = 0 ∨ m = 1) with e | e
          · rw [e] at hm; omega
          · rw [e, Nat.mul_one] at hm; omega
        · exact y
      have a1 : d ≤ q := by
        rcases Nat.lt_or_ge q d with y | y
        · exact absurd ⟨m, hm⟩ (hq q q2 y)
        · exact y
      have a2 : d ≤ m := by
        rcases Nat.lt_or_ge m d with y | y
        · exact absurd ⟨q, by rw [hm, Nat.mul_comm]⟩ (hq m m2 y)
        · exact y
      have := Nat.mul_le_mul a1 a2
      omega
    · exact z
  refine ⟨fun c => end_ ((nI_ltI (by omega) (by omega)).mp c), fun c => ⟨fun c2 => ?_, fun c2 => ⟨nI_ne0 (by omega) (by omega), ?_⟩⟩⟩
  · have c2' : (600 : Int) < (nI d).toInt := ilt.mp c2
    rw [tn (by omega)] at c2'
    omega
  · have c' := mt (nI_ltI (a := n) (b := d * d) (by omega) (by omega)).mpr c
    have hd24 : d ≤ 24 := by
      rcases Nat.lt_or_ge 24 d with y | y
      · have := Nat.mul_le_mul (show 25 ≤ d from y) (show 25 ≤ d from y)
        omega
      · exact y
    have hml := Nat.mod_lt n (show 0 < d by omega)
    rw [pk_rem (by omega) (by omega) (by omega), show (0 : Int32) = nI 0 from rfl]
    refine ⟨fun c3 => ?_, fun c3 x e => ?_⟩
    · have c3' := (nI_eq (by omega) (by omega)).mp c3
      refine h d ⟨hd2, Nat.dvd_of_mod_eq_zero c3', fun q q2 hqn => ?_⟩
      rcases Nat.lt_or_ge q d with y | y
      · exact absurd hqn (hq q q2 y)
      · exact y
    · have c3' := mt (nI_eq (a := n % d) (b := 0) (by omega) (by omega)).mpr c3
      rw [show nI d + (1 : Int32) = nI (d + 1) from nI_1 d] at e
      subst e
      refine ⟨⟨d + 1, by omega, by omega, rfl, fun q q2 q3 hqn => ?_⟩, meas1 (by omega)⟩
      by_cases y : q = d
      · subst y
        exact c3' (Nat.mod_eq_zero_of_dvd hqn)
      · exact hq q q2 (by omega) hqn
theorem mu_uq {p k t r s : Nat} (hp : 0 < p) (h : p ^ k * r = p ^ t * s) (hr : ¬ p ∣ r) (hs : ¬ p ∣ s) : k = t ∧ r = s := by
  have key : ∀ {k t r s : Nat}, p ^ k * r = p ^ t * s → ¬ p ∣ r → k < t → False := by
    intro k t r s h hr hlt
    have e : t = k + (t - k - 1 + 1) := by omega
    rw [e, Nat.pow_add, Nat.mul_assoc] at h
    have h2 := Nat.eq_of_mul_eq_mul_left (Nat.pow_pos hp) h
    refine hr ⟨p ^ (t - k - 1) * s, ?_⟩
    rw [h2, Nat.pow_succ, Nat.mul_comm (p ^ (t - k - 1)) p, Nat.mul_assoc]
  rcases Nat.lt_trichotomy k t with c | c | c
  · exact (key h hr c).elim
  · subst c
    exact ⟨rfl, Nat.eq_of_mul_eq_mul_left (Nat.pow_pos hp) h⟩
  · exact (key h.symm hs c).elim
/-- a row by a rule, told by its lesser numbers -/
def rl_ (c : Nat) (w : Nat → Int64) (m : Nat) : Prop := ∃ p t r, LD_ p m ∧ m = p ^ t * r ∧ ¬ p ∣ r ∧ w m = aP_ c p t * w r
theorem two_pow_le {p t n : Nat} (hp : 2 ≤ p) (h : p ^ t ≤ n) (hn : n ≤ 1000) : t ≤ 9 := by
  rcases Nat.lt_or_ge 9 t with y | y
  · exfalso
    have h1 : 2 ^ 10 ≤ 2 ^ t := Nat.pow_le_pow_right (by omega) y
    have h2 : 2 ^ t ≤ p ^ t := Nat.pow_le_pow_left hp t
    have : (2 : Nat) ^ 10 = 1024 := by decide
    omega
  · exact y
theorem s_fillRule {v : Nat → Int64} {k c : Nat} (hk : k < 16) (hc : c ≤ 9) {Q : (Nat → Int64) → Prop} (h : ∀ v' w, rw_ v v' k w → w 1 = 1 → (∀ m, 2 ≤ m → m ≤ 600 → rl_ c w m) → Q v') : wp_X5_fillByRule v (nI k) (nI c) Q := by
  unfold wp_X5_fillByRule
  refine s_put (n := 1) hk (by omega) (by omega) ?_
  refine ⟨fun x f => ∃ n : Nat, 1 ≤ n ∧ n ≤ 600 ∧ x = nI (n + 1) ∧ f (600 * k + 1 - 1) = 1 ∧ (∀ m, 2 ≤ m → m ≤ n → rl_ c (fun j => f (600 * k + j - 1)) m) ∧ ∀ i, (i < 600 * k ∨ 600 * k + 600 ≤ i) → f i = v i, fun x _ => (700 - x.toInt).toNat, ⟨1, by omega, by omega, rfl, upL_same, fun m a b => absurd b (by omega), fun i hi => upL_ne (by omega)⟩, ?_⟩
  rintro x f ⟨n, hn1, hn, rfl, h0, h1, h2⟩
  have en := tn (n := n + 1) (by omega)
  refine ⟨fun c2 => ?_, fun c2 => ?_⟩
  · have c' : (600 : Int) < (nI (n + 1)).toInt := ilt.mp c2
    have : n = 600 := by omega
    subst this
    exact h f (fun j => f (600 * k + j - 1)) ⟨fun _ _ _ => rfl, h2⟩ h0 h1
  · have c' : ¬ (600 : Int) < (nI (n + 1)).toInt := fun q => c2 (ilt.mpr q)
    refine s_leastD (n := n + 1) (by omega) (by omega) (fun p hp => ?_)
    have hp6 : p ≤ 600 := by
      have := hp.2.2 (n + 1) (by omega) (Nat.dvd_refl _)
      omega
    have hp2 := hp.1
    -- what follows the inner loop
    have fin : ∀ (T r : Nat), n + 1 = p ^ T * r → ¬ p ∣ r → wp_X5_atPower (nI c) ((nI p).toInt64) (nI T) (fun r_7 => wp_X5_look f (nI k) (nI r) (fun r_8 => wp_X5_put f (nI k) (nI (n + 1)) (r_7 * r_8) (fun o_9 => (∀ x3_10 : Int32, x3_10 = nI (n + 1) + (1 : Int32) → ((∃ n : Nat, 1 ≤ n ∧ n ≤ 600 ∧ x3_10 = nI (n + 1) ∧ o_9 (600 * k + 1 - 1) = 1 ∧ (∀ m, 2 ≤ m → m ≤ n → rl_ c (fun j => o_9 (600 * k + j - 1)) m) ∧ ∀ i, (i < 600 * k ∨ 600 * k + 600 ≤ i) → o_9 i = v i) ∧ (700 - x3_10.toInt).toNat < (700 - (nI (n + 1)).toInt).toNat))))) := by
      intro T r hT hr
      have hT0 : 1 ≤ T := by
        rcases Nat.eq_zero_or_pos T with z | z
        · subst z
          rw [Nat.pow_zero, Nat.one_mul] at hT
          rw [← hT] at hr
          exact absurd hp.2.1 hr
        · exact z
      have hr1 : 1 ≤ r := by
        rcases Nat.eq_zero_or_pos r with z | z
        · subst z; omega
        · exact z
      have hpT : p ^ T ≤ n + 1 := by
        have := Nat.mul_le_mul_left (p ^ T) hr1
        omega
      have hT9 := two_pow_le hp2 hpT (by omega)
      have hpp : 2 ≤ p ^ T := by
        have : 2 ^ 1 ≤ 2 ^ T := Nat.pow_le_pow_right (by omega) hT0
        have h2 : 2 ^ T ≤ p ^ T := Nat.pow_le_pow_left hp2 T
        omega
      have hrn : r + r ≤ n + 1 := by
        have := Nat.mul_le_mul_right r hpp
        omega
      rw [nI_l (by omega)]
      refine s_atP_X5 hc hT0 (by omega) ?_
      refine s_look hk hr1 (by omega) ?_
      refine s_put hk (by omega) (by omega) (fun x3 e3 => ?_)
      rw [show nI (n + 1) + (1 : Int32) = nI (n + 1 + 1) from nI_1 (n + 1)] at e3
      subst e3
      refine ⟨⟨n + 1, by omega, by omega, rfl, ?_, fun m m1 m2 => ?_, fun i hi => ?_⟩, meas7 (by omega)⟩
      · rw [upL_ne (by omega)]; exact h0
      · by_cases q : m = n + 1
        · subst q
          refine ⟨p, T, r, hp, hT, hr, ?_⟩
          show vp_updL f (600 * k + (n + 1) - 1) (aP_ c p T * f (600 * k + r - 1)) (600 * k + (n + 1) - 1) = aP_ c p T * vp_updL f (600 * k + (n + 1) - 1) (aP_ c p T * f (600 * k + r - 1)) (600 * k + r - 1)
          rw [upL_same, upL_ne (by omega)]
        · obtain ⟨p', t', r', q1, q2, q3, q4⟩ := h1 m m1 (by omega)
          have hr' : r' ≤ m := by
            have := Nat.mul_le_mul_right r' (show 1 ≤ p' ^ t' from Nat.pow_pos (by have := q1.1; omega))
            omega
          have hr'' : 1 ≤ r' := by
            rcases Nat.eq_zero_or_pos r' with z | z
            · subst z; omega
            · exact z
          refine ⟨p', t', r', q1, q2, q3, ?_⟩
          show vp_updL f (600 * k + (n + 1) - 1) _ (600 * k + m - 1) = aP_ c p' t' * vp_updL f (600 * k + (n + 1) - 1) _ (600 * k + r' - 1)
          rw [upL_ne (by omega), upL_ne (by omega)]
          exact q4
      · rw [upL_ne (by omega)]; exact h2 i hi
    refine ⟨fun x y z => ∃ T r : Nat, x = nI T ∧ y = nI T ∧ z = nI r ∧ n + 1 = p ^ T * r, fun x _ _ => (700 - x.toInt).toNat, ⟨0, n + 1, rfl, rfl, rfl, by rw [Nat.pow_zero, Nat.one_mul]⟩, ?_⟩
    rintro x y z ⟨T, r, rfl, rfl, rfl, hT⟩
    have hr1 : 1 ≤ r := by
      rcases Nat.eq_zero_or_pos r with z | z
      · subst z; omega
      · exact z
    have hpT : p ^ T ≤ n + 1 := by
      have := Nat.mul_le_mul_left (p ^ T) hr1
      omega
    have hT9 := two_pow_le hp2 hpT (by omega)
    have hrn : r ≤ n + 1 := by
      have := Nat.mul_le_mul_right r (show 1 ≤ p ^ T from Nat.pow_pos (by omega))
      omega
    have hml := Nat.mod_lt r (show 0 < p by omega)
    refine ⟨fun d => ?_, fun d => ⟨fun d2 => ?_, fun d2 => ⟨nI_ne0 (by omega) (by omega), ?_⟩⟩⟩
    · have d' : (10 : Int) ≤ (nI T).toInt := ile.mp d
      rw [tn (by omega)] at d'
      omega
    · have d' : (nI p).toInt ≤ (1 : Int) := ile.mp d2
      rw [tn (by omega)] at d'
      omega
    · rw [pk_rem (by omega) (by omega) (by omega), pk_div (by omega) (by omega) (by omega), show (0 : Int32) = nI 0 from rfl]
      refine ⟨fun d3 => ⟨nI_ne0 (by omega) (by omega), fun x5 e5 x6 e6 x7 e7 => ?_⟩, fun d3 => ?_⟩
      · have d3' := (nI_eq (by omega) (by omega)).mp d3
        rw [show nI T + (1 : Int32) = nI (T + 1) from nI_1 T] at e6 e7
        subst e5 e6 e7
        refine ⟨⟨T + 1, r / p, rfl, rfl, rfl, ?_⟩, meas1 (by omega)⟩
        have e := Nat.div_add_mod r p
        rw [d3', Nat.add_zero] at e
        rw [Nat.pow_succ, Nat.mul_assoc, e]; exact hT
      · have d3' := mt (nI_eq (a := r % p) (b := 0) (by omega) (by omega)).mpr d3
        exact fin T r hT (fun q => d3' (Nat.mod_eq_zero_of_dvd q))
theorem s_byRule {c n : Nat} (hc : c ≤ 9) (h1 : 1 ≤ n) (h6 : n ≤ 600) {W : Nat → Int64} (hW1 : W 1 = 1) (hW : ∀ m, 2 ≤ m → m ≤ 600 → rl_ c W m) {Q : Int64 → Prop} (h : Q (W n)) : wp_X9_byRule (nI c) (nI n) Q := by
  unfold wp_X9_byRule
  refine ⟨fun x y z => ∃ P R : Nat, 2 ≤ P ∧ P ≤ 601 ∧ 1 ≤ R ∧ R ≤ 600 ∧ x = nI P ∧ y = nI R ∧ (∀ q, 2 ≤ q → q ∣ R → P ≤ q) ∧ z * W R = W n, fun x _ _ => (700 - x.toInt).toNat, ⟨2, n, by omega, by omega, h1, h6, rfl, rfl, fun q a _ => a, Int64.one_mul _⟩, ?_⟩
  rintro x y z ⟨P, R, hP2, hP, hR1, hR, rfl, rfl, hq, hz⟩
  refine ⟨fun d => ?_, fun d => ?_⟩
  · have d' := (nI_ltI (by omega) (by omega)).mp d
    have hR' : R = 1 := by
      rcases Nat.lt_or_ge R 2 with y | y
      · omega
      · have := hq R y (Nat.dvd_refl R)
        omega
    rw [hR', hW1, Int64.mul_one] at hz
    rw [hz]; exact h
  · have d' := mt (nI_ltI (a := R) (b := P) (by omega) (by omega)).mpr d
    refine ⟨fun x y => ∃ T r : Nat, x = nI T ∧ y = nI r ∧ R = P ^ T * r, fun _ y => y.toInt.toNat, ⟨0, R, rfl, rfl, by rw [Nat.pow_zero, Nat.one_mul]⟩, ?_⟩
    rintro x y ⟨T, r, rfl, rfl, hT⟩
    have hr1 : 1 ≤ r := by
      rcases Nat.eq_zero_or_pos r with z | z
      · subst z; omega
      · exact z
    have hpT : P ^ T ≤ R := by
      have := Nat.mul_le_mul_left (P ^ T) hr1
      omega
    have hT9 := two_pow_le hP2 hpT (by omega)
    have hrn : r ≤ R := by
      have := Nat.mul_le_mul_right r (show 1 ≤ P ^ T from Nat.pow_pos (by omega))
      omega
    have hml := Nat.mod_lt r (show 0 < P by omega)
    refine ⟨nI_ne0 (by omega) (by omega), ?_⟩
    rw [pk_rem (by omega) (by omega) (by omega), pk_div (by omega) (by omega) (by omega)]
    refine ⟨fun d3 => ⟨nI_ne0 (by omega) (by omega), fun x4 e4 x6 e6 => ?_⟩, fun d3 => ?_⟩
    · have d3' := (nI_eq (a := r % P) (b := 0) (by omega) (by omega)).mp d3
      rw [show nI T + (1 : Int32) = nI (T + 1) from nI_1 T] at e6
      subst e4 e6
      have e := Nat.div_add_mod r P
      rw [d3', Nat.add_zero] at e
      refine ⟨⟨T + 1, r / P, rfl, rfl, ?_⟩, ?_⟩
      · rw [Nat.pow_succ, Nat.mul_assoc, e]; exact hT
      · show (nI (r / P)).toInt.toNat < (nI r).toInt.toNat
        have hlt : r / P < r := Nat.div_lt_self (by omega) (by omega)
        rw [tn (by omega), tn (by omega)]
        omega
    · have d3' := mt (nI_eq (a := r % P) (b := 0) (by omega) (by omega)).mpr d3
      have hnr : ¬ P ∣ r := fun q => d3' (Nat.mod_eq_zero_of_dvd q)
      have hq' : ∀ q, 2 ≤ q → q ∣ r → P + 1 ≤ q := by
        intro q q2 q3
        have a := hq q q2 (Nat.dvd_trans q3 ⟨P ^ T, by rw [hT, Nat.mul_comm]⟩)
        by_cases y : q = P
        · subst y; exact absurd q3 hnr
        · omega
      refine ⟨fun d4 x5 e5 => ?_, fun d4 => ?_⟩
      · have d4' := (nI_leI (a := T) (b := 0) (by omega) (by omega)).mp d4
        have : T = 0 := by omega
        subst this
        rw [Nat.pow_zero, Nat.one_mul] at hT
        subst hT
        rw [show nI P + (1 : Int32) = nI (P + 1) from nI_1 P] at e5
        subst e5
        exact ⟨⟨P + 1, R, by omega, by omega, hR1, hR, rfl, rfl, hq', hz⟩, meas1 (by omega)⟩
      · have d4' := mt (nI_leI (a := T) (b := 0) (by omega) (by omega)).mpr d4
        rw [nI_l (by omega)]
        refine s_atP_X9 hc (by omega) (by omega) (fun x2 e2 x5 e5 => ?_)
        rw [show nI P + (1 : Int32) = nI (P + 1) from nI_1 P] at e5
        subst e2 e5
        refine ⟨⟨P + 1, r, by omega, by omega, hr1, by omega, rfl, rfl, hq', ?_⟩, meas1 (by omega)⟩
        have hPR : P ∣ R := by
          obtain ⟨t, rfl⟩ : ∃ t, T = t + 1 := ⟨T - 1, by omega⟩
          exact ⟨P ^ t * r, by rw [hT, Nat.pow_succ, Nat.mul_comm (P ^ t) P, Nat.mul_assoc]⟩
        obtain ⟨p', t', r', q1, q2, q3, q4⟩ := hW R (by omega) hR
        have ep : p' = P := by
          have a := q1.2.2 P hP2 hPR
          have b := hq p' q1.1 q1.2.1
          omega
        subst ep
        obtain ⟨a1, a2⟩ := mu_uq (by omega) (q2.symm.trans hT) q3 hnr
        subst a1 a2
        rw [Int64.mul_assoc, ← q4]; exact hz
theorem s_rule9 {row : Nat → Int64} {k c : Nat} (hk : k ≤ 16) (hc : c ≤ 9) {W : Nat → Int64} (hW1 : k < 16 → W 1 = 1) (hW : k < 16 → ∀ m, 2 ≤ m → m ≤ 600 → rl_ c W m) {Q : Int32 → Int32 → (Nat → Int64) → Prop} (hf : k = 16 → Q (-1) (nI k) row) (hg : k < 16 → ∀ row', rw9_ row row' k W → Q (nI k) (nI (k + 1)) row') : wp_X9_rule (nI k) row (nI c) Q := by
  unfold wp_X9_rule
  refine s_in (fun _ _ => ⟨fun c => absurd c (by decide), fun _ => ?_⟩) (fun a => ?_)
  rotate_left
  · rw [i2l_t, tn (by omega)] at a
    have a' : (c : Int) < 0 ∨ (9 : Int) < (c : Int) := a
    omega
  refine ⟨fun d => hf ((k_ne16 hk).mp d), fun d => ?_⟩
  have hk2 : k < 16 := by
    have := mt (k_ne16 hk).mpr d
    omega
  refine ⟨fun x f => ∃ n : Nat, n ≤ 600 ∧ x = nI (n + 1) ∧ (∀ m, 1 ≤ m → m ≤ n → f (601 * k + m) = W m) ∧ ∀ i, i < 601 * k → f i = row i, fun x _ => (700 - x.toInt).toNat, ⟨0, by omega, rfl, fun m h1 h2 => absurd h2 (by omega), fun i _ => rfl⟩, ?_⟩
  rintro x f ⟨n, hn, rfl, h1, h2⟩
  have en := tn (n := n + 1) (by omega)
  refine ⟨fun d y hy => ?_, fun d => ?_⟩
  · have c' : (600 : Int) < (nI (n + 1)).toInt := ilt.mp d
    rw [show nI k + (1 : Int32) = nI (k + 1) from nI_1 k] at hy
    subst hy
    rw [show nI (k + 1) - (1 : Int32) = nI k from nI_pred k]
    exact hg hk2 f ⟨fun m m1 m2 => h1 m m1 (by omega), h2⟩
  · have c' : ¬ (600 : Int) < (nI (n + 1)).toInt := fun q => d (ilt.mpr q)
    refine s_byRule hc (by omega) (by omega) (hW1 hk2) (hW hk2) ?_
    rw [ix601, nI_clamp (by omega)]
    refine ⟨vp_in_nI (by omega) (by omega), fun x3 e3 => ?_⟩
    rw [show nI (n + 1) + (1 : Int32) = nI (n + 1 + 1) from nI_1 (n + 1)] at e3
    subst e3
    refine ⟨⟨n + 1, by omega, rfl, fun m m1 m2 => ?_, fun i hi => ?_⟩, meas7 (by omega)⟩
    · by_cases q : m = n + 1
      · rw [q, upL_same]
      · rw [upL_ne (by omega)]; exact h1 m m1 (by omega)
    · rw [upL_ne (by omega)]; exact h2 i hi
theorem s_rule9N {rows : Int32} {row : Nat → Int64} {p : Int32} (h : p.toInt < 0 ∨ 9 < p.toInt) {Q : Int32 → Int32 → (Nat → Int64) → Prop} (hf : Q (-1) rows row) : wp_X9_rule rows row p Q := by
  unfold wp_X9_rule
  refine s_in (fun a b => ?_) (fun _ => ⟨fun _ => hf, fun c => absurd rfl c⟩)
  rw [i2l_t] at a b
  have a' : (0 : Int) ≤ p.toInt := a
  have b' : p.toInt ≤ (9 : Int) := b
  omega
theorem t_rule {Inv : XC_ → MC_ → Prop} (hr : HR Inv) (hu : UR Inv) : st_rule Inv := by
  rintro ⟨oP, oS, oT, oU, oG, oR⟩ ⟨m0, m1, m2, m3, m4, m5, m6, m7, m8, m9, m10, m11, m12, m13, m14, m15, m16, m17, m18⟩ p1 hI
  have hR := hr _ _ hI
  by_cases hp : p1.toInt < 0 ∨ 9 < p1.toInt
  · refine ⟨0, 0, by omega, by omega, ?_⟩
    rcases oR with _ | ⟨v, mm⟩
    · unfold wpx_rule
      dsimp only
      unfold wp_X8_rule_c0
      refine ⟨fun _ => ⟨le00, le00, s_rule9N hp ⟨rfl, hI⟩⟩, fun c => ⟨fun d => ?_, fun _ => ⟨le00, le00, s_rule9N hp ⟨rfl, hI⟩⟩⟩⟩
      have c' : ¬ p1.toInt < 0 := fun q => c (ilt.mpr q)
      have d' : p1.toInt < (10 : Int) := ilt.mp d
      omega
    · unfold wpx_rule
      dsimp only
      refine ⟨rfl, rfl, ?_⟩
      unfold wp_X8_rule_c1
      refine ⟨fun _ => ⟨cc_R, cs_R, s_rule9N hp ⟨rfl, hI⟩⟩, fun c => ⟨fun d => ?_, fun _ => ⟨cc_R, cs_R, s_rule9N hp ⟨rfl, hI⟩⟩⟩⟩
      have c' : ¬ p1.toInt < 0 := fun q => c (ilt.mpr q)
      have d' : p1.toInt < (10 : Int) := ilt.mp d
      omega
  · obtain ⟨c, hc, rfl⟩ : ∃ c : Nat, c ≤ 9 ∧ p1 = nI c := by
      obtain ⟨n, a, b, e⟩ := i_nat (a := p1) (by omega)
      exact ⟨n, by omega, b⟩
    have ec := tn (n := c) (by omega)
    rcases oR with _ | ⟨v, mm⟩
    · obtain rfl : m14 = nI 0 := hR
      refine ⟨2, 9602, by omega, by omega, ?_⟩
      unfold wpx_rule
      dsimp only
      unfold wp_X8_rule_c0
      refine ⟨fun d => ?_, fun _ => ⟨fun _ => ⟨by omega, by omega, ?_⟩, fun d => ?_⟩⟩
      · have d' : (nI c).toInt < 0 := ilt.mp d
        omega
      · unfold wp_X8_newRow_c0 wp_X5_init
        refine s_addZeros (k := 0) (by omega) (fun c => absurd c (by omega)) (fun _ v' hz => ⟨fun d => absurd d (by decide), fun _ => ?_⟩)
        refine s_fillRule (by omega) hc (fun v2 w h2 hw1 hw => ⟨cc_RN, cs_RN, ?_⟩)
        exact s_rule9 (k := 0) (by omega) hc (fun _ => hw1) (fun _ => hw) (fun d => absurd d (by omega)) (fun _ row' h3 => ⟨rfl, hu _ _ _ _ _ _ _ _ _ _ _ _ _ _ _ _ _ _ _ _ _ _ _ _ _ _ _ _ hI (RR_add (v := v') (by omega) (fun r n a => absurd a (Nat.not_lt_zero r)) h2 h3)⟩)
      · have d' : ¬ (nI c).toInt < (10 : Int) := fun q => d (ilt.mpr q)
        omega
    · obtain ⟨k, hk, e1, e2, hv⟩ := hR
      dsimp only at e1 e2 hv
      subst e1 e2
      have hv : ∀ r n : Nat, r < k → 1 ≤ n → n ≤ 600 → v (600 * r + n - 1) = m15 (601 * r + n) := hv
      refine ⟨0, 0, by omega, by omega, ?_⟩
      unfold wpx_rule
      dsimp only
      refine ⟨rfl, rfl, ?_⟩
      unfold wp_X8_rule_c1
      refine ⟨fun d => ?_, fun _ => ⟨fun _ => ?_, fun d => ?_⟩⟩
      · have d' : (nI c).toInt < 0 := ilt.mp d
        omega
      · unfold wp_X8_newRow_c1
        refine s_addZeros hk (fun d => ⟨fun _ => ⟨cc_R, cs_R, ?_⟩, fun d => absurd rfl d⟩) (fun hk2 v' hz => ⟨fun d => absurd d (m1_ne hk), fun _ => ?_⟩)
        · exact s_rule9 (W := fun _ => 1) hk hc (fun q => absurd q (by omega)) (fun q => absurd q (by omega)) (fun _ => ⟨rfl, hI⟩) (fun q => absurd q (by omega))
        · have hva' : ∀ r n : Nat, r < k → 1 ≤ n → n ≤ 600 → v' (600 * r + n - 1) = v (600 * r + n - 1) := fun r n x y z => hz.2 _ (by omega)
          refine s_fillRule hk2 hc (fun v2 w h2 hw1 hw => ⟨cc_R, cs_R, ?_⟩)
          exact s_rule9 hk hc (fun _ => hw1) (fun _ => hw) (fun d => absurd d (by omega)) (fun _ row' h3 => ⟨rfl, hu _ _ _ _ _ _ _ _ _ _ _ _ _ _ _ _ _ _ _ _ _ _ _ _ _ _ _ _ hI (RR_add hk2 (v := v') (fun r n x y z => (hva' r n x y z).trans (hv r n x y z)) h2 h3)⟩)
      · have d' : ¬ (nI c).toInt < (10 : Int) := fun q => d (ilt.mpr q)
        omega

/-! primes of Nat, by hand: no library of number theory is here -/
def isP (n : Nat) : Prop := 2 ≤ n ∧ ∀ d, d ∣ n → d = 1 ∨ d = n
theorem isP_2 : isP 2 := by
  refine ⟨Nat.le_refl 2, fun d hd => ?_⟩
  have h1 := Nat.le_of_dvd (by omega) hd
  have h2 := Nat.pos_of_dvd_of_pos hd (by omega)
  omega
theorem ex_pf : ∀ n, 2 ≤ n → ∃ p, isP p ∧ p ∣ n := by
  intro n
  induction n using Nat.strongRecOn with
  | ind n ih =>
    intro h
    by_cases hp : isP n
    · exact ⟨n, hp, Nat.dvd_refl n⟩
    · have : ∃ d, d ∣ n ∧ d ≠ 1 ∧ d ≠ n := by
        apply Classical.byContradiction
        intro hc
        apply hp
        refine ⟨h, fun d hd => ?_⟩
        apply Classical.byContradiction
        intro h2
        exact hc ⟨d, hd, fun e => h2 (Or.inl e), fun e => h2 (Or.inr e)⟩
      obtain ⟨d, hd, h1, h2⟩ := this
      have hle := Nat.le_of_dvd (by omega) hd
      have hpos := Nat.pos_of_dvd_of_pos hd (by omega)
      obtain ⟨p, hp1, hp2⟩ := ih d (by omega) (by omega)
      exact ⟨p, hp1, Nat.dvd_trans hp2 hd⟩
/-- the least divisor above 1 is a prime -/
theorem ex_lpf (n : Nat) (h : 2 ≤ n) : ∃ p, isP p ∧ p ∣ n ∧ ∀ q, 2 ≤ q → q ∣ n → p ≤ q := by
  obtain ⟨p, ⟨hp1, hp2⟩, hl⟩ := pk_least (fun k => 2 ≤ k ∧ k ∣ n) ⟨n, h, Nat.dvd_refl n⟩
  refine ⟨p, ⟨hp1, fun d hd => ?_⟩, hp2, fun q h1 h2 => ?_⟩
  · have hle := Nat.le_of_dvd (by omega) hd
    have hpos := Nat.pos_of_dvd_of_pos hd (by omega)
    by_cases e : d = 1
    · exact Or.inl e
    · by_cases e2 : d < p
      · exact absurd ⟨by omega, Nat.dvd_trans hd hp2⟩ (hl d e2)
      · exact Or.inr (by omega)
  · by_cases e : q < p
    · exact absurd ⟨h1, h2⟩ (hl q e)
    · omega
/-- a composite number has a prime divisor up to its root -/
theorem comp_small (n : Nat) (h : 2 ≤ n) (hc : ¬ isP n) : ∃ p, isP p ∧ p ∣ n ∧ p * p ≤ n := by
  obtain ⟨p, hp, ⟨m, hm⟩, hl⟩ := ex_lpf n h
  refine ⟨p, hp, ⟨m, hm⟩, ?_⟩
  have hm2 : 2 ≤ m := by
    rcases Nat.lt_or_ge m 2 with q | q
    · exfalso
      rcases (by omega : m = 0 ∨ m = 1) with e | e
      · rw [e] at hm; omega
      · rw [e, Nat.mul_one] at hm; rw [hm] at hc; exact hc hp
    · exact q
  have hle := hl m hm2 ⟨p, by rw [hm, Nat.mul_comm]⟩
  have := Nat.mul_le_mul_left p hle
  omega
theorem isP_dvd {p q : Nat} (hp : isP p) (hq : isP q) (h : p ∣ q) : p = q := by
  rcases hq.2 p h with e | e
  · have := hp.1; omega
  · exact e
noncomputable def cntP : Nat → Nat
  | 0 => 0
  | n + 1 => cntP n + @ite Nat (isP n) (Classical.propDecidable _) 1 0
theorem cntP_1 {n : Nat} (h : isP n) : cntP (n + 1) = cntP n + 1 := by
  show cntP n + @ite Nat (isP n) (Classical.propDecidable _) 1 0 = _
  rw [if_pos h]
theorem cntP_0 {n : Nat} (h : ¬ isP n) : cntP (n + 1) = cntP n := by
  show cntP n + @ite Nat (isP n) (Classical.propDecidable _) 1 0 = _
  rw [if_neg h]; rfl
theorem cntP_step (n : Nat) : cntP n ≤ cntP (n + 1) ∧ cntP (n + 1) ≤ cntP n + 1 := by
  by_cases h : isP n
  · rw [cntP_1 h]; omega
  · rw [cntP_0 h]; omega
theorem cntP_mono {a b : Nat} (h : a ≤ b) : cntP a ≤ cntP b := by
  induction b with
  | zero => have : a = 0 := by omega
            rw [this]; exact Nat.le_refl _
  | succ b ih =>
    rcases Nat.lt_or_ge a (b + 1) with q | q
    · have := ih (by omega)
      have := cntP_step b
      omega
    · have : a = b + 1 := by omega
      rw [this]; exact Nat.le_refl _
theorem cntP_lt {p q : Nat} (hp : isP p) (h : p < q) : cntP p < cntP q := by
  have h1 := cntP_1 hp
  have h2 := cntP_mono (a := p + 1) (b := q) h
  omega
theorem cntP_inj {p q : Nat} (hp : isP p) (hq : isP q) (h : cntP p = cntP q) : p = q := by
  rcases Nat.lt_trichotomy p q with c | c | c
  · have := cntP_lt hp c; omega
  · exact c
  · have := cntP_lt hq c; omega
theorem cntP_surj : ∀ n i, i < cntP n → ∃ p, isP p ∧ p < n ∧ cntP p = i := by
  intro n
  induction n with
  | zero => intro i h; exact absurd h (Nat.not_lt_zero _)
  | succ n ih =>
    intro i h
    by_cases hp : isP n
    · rw [cntP_1 hp] at h
      rcases Nat.lt_or_ge i (cntP n) with q | q
      · obtain ⟨p, a, b, c⟩ := ih i q
        exact ⟨p, a, by omega, c⟩
      · exact ⟨n, hp, by omega, by omega⟩
    · rw [cntP_0 hp] at h
      obtain ⟨p, a, b, c⟩ := ih i h
      exact ⟨p, a, by omega, c⟩
theorem cntP_2 : cntP 2 = 0 := by
  have h0 : ¬ isP 0 := fun h => by have := h.1; omega
  have h1 : ¬ isP 1 := fun h => by have := h.1; omega
  rw [show (2 : Nat) = 1 + 1 from rfl, cntP_0 h1, show (1 : Nat) = 0 + 1 from rfl, cntP_0 h0]
  rfl
/-! how many primes there are up to 100000, by the kernel -/
def tp_ : List Nat := [2, 3, 5, 7, 11, 13, 17, 19, 23, 29, 31, 37, 41, 43, 47, 53, 59, 61, 67, 71, 73, 79, 83, 89, 97, 101, 103, 107, 109, 113, 127, 131, 137, 139, 149, 151, 157, 163, 167, 173, 179, 181, 191, 193, 197, 199, 211, 223, 227, 229, 233, 239, 241, 251, 257, 263, 269, 271, 277, 281, 283, 293, 307, 311, 313]
def nd_ (n : Nat) : List Nat → Bool
  | [] => true
  | p :: ps => match Nat.beq (n % p) 0 with
    | true => Nat.beq n p
    | false => nd_ n ps
def cb_ (a : Nat) : Nat → Nat
  | 0 => match nd_ a tp_ with | true => 1 | false => 0
  | k + 1 => cb_ a k + cb_ (a + 2 ^ k) k
theorem nd_of {n : Nat} (h : isP n) : ∀ l : List Nat, (∀ p ∈ l, 2 ≤ p) → nd_ n l = true := by
  intro l
  induction l with
  | nil => intro _; rfl
  | cons p ps ih =>
    intro hl
    show (match Nat.beq (n % p) 0 with | true => Nat.beq n p | false => nd_ n ps) = true
    cases hb : Nat.beq (n % p) 0 with
    | true =>
      show Nat.beq n p = true
      have hd : p ∣ n := Nat.dvd_of_mod_eq_zero (Nat.eq_of_beq_eq_true hb)
      have h2 := hl p List.mem_cons_self
      rcases h.2 p hd with e | e
      · omega
      · rw [e]; exact Nat.beq_refl n
    | false => exact ih (fun q hq => hl q (List.mem_cons_of_mem _ hq))
theorem tp_2 : ∀ p ∈ tp_, 2 ≤ p := by decide +kernel
theorem cb_le : ∀ k a, cntP (a + 2 ^ k) ≤ cntP a + cb_ a k := by
  intro k
  induction k with
  | zero =>
    intro a
    show cntP (a + 1) ≤ cntP a + (match nd_ a tp_ with | true => 1 | false => 0)
    by_cases h : isP a
    · rw [cntP_1 h, nd_of h tp_ tp_2]; exact Nat.le_refl _
    · rw [cntP_0 h]; omega
  | succ k ih =>
    intro a
    have h1 := ih a
    have h2 := ih (a + 2 ^ k)
    show _ ≤ cntP a + (cb_ a k + cb_ (a + 2 ^ k) k)
    have e : a + 2 ^ (k + 1) = a + 2 ^ k + 2 ^ k := by rw [Nat.pow_succ]; omega
    rw [e]; omega

theorem cb_0 : cb_ 2 16 = 6543 := by decide +kernel
theorem cb_1 : cb_ 65538 15 = 2896 := by decide +kernel
theorem cb_2 : cb_ 98306 10 = 94 := by decide +kernel
theorem cb_3 : cb_ 99330 9 = 47 := by decide +kernel
theorem cb_4 : cb_ 99842 7 = 9 := by decide +kernel
theorem cb_5 : cb_ 99970 4 = 1 := by decide +kernel
theorem cb_6 : cb_ 99986 3 = 2 := by decide +kernel
theorem cb_7 : cb_ 99994 2 = 0 := by decide +kernel
theorem cb_8 : cb_ 99998 1 = 0 := by decide +kernel
theorem cb_9 : cb_ 100000 0 = 0 := by decide +kernel
theorem np_le : cntP 100001 ≤ 9592 := by
  have h0 := cb_le 16 2
  rw [cb_0, show 2 + 2 ^ 16 = 65538 from by decide] at h0
  have h1 := cb_le 15 65538
  rw [cb_1, show 65538 + 2 ^ 15 = 98306 from by decide] at h1
  have h2 := cb_le 10 98306
  rw [cb_2, show 98306 + 2 ^ 10 = 99330 from by decide] at h2
  have h3 := cb_le 9 99330
  rw [cb_3, show 99330 + 2 ^ 9 = 99842 from by decide] at h3
  have h4 := cb_le 7 99842
  rw [cb_4, show 99842 + 2 ^ 7 = 99970 from by decide] at h4
  have h5 := cb_le 4 99970
  rw [cb_5, show 99970 + 2 ^ 4 = 99986 from by decide] at h5
  have h6 := cb_le 3 99986
  rw [cb_6, show 99986 + 2 ^ 3 = 99994 from by decide] at h6
  have h7 := cb_le 2 99994
  rw [cb_7, show 99994 + 2 ^ 2 = 99998 from by decide] at h7
  have h8 := cb_le 1 99998
  rw [cb_8, show 99998 + 2 ^ 1 = 100000 from by decide] at h8
  have h9 := cb_le 0 100000
  rw [cb_9, show 100000 + 2 ^ 0 = 100001 from by decide] at h9
  have h := cntP_2
  omega

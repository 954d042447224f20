/-! the two sieves that make the tables -/
theorem up_s {f : Nat → Int32} {k : Nat} {x : Int32} : upd f k x k = x := pk_us
theorem up_n {f : Nat → Int32} {k j : Nat} {x : Int32} (h : j ≠ k) : upd f k x j = f j := pk_un h
theorem isP_odd {p : Nat} (hp : isP p) (h : p ≠ 2) : p % 2 = 1 := by
  rcases (by omega : p % 2 = 0 ∨ p % 2 = 1) with e | e
  · have := hp.2 2 (Nat.dvd_of_mod_eq_zero e)
    omega
  · exact e
theorem isP_even {n : Nat} (h : n % 2 = 0) (h2 : 4 ≤ n) : ¬ isP n := by
  intro hp
  have := isP_odd hp (by omega)
  omega
/-- what is struck among the odd numbers, by odd primes below b -/
def stO_ (b k : Nat) : Prop := ∃ p, isP p ∧ p ≠ 2 ∧ p < b ∧ p * p ≤ k ∧ p ∣ k
theorem stO_p {n : Nat} (h2 : 3 ≤ n) (ho : n % 2 = 1) : isP n ↔ ¬ stO_ n n := by
  constructor
  · rintro hp ⟨p, a, b, c, d, e⟩
    have := isP_dvd a hp e
    omega
  · intro h
    refine pr_end (by omega) (fun q hq hqq hqd => h ⟨q, hq, ?_, ?_, hqq, hqd⟩)
    · intro e
      subst e
      have := Nat.mod_eq_zero_of_dvd hqd
      omega
    · have := hq.1
      have h3 := Nat.mul_le_mul_right q this
      omega
theorem odd_mult {p k : Nat} (hp : p % 2 = 1) (hk : k % 2 = 1) : (∃ j, k = p * p + j * (2 * p)) ↔ (p * p ≤ k ∧ p ∣ k) := by
  constructor
  · rintro ⟨j, rfl⟩
    refine ⟨Nat.le_add_right _ _, ⟨p + j * 2, ?_⟩⟩
    rw [Nat.mul_add, ← Nat.mul_assoc j 2 p, Nat.mul_comm (j * 2) p]
  · rintro ⟨h1, m, rfl⟩
    have hm : m % 2 = 1 := by
      rcases (by omega : m % 2 = 0 ∨ m % 2 = 1) with e | e
      · rw [Nat.mul_mod, e, Nat.mul_zero] at hk
        omega
      · exact e
    have hle : p ≤ m := by
      rcases Nat.lt_or_ge m p with y | y
      · have := Nat.mul_lt_mul_of_pos_left y (show 0 < p by omega)
        omega
      · exact y
    obtain ⟨j, rfl⟩ : ∃ j, m = p + j * 2 := ⟨(m - p) / 2, by omega⟩
    exact ⟨j, by rw [Nat.mul_add, ← Nat.mul_assoc j 2 p, Nat.mul_comm (j * 2) p]⟩
theorem s_keep3 {f : Nat → Int32} {k : Nat} (hk : k < 9592) {p : Int32} {Q : Int32 → (Nat → Int32) → Prop} (h : Q (nI (k + 1)) (upd f k p)) : wp_X3_keep f (nI k) p Q := by
  unfold wp_X3_keep
  refine ⟨fun c => absurd c (nI_pos (by omega)), fun _ => ⟨fun c => ?_, fun _ => ⟨vp_in_nI hk (by omega), fun y e => ?_⟩⟩⟩
  · have := (nI_leI (a := 9592) (b := k) (by omega) (by omega)).mp c
    omega
  · rw [show nI k + (1 : Int32) = nI (k + 1) from nI_1 k] at e
    subst e
    rw [nI_clamp (by omega)]
    exact h
theorem s_strikeOdd {w : Nat → Int64} {p : Nat} (h3 : 3 ≤ p) (hp : p ≤ 100000) {Q : (Nat → Int64) → Prop} (h : ∀ w', (∀ k, mk_ w' k ↔ mk_ w k ∨ (k < 100001 ∧ ∃ j, k = p * p + j * (2 * p))) → Q w') : wp_X3_strikeOddMultiples 1563 w (nI p) Q := by
  unfold wp_X3_strikeOddMultiples
  rw [show (100000 : Int32) = nI 100000 from rfl, pk_div (by omega) (by omega) (by omega)]
  have hle := Nat.div_le_self 100000 p
  refine ⟨fun c => ?_, fun _ => ⟨nI_ne0 (by omega) (by omega), fun c => ?_, fun c => h w (fun k => ⟨fun q => Or.inl q, fun q => q.elim id (fun ⟨a, j, b⟩ => ?_)⟩)⟩⟩
  · have := (nI_ltI (a := p) (b := 2) (by omega) (by omega)).mp c
    omega
  · have c' := (nI_leI (by omega) (by omega)).mp c
    have hpp : p * p ≤ 100000 := by
      have a := Nat.mul_le_mul_left p c'
      have b := Nat.mul_div_le 100000 p
      omega
    have hp3 : p ≤ 316 := by
      rcases Nat.lt_or_ge 316 p with y | y
      · have := Nat.mul_le_mul (show 317 ≤ p from y) (show 317 ≤ p from y)
        omega
      · exact y
    rw [pk_mul, show (2 : Int32) * nI p = nI (2 * p) from pk_mul 2 p]
    exact s_markEvery (e := 100001) (by omega) (by omega) (by omega) (by omega) (by omega) h
  · have c' := mt (nI_leI (a := p) (b := 100000 / p) (by omega) (by omega)).mpr c
    exfalso
    apply c'
    refine (Nat.le_div_iff_mul_le (by omega)).mpr ?_
    have := Nat.zero_le (j * (2 * p))
    omega
theorem s_init3 {Q : (Nat → Int32) → Int32 → Prop} (h : ∀ f m, tab_ f m → Q f m) : wp_X3_init Q := by
  have hb := NP_le
  unfold wp_X3_init wp_X0_init
  refine ⟨fun _ => ⟨by decide, by decide, by decide, ?_⟩, fun c => absurd (by decide) c⟩
  refine s_keep3 (k := 0) (by omega) ?_
  refine ⟨fun x w m f => ∃ n : Nat, 3 ≤ n ∧ n ≤ 100001 ∧ n % 2 = 1 ∧ x = nI n ∧ m = nI (cntP n) ∧ (∀ k, k % 2 = 1 → k < 100001 → (mk_ w k ↔ stO_ n k)) ∧ ∀ p, isP p → p < n → f (cntP p) = nI p, fun x _ _ _ => ((200000 : Nat) - x.toInt).toNat, ⟨3, by omega, by omega, rfl, rfl, ?_, fun k k1 k2 => ⟨fun q => absurd q (mk_0 k), fun ⟨p, a, b, c, _⟩ => ?_⟩, fun p hp h3 => ?_⟩, ?_⟩
  · rw [show (3 : Nat) = 2 + 1 from rfl, cntP_1 isP_2, cntP_2]
  · have := a.1
    omega
  · have : p = 2 := by have := hp.1; omega
    subst this
    rw [cntP_2]; exact up_s
  · rintro x w m f ⟨n, h3, h1, ho, rfl, rfl, hm, hf⟩
    have hcn : cntP n ≤ NP_ := cntP_mono h1
    rw [show (100000 : Int32) = nI 100000 from rfl]
    refine ⟨fun c => ?_, fun c => ?_⟩
    · have c' := (nI_ltI (by omega) (by omega)).mp c
      have e : n = 100001 := by omega
      refine h f _ ⟨?_, fun p hp hp1 => hf p hp (by omega)⟩
      rw [e]; rfl
    · have c' := mt (nI_ltI (a := 100000) (b := n) (by omega) (by omega)).mpr c
      have he : ¬ isP (n + 1) := isP_even (by omega) (by omega)
      have hs : ∀ k, k % 2 = 1 → (stO_ (n + 2) k ↔ stO_ n k ∨ (isP n ∧ n * n ≤ k ∧ n ∣ k)) := by
        intro k hk
        constructor
        · rintro ⟨p, a, b, c, d, e⟩
          by_cases q : p = n
          · subst q; exact Or.inr ⟨a, d, e⟩
          · by_cases q2 : p = n + 1
            · subst q2; exact absurd a he
            · exact Or.inl ⟨p, a, b, by omega, d, e⟩
        · rintro (⟨p, a, b, c, d, e⟩ | ⟨a, d, e⟩)
          · exact ⟨p, a, b, by omega, d, e⟩
          · exact ⟨n, a, by omega, by omega, d, e⟩
      have e2 : nI n + (2 : Int32) = nI (n + 2) := nI_add n 2
      refine s_isMarked (by omega) (by omega) (fun hq => ⟨fun c => absurd c (by decide), fun _ x2 ex => ?_⟩) (fun hq => ⟨fun _ => ?_, fun c => absurd rfl c⟩)
      · have hnp : ¬ isP n := fun q => (stO_p h3 ho).mp q ((hm n ho (by omega)).mp hq)
        rw [e2] at ex
        subst ex
        refine ⟨⟨n + 2, by omega, by omega, by omega, rfl, ?_, fun k k1 k2 => ?_, fun p hp hp1 => ?_⟩, measN (by omega) (by omega) (by omega)⟩
        · rw [show n + 2 = n + 1 + 1 from rfl, cntP_0 he, cntP_0 hnp]
        · rw [hs k k1, hm k k1 k2]
          exact ⟨fun q => Or.inl q, fun q => q.elim id (fun r => absurd r.1 hnp)⟩
        · refine hf p hp ?_
          rcases (by omega : p < n ∨ p = n ∨ p = n + 1) with y | y | y
          · exact y
          · rw [y] at hp; exact absurd hp hnp
          · rw [y] at hp; exact absurd hp he
      · have hnp : isP n := (stO_p h3 ho).mpr (fun q => hq ((hm n ho (by omega)).mpr q))
        have hlt := NP_lt hnp (by omega)
        refine s_keep3 (by omega) (s_strikeOdd h3 (by omega) (fun w' hw' x2 ex => ?_))
        rw [e2] at ex
        subst ex
        refine ⟨⟨n + 2, by omega, by omega, by omega, rfl, ?_, fun k k1 k2 => ?_, fun p hp hp1 => ?_⟩, measN (by omega) (by omega) (by omega)⟩
        · rw [show n + 2 = n + 1 + 1 from rfl, cntP_0 he, cntP_1 hnp]
        · rw [hw' k, hs k k1, hm k k1 k2, odd_mult ho k1]
          constructor
          · rintro (q | ⟨_, q⟩)
            · exact Or.inl q
            · exact Or.inr ⟨hnp, q⟩
          · rintro (q | ⟨_, q⟩)
            · exact Or.inl q
            · exact Or.inr ⟨k2, q⟩
        · rcases (by omega : p < n ∨ p = n ∨ p = n + 1) with y | y | y
          · have := cntP_lt hp y
            rw [up_n (by omega)]
            exact hf p hp y
          · rw [y]; exact up_s
          · rw [y] at hp; exact absurd hp he
/-- what is struck among all numbers, by primes below b -/
def stA_ (b k : Nat) : Prop := k < 2 ∨ ∃ p, isP p ∧ p < b ∧ p * p ≤ k ∧ p ∣ k
theorem stA_p {n : Nat} (h2 : 2 ≤ n) : isP n ↔ ¬ stA_ n n := by
  constructor
  · rintro hp (q | ⟨p, a, c, d, e⟩)
    · omega
    · have := isP_dvd a hp e
      omega
  · intro h
    refine pr_end h2 (fun q hq hqq hqd => h (Or.inr ⟨q, hq, ?_, hqq, hqd⟩))
    have := hq.1
    have h3 := Nat.mul_le_mul_right q this
    omega
theorem stA_end {k : Nat} (hk : k ≤ 2000000) : stA_ 1415 k ↔ ¬ isP k := by
  constructor
  · rintro (q | ⟨p, a, c, d, e⟩) hp
    · have := hp.1; omega
    · exact pr_no a d e hp
  · intro h
    by_cases q : k < 2
    · exact Or.inl q
    · obtain ⟨p, a, b, c⟩ := comp_small k (by omega) h
      refine Or.inr ⟨p, a, ?_, c, b⟩
      rcases Nat.lt_or_ge p 1415 with y | y
      · exact y
      · have := Nat.mul_le_mul y y
        omega
theorem all_mult {p k : Nat} : (∃ j, k = p * p + j * p) ↔ (p * p ≤ k ∧ p ∣ k) := by
  constructor
  · rintro ⟨j, rfl⟩
    exact ⟨Nat.le_add_right _ _, ⟨p + j, by rw [Nat.mul_add, Nat.mul_comm j p]⟩⟩
  · rintro ⟨h1, m, rfl⟩
    rcases Nat.eq_zero_or_pos p with z | z
    · subst z; exact ⟨0, by omega⟩
    · have hle : p ≤ m := by
        rcases Nat.lt_or_ge m p with y | y
        · have := Nat.mul_lt_mul_of_pos_left y z
          omega
        · exact y
      obtain ⟨j, rfl⟩ : ∃ j, m = p + j := ⟨m - p, by omega⟩
      exact ⟨j, by rw [Nat.mul_add, Nat.mul_comm j p]⟩
def nz_ (P : Nat → Prop) (f : Nat → Int32) : Prop := ∀ k, k ≤ 2000000 → (P k → f k = 1) ∧ (¬ P k → f k = 0)
theorem nz_0 {P : Nat → Prop} {f : Nat → Int32} (h : nz_ P f) {k : Nat} (hk : k ≤ 2000000) : f k = 0 ↔ ¬ P k := by
  constructor
  · intro e q
    rw [(h k hk).1 q] at e
    exact absurd e (by decide)
  · exact (h k hk).2
theorem nz_iff {P R : Nat → Prop} {f : Nat → Int32} (h : nz_ P f) (hi : ∀ k, k ≤ 2000000 → (P k ↔ R k)) : nz_ R f := fun k hk => ⟨fun q => (h k hk).1 ((hi k hk).mpr q), fun q => (h k hk).2 (fun z => q ((hi k hk).mp z))⟩
theorem nar1 : vp_nar .boolean (1 : Int32) = 1 := by decide
theorem nz_up {P : Nat → Prop} {f : Nat → Int32} (h : nz_ P f) (j : Nat) : nz_ (fun k => P k ∨ k = j) (upd f j 1) := by
  intro k hk
  by_cases q : k = j
  · subst q
    exact ⟨fun _ => up_s, fun z => absurd (Or.inr rfl) z⟩
  · rw [up_n q]
    exact ⟨fun z => (h k hk).1 (z.elim id (fun y => absurd y q)), fun z => (h k hk).2 (fun y => z (Or.inl y))⟩
theorem s_init9 {Q : Int32 → (Nat → Int32) → (Nat → Int32) → Int32 → Int64 → Int32 → (Nat → Int64) → (Nat → Int64) → (Nat → Int32) → Int32 → Int64 → Int32 → (Nat → Int64) → (Nat → Int32) → Int32 → (Nat → Int64) → Int64 → Int64 → Int32 → Prop} (h : ∀ m f g, tab_ f m → nn_ g → Q m f g (0 : Int32) (0 : Int64) (0 : Int32) (fun _ => 0) (fun _ => 0) (fun _ => 0) (0 : Int32) (0 : Int64) (0 : Int32) (fun _ => 0) (fun _ => 0) (0 : Int32) (fun _ => 0) (0 : Int64) (0 : Int64) (0 : Int32)) : wp_X9_init Q := by
  have hb := NP_le
  unfold wp_X9_init
  rw [nar1]
  refine ⟨vp_in_nI (n := 0) (by omega) (by omega), vp_in_nI (n := 1) (by omega) (by omega), ?_⟩
  refine ⟨fun x g => ∃ p : Nat, 2 ≤ p ∧ p ≤ 1415 ∧ x = nI p ∧ nz_ (stA_ p) g, fun x _ => ((2000 : Nat) - x.toInt).toNat, ⟨2, by omega, by omega, rfl, ?_⟩, ?_⟩
  · have h0 : nz_ (fun _ => False) (fun _ => 0) := fun k _ => ⟨fun q => q.elim, fun _ => rfl⟩
    refine nz_iff (nz_up (nz_up h0 0) 1) (fun k hk => ⟨fun q => Or.inl ?_, fun q => ?_⟩)
    · rcases q with (q | q) | q
      · exact q.elim
      · omega
      · omega
    · rcases q with q | ⟨p, a, b, _⟩
      · rcases (by omega : k = 0 ∨ k = 1) with e | e
        · exact Or.inl (Or.inr e)
        · exact Or.inr e
      · have := a.1; omega
  · rintro x g ⟨p, p2, p1, rfl, hg⟩
    rw [show (1414 : Int32) = nI 1414 from rfl]
    refine ⟨fun c => ?_, fun c => ?_⟩
    · have c' := (nI_ltI (by omega) (by omega)).mp c
      have e : p = 1415 := by omega
      subst e
      have hn : nn_ g := fun k hk => ⟨fun q => (hg k hk).2 (fun z => (stA_end hk).mp z q), fun q => (hg k hk).1 ((stA_end hk).mpr q)⟩
      refine ⟨fun x m f => ∃ n : Nat, 2 ≤ n ∧ n ≤ 100001 ∧ x = nI n ∧ m = nI (cntP n) ∧ ∀ p, isP p → p < n → f (cntP p) = nI p, fun x _ _ => ((200000 : Nat) - x.toInt).toNat, ⟨2, by omega, by omega, rfl, by rw [cntP_2]; rfl, fun p hp h => ?_⟩, ?_⟩
      · have := hp.1; omega
      · rintro x m f ⟨n, n2, n1, rfl, rfl, hf⟩
        have hcn : cntP n ≤ NP_ := cntP_mono n1
        rw [show (100000 : Int32) = nI 100000 from rfl]
        refine ⟨fun d => ?_, fun d => ⟨?_, ?_⟩⟩
        · have d' := (nI_ltI (by omega) (by omega)).mp d
          have e : n = 100001 := by omega
          subst e
          exact h _ _ _ ⟨rfl, fun p hp hp1 => hf p hp (by omega)⟩ hn
        · have d' := mt (nI_ltI (a := 100000) (b := n) (by omega) (by omega)).mpr d
          exact vp_in_nI (by omega) (by omega)
        · have d' := mt (nI_ltI (a := 100000) (b := n) (by omega) (by omega)).mpr d
          rw [nI_clamp (by omega), nI_clamp (by omega)]
          refine ⟨fun z => ?_, fun z x1 e1 => ?_⟩
          · have hp : isP n := by
              apply Classical.byContradiction
              intro y
              rw [(hn n (by omega)).2 y] at z
              exact absurd z (by decide)
            have hlt := NP_lt hp (by omega)
            refine ⟨vp_in_nI (by omega) (by omega), fun y ey x1 e1 => ?_⟩
            rw [show nI (cntP n) + (1 : Int32) = nI (cntP n + 1) from nI_1 _, ← cntP_1 hp] at ey
            rw [show nI n + (1 : Int32) = nI (n + 1) from nI_1 n] at e1
            subst ey e1
            refine ⟨⟨n + 1, by omega, by omega, rfl, rfl, fun p hp1 hp2 => ?_⟩, measN (by omega) (by omega) (by omega)⟩
            by_cases q : p = n
            · rw [q]; exact up_s
            · have := cntP_lt hp1 (show p < n by omega)
              rw [up_n (by omega)]
              exact hf p hp1 (by omega)
          · have hp : ¬ isP n := fun y => z ((hn n (by omega)).1 y)
            rw [show nI n + (1 : Int32) = nI (n + 1) from nI_1 n] at e1
            subst e1
            refine ⟨⟨n + 1, by omega, by omega, rfl, by rw [cntP_0 hp], fun p hp1 hp2 => hf p hp1 ?_⟩, measN (by omega) (by omega) (by omega)⟩
            by_cases q : p = n
            · rw [q] at hp1; exact absurd hp1 hp
            · omega
    · have c' := mt (nI_ltI (a := 1414) (b := p) (by omega) (by omega)).mpr c
      have hpp : p * p ≤ 1414 * 1414 := Nat.mul_le_mul (by omega) (by omega)
      have hs : ∀ k, stA_ (p + 1) k ↔ stA_ p k ∨ (isP p ∧ p * p ≤ k ∧ p ∣ k) := by
        intro k
        constructor
        · rintro (q | ⟨r, a, b, d, e⟩)
          · exact Or.inl (Or.inl q)
          · by_cases q : r = p
            · subst q; exact Or.inr ⟨a, d, e⟩
            · exact Or.inl (Or.inr ⟨r, a, by omega, d, e⟩)
        · rintro ((q | ⟨r, a, b, d, e⟩) | ⟨a, d, e⟩)
          · exact Or.inl q
          · exact Or.inr ⟨r, a, by omega, d, e⟩
          · exact Or.inr ⟨p, a, by omega, d, e⟩
      refine ⟨vp_in_nI (by omega) (by omega), ?_⟩
      rw [nI_clamp (by omega), pk_mul]
      refine ⟨fun z x2 e2 => ?_, fun z x1 e1 => ?_⟩
      · have hp : isP p := (stA_p p2).mpr ((nz_0 hg (by omega)).mp z)
        subst e2
        refine ⟨fun x f => ∃ j : Nat, p * p + j * p ≤ 2010000 ∧ x = nI (p * p + j * p) ∧ nz_ (fun k => stA_ p k ∨ ∃ i, i < j ∧ k = p * p + i * p) f, fun x _ => ((2100000 : Nat) - x.toInt).toNat, ⟨0, by omega, by rw [Nat.zero_mul, Nat.add_zero], nz_iff hg (fun k _ => ⟨fun q => Or.inl q, fun q => q.elim id (fun ⟨i, a, _⟩ => absurd a (Nat.not_lt_zero i))⟩)⟩, ?_⟩
        rintro x f ⟨j, hj, rfl, hf⟩
        rw [show (2000000 : Int32) = nI 2000000 from rfl]
        refine ⟨fun d x1 e1 => ?_, fun d => ⟨?_, fun x2 e2 => ?_⟩⟩
        · have d' := (nI_ltI (by omega) (by omega)).mp d
          rw [show nI p + (1 : Int32) = nI (p + 1) from nI_1 p] at e1
          subst e1
          refine ⟨⟨p + 1, by omega, by omega, rfl, nz_iff hf (fun k hk => ?_)⟩, measN (by omega) (by omega) (by omega)⟩
          rw [hs k]
          constructor
          · rintro (q | ⟨i, a, b⟩)
            · exact Or.inl q
            · exact Or.inr ⟨hp, all_mult.mp ⟨i, b⟩⟩
          · rintro (q | ⟨_, q⟩)
            · exact Or.inl q
            · obtain ⟨i, b⟩ := all_mult.mpr q
              refine Or.inr ⟨i, ?_, b⟩
              rcases Nat.lt_or_ge i j with y | y
              · exact y
              · have := Nat.mul_le_mul_right p y
                omega
        · have d' := mt (nI_ltI (a := 2000000) (b := p * p + j * p) (by omega) (by omega)).mpr d
          exact vp_in_nI (by omega) (by omega)
        · have d' := mt (nI_ltI (a := 2000000) (b := p * p + j * p) (by omega) (by omega)).mpr d
          have en : p * p + (j + 1) * p = p * p + j * p + p := by rw [Nat.succ_mul]; omega
          rw [nI_add, ← en] at e2
          subst e2
          rw [nI_clamp (by omega)]
          refine ⟨⟨j + 1, by omega, rfl, nz_iff (nz_up hf (p * p + j * p)) (fun k hk => ?_)⟩, measN (by omega) (by omega) (by omega)⟩
          constructor
          · rintro ((q | ⟨i, a, b⟩) | q)
            · exact Or.inl q
            · exact Or.inr ⟨i, by omega, b⟩
            · exact Or.inr ⟨j, by omega, q⟩
          · rintro (q | ⟨i, a, b⟩)
            · exact Or.inl (Or.inl q)
            · by_cases y : i = j
              · subst y; exact Or.inr b
              · exact Or.inl (Or.inr ⟨i, by omega, b⟩)
      · have hp : ¬ isP p := fun y => z ((nz_0 hg (by omega)).mpr ((stA_p p2).mp y))
        rw [show nI p + (1 : Int32) = nI (p + 1) from nI_1 p] at e1
        subst e1
        refine ⟨⟨p + 1, by omega, by omega, rfl, nz_iff hg (fun k _ => ?_)⟩, measN (by omega) (by omega) (by omega)⟩
        rw [hs k]
        exact ⟨fun q => Or.inl q, fun q => q.elim id (fun y => absurd y.1 hp)⟩

/-! the tables of primes -/
noncomputable def NP_ : Nat := cntP 100001
theorem NP_le : NP_ ≤ 9592 := np_le
theorem NP_lt {q : Nat} (hq : isP q) (h : q ≤ 100000) : cntP q < NP_ := cntP_lt hq (Nat.lt_succ_of_le h)
theorem NP_ex {i : Nat} (h : i < NP_) : ∃ p, isP p ∧ p ≤ 100000 ∧ cntP p = i := by
  obtain ⟨p, a, b, c⟩ := cntP_surj 100001 i h
  exact ⟨p, a, Nat.le_of_lt_succ b, c⟩
theorem cntP_iff {p q : Nat} (hp : isP p) (hq : isP q) : cntP q < cntP p ↔ q < p := by
  refine ⟨fun h => ?_, fun h => cntP_lt hq h⟩
  rcases Nat.lt_trichotomy q p with c | c | c
  · exact c
  · subst c; omega
  · have := cntP_lt hp c; omega
def tab_ (f : Nat → Int32) (n : Int32) : Prop := n = nI NP_ ∧ ∀ p, isP p → p ≤ 100000 → f (cntP p) = nI p
def tabO_ (o : Option CP_) : Prop := match o with | none => True | some w => tab_ w.1 w.2
def nn_ (f : Nat → Int32) : Prop := ∀ k, k ≤ 2000000 → (isP k → f k = 0) ∧ (¬ isP k → f k = 1)
theorem tab_at {f : Nat → Int32} {n : Int32} (h : tab_ f n) {i : Nat} (hi : i < NP_) : ∃ p, isP p ∧ p ≤ 100000 ∧ cntP p = i ∧ f i = nI p := by
  obtain ⟨p, a, b, c⟩ := NP_ex hi
  refine ⟨p, a, b, c, ?_⟩
  rw [← c]; exact h.2 p a b
theorem sq_small {q n : Nat} (hn : n ≤ 10000000000) (h : q * q ≤ n) : q ≤ 100000 := by
  rcases Nat.lt_or_ge 100000 q with y | y
  · have := Nat.mul_le_mul (show 100001 ≤ q from y) (show 100001 ≤ q from y)
    omega
  · exact y
theorem sq_lt2 {p q n : Nat} (h1 : q * q ≤ n) (h2 : n < p * p) : q < p := by
  rcases Nat.lt_or_ge q p with y | y
  · exact y
  · have := Nat.mul_le_mul y y
    omega
theorem pr_end {n : Nat} (h2 : 2 ≤ n) (h : ∀ q, isP q → q * q ≤ n → ¬ q ∣ n) : isP n := by
  apply Classical.byContradiction
  intro hc
  obtain ⟨p, a, b, c⟩ := comp_small n h2 hc
  exact h p a c b
theorem pr_no {n p : Nat} (hp : isP p) (h : p * p ≤ n) (hd : p ∣ n) : ¬ isP n := by
  intro hn
  have e := isP_dvd hp hn hd
  subst e
  have h2 := hp.1
  have := Nat.mul_le_mul_left p h2
  omega
theorem s_nth {f : Nat → Int32} {m : Int32} (ht : tab_ f m) {i : Nat} (hi : i < NP_) {Q : Int32 → Prop} (h : ∀ p, isP p → p ≤ 100000 → cntP p = i → Q (nI p)) : wp_X3_nth f m (nI i) Q := by
  obtain ⟨p, a, b, c, d⟩ := tab_at ht hi
  have hb := NP_le
  rw [ht.1]
  unfold wp_X3_nth
  refine ⟨fun e => absurd e (nI_pos (by omega)), fun _ => ⟨fun e => ?_, fun _ => ⟨fun e => ?_, fun _ => ⟨vp_in_nI (by omega) (by omega), ?_⟩⟩⟩⟩
  · have := (nI_leI (by omega) (by omega)).mp e
    omega
  · have := (nI_leI (a := 9592) (b := i) (by omega) (by omega)).mp e
    omega
  · rw [nI_clamp (by omega), d]
    exact h p a b c
theorem meas10k {i : Nat} (hi : i ≤ 9592) : (10000 - (nI (i + 1)).toInt).toNat < (10000 - (nI i).toInt).toNat := by
  rw [tn (n := i + 1) (by omega), tn (n := i) (by omega)]
  omega
theorem s_isP5 {f : Nat → Int32} {m : Int32} (ht : tab_ f m) {n : Nat} (hn : n ≤ 10000000000) {Q : Int32 → Prop} (h1 : isP n → Q 1) (h0 : ¬ isP n → Q 0) : wp_X3_isPrime f m (lN n) Q := by
  have hb := NP_le
  unfold wp_X3_isPrime
  rw [show (2 : Int64) = lN 2 from rfl]
  refine ⟨fun c => ?_, fun c => h0 (fun q => ?_)⟩
  · have c' := (pk_lLE (by omega) (by omega)).mp c
    refine ⟨fun x => ∃ i, i ≤ NP_ ∧ x = nI i ∧ ∀ q, isP q → cntP q < i → ¬ q ∣ n, fun x => (10000 - x.toInt).toNat, ⟨0, Nat.zero_le _, rfl, fun q _ h => absurd h (Nat.not_lt_zero _)⟩, ?_⟩
    rintro x ⟨i, hi, rfl, hJ⟩
    refine ⟨fun d => h1 (pr_end c' (fun q hq hqq => hJ q hq ?_)), fun d => ?_⟩
    · rw [ht.1] at d
      have d' := (nI_leI (by omega) (by omega)).mp d
      have := NP_lt hq (sq_small hn hqq)
      omega
    · rw [ht.1] at d
      have d' := mt (nI_leI (a := NP_) (b := i) (by omega) (by omega)).mpr d
      refine s_nth ht (by omega) (fun p hp hp1 hpi x4 e4 => ?_)
      have hp2 := hp.1
      have hpp := Nat.mul_le_mul hp1 hp1
      rw [nI_l (by omega)] at e4
      subst e4
      rw [lN_mul]
      refine ⟨fun g => ?_, fun _ => ⟨fun g => ⟨fun z => ?_, ?_⟩, fun g => h1 (pr_end c' (fun q hq hqq => hJ q hq ?_))⟩⟩
      · have := (pk_lLT (by omega) (by omega)).mp g
        omega
      · have := (pk_lEQ (a := p) (b := 0) (by omega) (by omega)).mp z
        omega
      · have g' := (pk_lLE (by omega) (by omega)).mp g
        have hml := Nat.mod_lt n (show 0 < p by omega)
        rw [pk_lRem (by omega) (by omega) (by omega), show (0 : Int64) = lN 0 from rfl]
        refine ⟨fun z => h0 ?_, fun z x3 e3 => ?_⟩
        · have z' := (pk_lEQ (by omega) (by omega)).mp z
          exact pr_no hp g' (Nat.dvd_of_mod_eq_zero z')
        · have z' := mt (pk_lEQ (a := n % p) (b := 0) (by omega) (by omega)).mpr z
          rw [show nI i + (1 : Int32) = nI (i + 1) from nI_1 i] at e3
          subst e3
          refine ⟨⟨i + 1, by omega, rfl, fun q hq hqi hqd => ?_⟩, meas10k (by omega)⟩
          by_cases y : q = p
          · subst y; exact z' (Nat.mod_eq_zero_of_dvd hqd)
          · refine hJ q hq ?_ hqd
            have := mt (cntP_inj hq hp) y
            omega
      · have g' := mt (pk_lLE (a := p * p) (b := n) (by omega) (by omega)).mpr g
        have := cntP_lt hq (sq_lt2 hqq (show n < p * p by omega))
        omega
  · have c' := mt (pk_lLE (a := 2) (b := n) (by omega) (by omega)).mpr c
    have := q.1
    omega
theorem s_isP9 {f : Nat → Int32} {m : Int32} (ht : tab_ f m) {n : Nat} (hn : n ≤ 10000000000) {Q : Int32 → Prop} (h1 : isP n → Q 1) (h0 : ¬ isP n → Q 0) : wp_X9_isPrime m f (lN n) Q := by
  have hb := NP_le
  unfold wp_X9_isPrime
  rw [show (2 : Int64) = lN 2 from rfl]
  refine ⟨fun c => ?_, fun c => h0 (fun q => ?_)⟩
  · have c' := (pk_lLE (by omega) (by omega)).mp c
    refine ⟨fun x => ∃ i, i ≤ NP_ ∧ x = nI i ∧ ∀ q, isP q → cntP q < i → ¬ q ∣ n, fun x => (10000 - x.toInt).toNat, ⟨0, Nat.zero_le _, rfl, fun q _ h => absurd h (Nat.not_lt_zero _)⟩, ?_⟩
    rintro x ⟨i, hi, rfl, hJ⟩
    refine ⟨fun d => h1 (pr_end c' (fun q hq hqq => hJ q hq ?_)), fun d => ?_⟩
    · rw [ht.1] at d
      have d' := (nI_leI (by omega) (by omega)).mp d
      have := NP_lt hq (sq_small hn hqq)
      omega
    · rw [ht.1] at d
      have d' := mt (nI_leI (a := NP_) (b := i) (by omega) (by omega)).mpr d
      obtain ⟨p, hp, hp1, hpi, hfp⟩ := tab_at ht (i := i) (by omega)
      have hp2 := hp.1
      have hpp := Nat.mul_le_mul hp1 hp1
      rw [nI_clamp (by omega), hfp, nI_l (by omega), lN_mul]
      refine ⟨vp_in_nI (by omega) (by omega), vp_in_nI (by omega) (by omega), fun g => h1 (pr_end c' (fun q hq hqq => hJ q hq ?_)), fun g => ⟨vp_in_nI (by omega) (by omega), fun z => ?_, ?_⟩⟩
      · have g' := (pk_lLT (by omega) (by omega)).mp g
        have := cntP_lt hq (sq_lt2 hqq g')
        omega
      · have := (pk_lEQ (a := p) (b := 0) (by omega) (by omega)).mp z
        omega
      · have g' := mt (pk_lLT (a := n) (b := p * p) (by omega) (by omega)).mpr g
        have hml := Nat.mod_lt n (show 0 < p by omega)
        rw [pk_lRem (by omega) (by omega) (by omega), show (0 : Int64) = lN 0 from rfl]
        refine ⟨fun z => h0 ?_, fun z x3 e3 => ?_⟩
        · have z' := (pk_lEQ (by omega) (by omega)).mp z
          exact pr_no hp (by omega) (Nat.dvd_of_mod_eq_zero z')
        · have z' := mt (pk_lEQ (a := n % p) (b := 0) (by omega) (by omega)).mpr z
          rw [show nI i + (1 : Int32) = nI (i + 1) from nI_1 i] at e3
          subst e3
          refine ⟨⟨i + 1, by omega, rfl, fun q hq hqi hqd => ?_⟩, meas10k (by omega)⟩
          by_cases y : q = p
          · subst y; exact z' (Nat.mod_eq_zero_of_dvd hqd)
          · refine hJ q hq ?_ hqd
            have := mt (cntP_inj hq hp) y
            omega
  · have c' := mt (pk_lLE (a := 2) (b := n) (by omega) (by omega)).mpr c
    have := q.1
    omega
/-! the next prime -/
def nx_ (n r : Nat) : Prop := (r = 0 ∧ ∀ q, n < q → q ≤ 10000000000 → ¬ isP q) ∨ (n < r ∧ r ≤ 10000000000 ∧ isP r ∧ ∀ q, n < q → q < r → ¬ isP q)
theorem nx_uq {n r s : Nat} (h : nx_ n r) (g : nx_ n s) : r = s := by
  rcases h with ⟨a, b⟩ | ⟨a, b, c, d⟩ <;> rcases g with ⟨a', b'⟩ | ⟨a', b', c', d'⟩
  · omega
  · exact absurd c' (b s a' b')
  · exact absurd c (b' r a b)
  · rcases Nat.lt_trichotomy r s with z | z | z
    · exact absurd c (d' r a z)
    · exact z
    · exact absurd c' (d s a' z)
def pv_ (n r : Nat) : Prop := (r = 0 ∧ ∀ q, q < n → ¬ isP q) ∨ (r < n ∧ isP r ∧ ∀ q, r < q → q < n → ¬ isP q)
theorem pv_uq {n r s : Nat} (h : pv_ n r) (g : pv_ n s) : r = s := by
  rcases h with ⟨a, b⟩ | ⟨a, b, d⟩ <;> rcases g with ⟨a', b'⟩ | ⟨a', c', d'⟩
  · omega
  · exact absurd c' (b s a')
  · exact absurd b (b' r a)
  · rcases Nat.lt_trichotomy r s with z | z | z
    · exact absurd c' (d s z a')
    · exact z
    · exact absurd b (d' r z a)
theorem measU {K : Nat} (h : K ≤ 10000000000) : (20000000000 - (lN (K + 1)).toInt).toNat < (20000000000 - (lN K).toInt).toNat := by
  rw [tl (n := K + 1) (by omega), tl (n := K) (by omega)]
  omega
theorem measD {K : Nat} (h : K ≤ 10000000000) : (lN K).toInt.toNat < (lN (K + 1)).toInt.toNat := by
  rw [tl (n := K + 1) (by omega), tl (n := K) (by omega)]
  omega
theorem s_above {f : Nat → Int32} {m : Int32} (ht : tab_ f m) {n : Nat} (hn : n ≤ 10000000000) {Q : Int64 → Prop} (h : ∀ r, nx_ n r → Q (lN r)) : wp_X3_primeAbove f m (lN n) Q := by
  unfold wp_X3_primeAbove
  intro x3 e3
  rw [lN_1] at e3
  subst e3
  refine ⟨fun x => ∃ K, n ≤ K ∧ K ≤ 10000000000 ∧ x = lN (K + 1) ∧ ∀ q, n < q → q ≤ K → ¬ isP q, fun x => (20000000000 - x.toInt).toNat, ⟨n, Nat.le_refl n, hn, rfl, fun q a b => absurd a (by omega)⟩, ?_⟩
  rintro x ⟨K, h1, h2, rfl, hJ⟩
  rw [show (10000000000 : Int64) = lN 10000000000 from rfl]
  refine ⟨fun c => h 0 (Or.inl ⟨rfl, fun q a b => hJ q a ?_⟩), fun c => ?_⟩
  · have := (pk_lLT (by omega) (by omega)).mp c
    omega
  · have c' := mt (pk_lLT (a := 10000000000) (b := K + 1) (by omega) (by omega)).mpr c
    refine s_isP5 ht (by omega) (fun hp => ⟨fun c => absurd c (by decide), fun _ => h (K + 1) (Or.inr ⟨by omega, by omega, hp, fun q a b => hJ q a (by omega)⟩)⟩) (fun hp => ⟨fun _ x e => ?_, fun c => absurd rfl c⟩)
    rw [lN_1] at e
    subst e
    refine ⟨⟨K + 1, by omega, by omega, rfl, fun q a b => ?_⟩, measU (by omega)⟩
    by_cases y : q = K + 1
    · rw [y]; exact hp
    · exact hJ q a (by omega)
theorem s_below {f : Nat → Int32} {m : Int32} (ht : tab_ f m) {n : Nat} (h1 : 1 ≤ n) (hn : n ≤ 10000000000) {Q : Int64 → Prop} (h : ∀ r, pv_ n r → Q (lN r)) : wp_X3_primeBelow f m (lN n) Q := by
  unfold wp_X3_primeBelow
  intro x3 e3
  rw [show (1 : Int64) = lN 1 from rfl, lN_sub h1] at e3
  subst e3
  refine ⟨fun x => ∃ K, K < n ∧ x = lN K ∧ ∀ q, K < q → q < n → ¬ isP q, fun x => x.toInt.toNat, ⟨n - 1, by omega, rfl, fun q a b => absurd a (by omega)⟩, ?_⟩
  rintro x ⟨K, h1, rfl, hJ⟩
  rw [show (2 : Int64) = lN 2 from rfl]
  refine ⟨fun c => h 0 (Or.inl ⟨rfl, fun q a b => ?_⟩), fun c => ?_⟩
  · have := (pk_lLT (by omega) (by omega)).mp c
    exact hJ q (by have := b.1; omega) a b
  · have c' := mt (pk_lLT (a := K) (b := 2) (by omega) (by omega)).mpr c
    refine s_isP5 ht (by omega) (fun hp => ⟨fun c => absurd c (by decide), fun _ => h K (Or.inr ⟨h1, hp, hJ⟩)⟩) (fun hp => ⟨fun _ x e => ?_, fun c => absurd rfl c⟩)
    obtain ⟨j, rfl⟩ : ∃ j, K = j + 1 := ⟨K - 1, by omega⟩
    rw [show (1 : Int64) = lN 1 from rfl, lN_sub (by omega), Nat.add_sub_cancel] at e
    subst e
    refine ⟨⟨j, by omega, rfl, fun q a b => ?_⟩, measD (by omega)⟩
    by_cases y : q = j + 1
    · rw [y]; exact hp
    · exact hJ q (by omega) b
theorem lN_m1 (n : Nat) : lN (n + 1) + (-1 : Int64) = lN n := by
  rw [← lN_1, Int64.add_assoc, show (1 : Int64) + (-1) = 0 from by decide, Int64.add_zero]
theorem s_next9U {f : Nat → Int32} {m : Int32} (ht : tab_ f m) {n : Nat} (h1 : 1 ≤ n) (hn : n ≤ 10000000000) {Q : Int64 → Prop} (h : ∀ r, nx_ n r → Q (lN r)) : wp_X9_next m f (lN n) 0 Q := by
  unfold wp_X9_next
  have en := tl (n := n) (by omega)
  refine s_in (fun _ _ => ⟨fun c => absurd c (by decide), fun _ => ?_⟩) (fun a => ?_)
  rotate_left
  · rw [en] at a
    have a' : (n : Int) < 1 ∨ (10000000000 : Int) < (n : Int) := a
    omega
  refine ⟨fun b x => ∃ K, n ≤ K ∧ K ≤ 10000000000 ∧ x = lN K ∧ ((b = 0 ∧ ∀ q, n < q → q ≤ K → ¬ isP q) ∨ (b = 1 ∧ n < K ∧ isP K ∧ ∀ q, n < q → q < K → ¬ isP q)), fun b x => if b = 0 then (20000000000 - x.toInt).toNat else 0, ⟨n, Nat.le_refl n, hn, rfl, Or.inl ⟨rfl, fun q a b => absurd a (by omega)⟩⟩, ?_⟩
  rintro b x ⟨K, k1, k2, rfl, hJ⟩
  rw [show (10000000000 : Int64) = lN 10000000000 from rfl]
  rcases hJ with ⟨rfl, hJ⟩ | ⟨rfl, g1, g2, g3⟩
  · refine ⟨fun _ => ⟨fun _ => ⟨fun c => ⟨fun _ => h 0 (Or.inl ⟨rfl, fun q a b => hJ q a ?_⟩), fun d => absurd rfl d⟩, fun c => ⟨fun _ x4 e4 => ?_, fun d => absurd rfl d⟩⟩, fun d => absurd rfl d⟩, fun d => absurd rfl d⟩
    · have := (pk_lLE (by omega) (by omega)).mp c
      omega
    · have c' := mt (pk_lLE (a := 10000000000) (b := K) (by omega) (by omega)).mpr c
      rw [lN_1] at e4
      subst e4
      have mm := measU (K := K) (by omega)
      refine s_isP9 ht (by omega) (fun hp => ⟨⟨K + 1, by omega, by omega, rfl, Or.inr ⟨rfl, by omega, hp, fun q a b => hJ q a (by omega)⟩⟩, ?_⟩) (fun hp => ⟨⟨K + 1, by omega, by omega, rfl, Or.inl ⟨rfl, fun q a b => ?_⟩⟩, ?_⟩)
      · show (if (1 : Int32) = 0 then _ else 0) < (if (0 : Int32) = 0 then (20000000000 - (lN K).toInt).toNat else 0)
        rw [if_neg (by decide), if_pos rfl]
        omega
      · by_cases y : q = K + 1
        · rw [y]; exact hp
        · exact hJ q a (by omega)
      · show (if (0 : Int32) = 0 then (20000000000 - (lN (K + 1)).toInt).toNat else 0) < (if (0 : Int32) = 0 then (20000000000 - (lN K).toInt).toNat else 0)
        rw [if_pos rfl, if_pos rfl]
        exact mm
  · exact ⟨fun c => absurd c (by decide), fun _ => ⟨fun c => absurd c (by decide), fun _ => h K (Or.inr ⟨g1, k2, g2, g3⟩)⟩⟩
theorem s_next9D {f : Nat → Int32} {m : Int32} (ht : tab_ f m) {n : Nat} (h1 : 1 ≤ n) (hn : n ≤ 10000000000) {p2 : Int32} (hp2 : ¬ p2 = 0) {Q : Int64 → Prop} (h : ∀ r, pv_ n r → Q (lN r)) : wp_X9_next m f (lN n) p2 Q := by
  unfold wp_X9_next
  have en := tl (n := n) (by omega)
  refine s_in (fun _ _ => ⟨fun c => absurd c (by decide), fun _ => ?_⟩) (fun a => ?_)
  rotate_left
  · rw [en] at a
    have a' : (n : Int) < 1 ∨ (10000000000 : Int) < (n : Int) := a
    omega
  refine ⟨fun b x => ∃ K, 1 ≤ K ∧ K ≤ n ∧ x = lN K ∧ ((b = 0 ∧ ∀ q, K ≤ q → q < n → ¬ isP q) ∨ (b = 1 ∧ K < n ∧ isP K ∧ ∀ q, K < q → q < n → ¬ isP q)), fun b x => if b = 0 then x.toInt.toNat else 0, ⟨n, h1, Nat.le_refl n, rfl, Or.inl ⟨rfl, fun q a b => absurd a (by omega)⟩⟩, ?_⟩
  rintro b x ⟨K, k1, k2, rfl, hJ⟩
  rcases hJ with ⟨rfl, hJ⟩ | ⟨rfl, g1, g2, g3⟩
  · refine ⟨fun _ => ⟨fun d => absurd d hp2, fun _ => ⟨fun c => ⟨fun _ => h 0 (Or.inl ⟨rfl, fun q a b => ?_⟩), fun d => absurd rfl d⟩, fun c => ⟨fun d => absurd d hp2, fun _ x4 e4 => ?_⟩⟩⟩, fun d => absurd rfl d⟩
    · have := (pk_lLE (a := K) (b := 1) (by omega) (by omega)).mp c
      exact hJ q (by have := b.1; omega) a b
    · have c' := mt (pk_lLE (a := K) (b := 1) (by omega) (by omega)).mpr c
      obtain ⟨j, rfl⟩ : ∃ j, K = j + 1 := ⟨K - 1, by omega⟩
      rw [lN_m1] at e4
      subst e4
      have mm := measD (K := j) (by omega)
      refine s_isP9 ht (by omega) (fun hp => ⟨⟨j, by omega, by omega, rfl, Or.inr ⟨rfl, by omega, hp, fun q a b => hJ q (by omega) b⟩⟩, ?_⟩) (fun hp => ⟨⟨j, by omega, by omega, rfl, Or.inl ⟨rfl, fun q a b => ?_⟩⟩, ?_⟩)
      · show (if (1 : Int32) = 0 then _ else 0) < (if (0 : Int32) = 0 then (lN (j + 1)).toInt.toNat else 0)
        rw [if_neg (by decide), if_pos rfl]
        omega
      · by_cases y : q = j
        · rw [y]; exact hp
        · exact hJ q (by omega) b
      · show (if (0 : Int32) = 0 then (lN j).toInt.toNat else 0) < (if (0 : Int32) = 0 then (lN (j + 1)).toInt.toNat else 0)
        rw [if_pos rfl, if_pos rfl]
        exact mm
  · exact ⟨fun c => absurd c (by decide), fun _ => ⟨fun c => absurd c (by decide), fun _ => h K (Or.inr ⟨g1, g2, g3⟩)⟩⟩

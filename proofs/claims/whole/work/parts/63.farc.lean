abbrev ft_ (a b n : Nat) : Nat → Int := fun x => ra_ a x * si_ (ra_ b) (n / x)
theorem s_farSum {a b n : Nat} (ha : far_ a) (hb : far_ b) (hn : n ≤ 1000000000) {Q : Int64 → Prop} (h : Q (Int64.ofInt (si_ (ft_ a b n) n))) : wp_X7_farSum (nI a) (nI b) (nI n) Q := by
  unfold wp_X7_farSum
  rw [nI_l (by omega)]
  refine s_root (by omega) (fun r hr h1 h2 => ?_)
  have hrn : r ≤ n := by
    rcases Nat.eq_zero_or_pos r with q | q
    · omega
    · have := Nat.mul_le_mul_left r q
      omega
  refine ⟨fun x f => ∃ i : Nat, i ≤ r ∧ x = lN (i + 1) ∧ f = Int64.ofInt (si_ (fun d => ft_ a b n d + ft_ b a n d) i), fun x _ => (200000 - x.toInt).toNat, ⟨0, by omega, rfl, (show (0 : Int64) = Int64.ofInt 0 from by decide)⟩, ?_⟩
  rintro x f ⟨i, hi, rfl, rfl⟩
  refine ⟨fun c => ?_, fun c => ⟨fun e => ?_, fun x9 e9 => ?_⟩⟩
  · have c' := (pk_lLT (by omega) (by omega)).mp c
    have : i = r := by omega
    subst this
    refine s_ruleUpTo ha (by omega) (s_ruleUpTo hb (by omega) ?_)
    rw [← Int64.ofInt_mul, ← Int64.ofInt_sub, si_add]
    rw [hyper h1 h2] at h
    exact h
  · have := (pk_lEQ (a := i + 1) (b := 0) (by omega) (by omega)).mp e
    omega
  · have c' := mt (pk_lLT (a := r) (b := i + 1) (by omega) (by omega)).mpr c
    rw [pk_lDiv (by omega) (by omega) (by omega)] at e9
    subst e9
    have hd := Nat.div_le_self n (i + 1)
    refine s_ruleAt ha (by omega) (s_ruleUpTo hb (by omega) (s_ruleAt hb (by omega) (s_ruleUpTo ha (by omega) (fun x5 e5 x7 e7 => ?_))))
    rw [← Int64.ofInt_mul, ← Int64.ofInt_mul, ← Int64.ofInt_add, ← Int64.ofInt_add] at e5
    rw [lN_1] at e7
    subst e5 e7
    exact ⟨⟨i + 1, by omega, rfl, rfl⟩, meas (by omega)⟩
theorem blk_div {n d x : Nat} (hd : 1 ≤ d) (hdn : d ≤ n) (h1 : d ≤ x) (h2 : x ≤ n / (n / d)) : n / x = n / d := by
  have hq : 1 ≤ n / d := (Nat.le_div_iff_mul_le (by omega)).mpr (by omega)
  have a : n / x ≤ n / d := Nat.div_le_div_left h1 (by omega)
  have b : n / d ≤ n / x := by
    have := (Nat.le_div_iff_mul_le (x := x) (y := n) (k := n / d) (by omega)).mp h2
    exact (Nat.le_div_iff_mul_le (by omega)).mpr (by rw [Nat.mul_comm]; exact this)
  omega
theorem si_blk {F a : Nat → Int} {c : Int} {e : Nat} : ∀ l, e ≤ l → (∀ x, e < x → x ≤ l → F x = a x * c) → si_ F l = si_ F e + (si_ a l - si_ a e) * c := by
  intro l
  induction l with
  | zero =>
    intro h _
    have : e = 0 := by omega
    subst this
    rw [Int.sub_self, Int.zero_mul, Int.add_zero]
  | succ l ih =>
    intro h hF
    by_cases q : e = l + 1
    · subst q
      rw [Int.sub_self, Int.zero_mul, Int.add_zero]
    · show si_ F l + F (l + 1) = si_ F e + (si_ a l + a (l + 1) - si_ a e) * c
      rw [ih (by omega) (fun x h1 h2 => hF x h1 (by omega)), hF (l + 1) (by omega) (by omega)]
      grind
theorem s_isFar {p : Int32} {Q : Int32 → Prop} (h1 : ∀ k : Nat, far_ k → p = nI k → Q 1) (h0 : (∀ k : Nat, far_ k → p ≠ nI k) → Q 0) : wp_X9_isFar p Q := by
  unfold wp_X9_isFar
  refine ⟨fun c => h1 0 (Or.inl rfl) c, fun c0 => ⟨fun c => h1 1 (Or.inr (Or.inl rfl)) c, fun c1 => ⟨fun c => h1 2 (Or.inr (Or.inr (Or.inl rfl))) c, fun c2 => ⟨fun c => h1 9 (Or.inr (Or.inr (Or.inr rfl))) c, fun c9 => h0 ?_⟩⟩⟩⟩
  rintro k (rfl | rfl | rfl | rfl) e
  · exact c0 e
  · exact c1 e
  · exact c2 e
  · exact c9 e
theorem s_isFar7 {p : Int32} {Q : Int32 → Prop} (h1 : ∀ k : Nat, far_ k → p = nI k → Q 1) (h0 : (∀ k : Nat, far_ k → p ≠ nI k) → Q 0) : wp_X7_isFarRule p Q := s_isFar h1 h0
theorem meas2 {l e : Nat} (hl : l ≤ 1000000000) (h : e < l) : (2000000000 - (lN (l + 1)).toInt).toNat < (2000000000 - (lN (e + 1)).toInt).toNat := by
  rw [tl (n := l + 1) (by omega), tl (n := e + 1) (by omega)]
  omega
theorem s_far9 {a b n : Nat} (ha : far_ a) (hb : far_ b) (hn : n ≤ 1000000000) {Q : Int64 → Prop} (h : Q (Int64.ofInt (si_ (ft_ a b n) n))) : wp_X9_far (nI a) (nI b) (nI n) Q := by
  unfold wp_X9_far
  refine s_isFar (fun k _ _ => ⟨fun c => absurd c (by decide), fun _ => ?_⟩) (fun q => absurd rfl (q a ha))
  refine s_isFar (fun k _ _ => ⟨fun c => absurd c (by decide), fun _ => ?_⟩) (fun q => absurd rfl (q b hb))
  have en := tn (n := n) (by omega)
  refine s_in (fun _ _ => ⟨fun c => absurd c (by decide), fun _ => ?_⟩) (fun c => ?_)
  rotate_left
  · rw [i2l_t, en] at c
    have c' : (n : Int) < 0 ∨ (1000000000 : Int) < (n : Int) := c
    omega
  rw [nI_l (by omega)]
  refine ⟨fun x f => ∃ e : Nat, e ≤ n ∧ x = lN (e + 1) ∧ f = Int64.ofInt (si_ (ft_ a b n) e), fun x _ => (2000000000 - x.toInt).toNat, ⟨0, by omega, rfl, (show (0 : Int64) = Int64.ofInt 0 from by decide)⟩, ?_⟩
  rintro x f ⟨e, he, rfl, rfl⟩
  refine ⟨fun c => ?_, fun c => ⟨fun q => ?_, fun x8 e8 => ?_⟩⟩
  · have c' := (pk_lLT (by omega) (by omega)).mp c
    have : e = n := by omega
    subst this
    exact h
  · have := (pk_lEQ (a := e + 1) (b := 0) (by omega) (by omega)).mp q
    omega
  · have c' := mt (pk_lLT (a := n) (b := e + 1) (by omega) (by omega)).mpr c
    rw [pk_lDiv (by omega) (by omega) (by omega)] at e8
    subst e8
    have hq : 1 ≤ n / (e + 1) := (Nat.le_div_iff_mul_le (by omega)).mpr (by omega)
    have hqn := Nat.div_le_self n (e + 1)
    have hln := Nat.div_le_self n (n / (e + 1))
    have hel : e + 1 ≤ n / (n / (e + 1)) := by
      refine (Nat.le_div_iff_mul_le (by omega)).mpr ?_
      rw [Nat.mul_comm]
      exact Nat.div_mul_le_self n (e + 1)
    refine ⟨fun q => ?_, fun x10 e10 => ?_⟩
    · have := (pk_lEQ (a := n / (e + 1)) (b := 0) (by omega) (by omega)).mp q
      omega
    · rw [pk_lDiv (by omega) (by omega) (by omega)] at e10
      subst e10
      rw [show (1 : Int64) = lN 1 from rfl, lN_sub (a := e + 1) (b := 1) (by omega), show e + 1 - 1 = e from rfl]
      refine s_upTo9 ha (by omega) (s_upTo9 ha (by omega) (s_upTo9 hb (by omega) (fun x4 e4 x6 e6 => ?_)))
      rw [← Int64.ofInt_sub, ← Int64.ofInt_mul, ← Int64.ofInt_add] at e4
      rw [lN_add] at e6
      subst e4 e6
      refine ⟨⟨n / (n / (e + 1)), hln, rfl, ?_⟩, meas2 (by omega) (by omega)⟩
      congr 1
      refine (si_blk (a := ra_ a) _ (by omega) (fun x h1 h2 => ?_)).symm
      show ra_ a x * si_ (ra_ b) (n / x) = ra_ a x * si_ (ra_ b) (n / (e + 1))
      rw [blk_div (by omega) (by omega) (by omega) h2]
theorem s_far9N {p1 p2 p3 : Int32} (h : (∀ k : Nat, far_ k → p1 ≠ nI k) ∨ (∀ k : Nat, far_ k → p2 ≠ nI k) ∨ p3.toInt < 0 ∨ 1000000000 < p3.toInt) {Q : Int64 → Prop} (hq : Q 0) : wp_X9_far p1 p2 p3 Q := by
  unfold wp_X9_far
  refine s_isFar (fun k h1 e1 => ⟨fun c => absurd c (by decide), fun _ => ?_⟩) (fun _ => ⟨fun _ => hq, fun c => absurd rfl c⟩)
  refine s_isFar (fun t h2 e2 => ⟨fun c => absurd c (by decide), fun _ => ?_⟩) (fun _ => ⟨fun _ => hq, fun c => absurd rfl c⟩)
  refine s_in (fun a b => ?_) (fun _ => ⟨fun _ => hq, fun c => absurd rfl c⟩)
  rw [i2l_t] at a b
  have a' : (0 : Int) ≤ p3.toInt := a
  have b' : p3.toInt ≤ (1000000000 : Int) := b
  exfalso
  rcases h with q | q | q
  · exact q k h1 e1
  · exact q t h2 e2
  · omega
theorem t_far {Inv : XC_ → MC_ → Prop} : st_far Inv := by
  rintro ⟨oP, oS, oT, oU, oG, oR⟩ ⟨m0, m1, m2, m3, m4, m5, m6, m7, m8, m9, m10, m11, m12, m13, m14, m15, m16, m17, m18⟩ p1 p2 p3 hI
  refine ⟨0, 0, by omega, by omega, ?_⟩
  unfold wpx_far
  refine ⟨rfl, rfl, ?_⟩
  unfold wp_X8_far
  refine s_isFar7 (fun a ha ea => ⟨fun c => absurd c (by decide), fun _ => ?_⟩) (fun q => ⟨fun _ => ⟨le00, le00, s_far9N (Or.inl q) ⟨rfl, hI⟩⟩, fun c => absurd rfl c⟩)
  refine s_isFar7 (fun b hb eb => ⟨fun c => absurd c (by decide), fun _ => ?_⟩) (fun q => ⟨fun _ => ⟨le00, le00, s_far9N (Or.inr (Or.inl q)) ⟨rfl, hI⟩⟩, fun c => absurd rfl c⟩)
  refine ⟨fun c => ⟨le00, le00, s_far9N (Or.inr (Or.inr (Or.inl (ilt.mp c)))) ⟨rfl, hI⟩⟩, fun c => ⟨fun d => ?_, fun d => ⟨le00, le00, s_far9N (Or.inr (Or.inr (Or.inr ?_))) ⟨rfl, hI⟩⟩⟩⟩
  · have c' : ¬ p3.toInt < 0 := fun q => c (ilt.mpr q)
    have d' : p3.toInt ≤ (1000000000 : Int) := ile.mp d
    obtain ⟨n, hn, e3⟩ := i_big p3 (k := 1000000000) (by omega) (by omega) (by omega)
    subst ea eb e3
    exact s_farSum ha hb hn ⟨le00, le00, s_far9 ha hb hn ⟨rfl, hI⟩⟩
  · have d' : ¬ p3.toInt ≤ (1000000000 : Int) := fun q => d (ile.mpr q)
    show (1000000000 : Int) < p3.toInt
    omega

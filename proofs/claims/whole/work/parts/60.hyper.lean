/-! sums over Int, and the places under a hyperbola counted along both axes -/
def si_ (f : Nat → Int) : Nat → Int
  | 0 => 0
  | n + 1 => si_ f n + f (n + 1)
theorem si_ext {f g : Nat → Int} : ∀ n, (∀ i, 1 ≤ i → i ≤ n → f i = g i) → si_ f n = si_ g n := by
  intro n
  induction n with
  | zero => intro _; rfl
  | succ n ih =>
    intro h
    show si_ f n + f (n + 1) = si_ g n + g (n + 1)
    rw [ih (fun i a b => h i a (by omega)), h (n + 1) (by omega) (by omega)]
theorem si_add {f g : Nat → Int} : ∀ n, si_ (fun i => f i + g i) n = si_ f n + si_ g n := by
  intro n
  induction n with
  | zero => rfl
  | succ n ih =>
    show si_ (fun i => f i + g i) n + (f (n + 1) + g (n + 1)) = si_ f n + f (n + 1) + (si_ g n + g (n + 1))
    rw [ih]; omega
theorem si_mul {f : Nat → Int} {c : Int} : ∀ n, si_ (fun i => c * f i) n = c * si_ f n := by
  intro n
  induction n with
  | zero => exact (Int.mul_zero c).symm
  | succ n ih =>
    show si_ (fun i => c * f i) n + c * f (n + 1) = c * (si_ f n + f (n + 1))
    rw [ih, Int.mul_add]
theorem si_zero : ∀ n, si_ (fun _ => 0) n = 0 := by
  intro n
  induction n with
  | zero => rfl
  | succ n ih =>
    show si_ (fun _ => 0) n + 0 = 0
    rw [ih]; rfl
theorem si_swap {g : Nat → Nat → Int} {M : Nat} : ∀ N, si_ (fun x => si_ (fun y => g x y) M) N = si_ (fun y => si_ (fun x => g x y) N) M := by
  intro N
  induction N with
  | zero => exact (si_zero M).symm
  | succ N ih =>
    show si_ (fun x => si_ (fun y => g x y) M) N + si_ (fun y => g (N + 1) y) M = si_ (fun y => si_ (fun x => g x y) N + g (N + 1) y) M
    rw [ih, si_add]
/-- a sum cut off by a bound is one over a mask -/
theorem si_cut {f : Nat → Int} {k : Nat} : ∀ M, k ≤ M → si_ (fun y => if y ≤ k then f y else 0) M = si_ f k := by
  intro M
  induction M with
  | zero =>
    intro h
    have : k = 0 := by omega
    subst this; rfl
  | succ M ih =>
    intro h
    show si_ (fun y => if y ≤ k then f y else 0) M + (if M + 1 ≤ k then f (M + 1) else 0) = si_ f k
    by_cases e : k = M + 1
    · subst e
      rw [if_pos (Nat.le_refl _)]
      show _ = si_ f M + f (M + 1)
      rw [si_ext M (g := f) (fun i _ b => if_pos (by omega))]
    · rw [if_neg (by omega), ih (by omega), Int.add_zero]
theorem mul_le_div {x y n : Nat} (hx : 1 ≤ x) : x * y ≤ n ↔ y ≤ n / x := by
  rw [Nat.le_div_iff_mul_le hx, Nat.mul_comm]
/-- the sum over all places x y at most n, x up to N, y up to M -/
def hy_ (a b : Nat → Int) (n N M : Nat) : Int := si_ (fun x => si_ (fun y => if x * y ≤ n then a x * b y else 0) M) N
theorem hy_row {a b : Nat → Int} {n x M : Nat} (hx : 1 ≤ x) (hM : n / x ≤ M) : si_ (fun y => if x * y ≤ n then a x * b y else 0) M = a x * si_ b (n / x) := by
  rw [← si_mul, ← si_cut (f := fun y => a x * b y) M hM]
  refine si_ext M (fun y h1 h2 => ?_)
  by_cases c : x * y ≤ n
  · rw [if_pos c, if_pos ((mul_le_div hx).mp c)]
  · rw [if_neg c, if_neg (fun q => c ((mul_le_div hx).mpr q))]
theorem hy_all {a b : Nat → Int} {n N : Nat} (hN : N ≤ n) : hy_ a b n N n = si_ (fun x => a x * si_ b (n / x)) N :=
  si_ext N (fun x h1 h2 => hy_row h1 (Nat.div_le_self n x))
theorem hy_swap {a b : Nat → Int} {n N M : Nat} : hy_ a b n N M = hy_ b a n M N := by
  unfold hy_
  rw [si_swap]
  refine si_ext M (fun y _ _ => si_ext N (fun x _ _ => ?_))
  rw [Nat.mul_comm x y, Int.mul_comm]
theorem hyper {a b : Nat → Int} {n R : Nat} (h1 : R * R ≤ n) (h2 : n < (R + 1) * (R + 1)) : si_ (fun x => a x * si_ b (n / x)) n = si_ (fun d => a d * si_ b (n / d)) R + si_ (fun d => b d * si_ a (n / d)) R - si_ a R * si_ b R := by
  have hRn : R ≤ n := by
    rcases Nat.eq_zero_or_pos R with q | q
    · omega
    · have := Nat.mul_le_mul_left R q
      omega
  have hrow : ∀ N, R ≤ N → hy_ a b n N n - hy_ a b n R n = hy_ a b n N R - hy_ a b n R R := by
    intro N
    induction N with
    | zero =>
      intro h
      have : R = 0 := by omega
      subst this; rfl
    | succ N ih =>
      intro h
      by_cases e : R = N + 1
      · subst e; omega
      · have h' := ih (by omega)
        have e1 : hy_ a b n (N + 1) n = hy_ a b n N n + si_ (fun y => if (N + 1) * y ≤ n then a (N + 1) * b y else 0) n := rfl
        have e2 : hy_ a b n (N + 1) R = hy_ a b n N R + si_ (fun y => if (N + 1) * y ≤ n then a (N + 1) * b y else 0) R := rfl
        have hd : n / (N + 1) ≤ R := by
          rcases Nat.lt_or_ge R (n / (N + 1)) with q | q
          · exfalso
            have q1 := (mul_le_div (x := N + 1) (y := R + 1) (n := n) (by omega)).mpr q
            have q2 := Nat.mul_le_mul_right (R + 1) (show R + 1 ≤ N + 1 by omega)
            omega
          · exact q
        rw [hy_row (by omega) (Nat.div_le_self n (N + 1))] at e1
        rw [hy_row (by omega) hd] at e2
        omega
  have e3 : hy_ a b n R R = si_ a R * si_ b R := by
    unfold hy_
    rw [Int.mul_comm, ← si_mul]
    refine si_ext R (fun x x1 x2 => ?_)
    rw [Int.mul_comm, ← si_mul]
    refine si_ext R (fun y y1 y2 => if_pos ?_)
    have := Nat.mul_le_mul x2 y2
    omega
  have e4 := hrow n hRn
  have e5 : hy_ a b n n R = si_ (fun d => b d * si_ a (n / d)) R := by
    rw [hy_swap]; exact hy_all hRn
  rw [hy_all (Nat.le_refl n), hy_all hRn, e5, e3] at e4
  omega

def sm_ (f : Nat → Int64) : Nat → Int64
  | 0 => 0
  | n + 1 => sm_ f n + f (n + 1)
theorem sm_eq {f g : Nat → Int64} : ∀ n, (∀ j, 1 ≤ j → j ≤ n → f j = g j) → sm_ f n = sm_ g n := by
  intro n
  induction n with
  | zero => intro _; rfl
  | succ n ih =>
    intro h
    show sm_ f n + f (n + 1) = sm_ g n + g (n + 1)
    rw [ih (fun j a b => h j a (by omega)), h (n + 1) (by omega) (by omega)]
theorem s_sumTo {v : Nat → Int64} {r n : Nat} (hr : r < 16) (hn : n ≤ 600) {Q : Int64 → Prop} (h : Q (sm_ (fun j => v (600 * r + j - 1)) n)) : wp_X5_sumTo v (nI r) (nI n) Q := by
  unfold wp_X5_sumTo
  refine ⟨fun x s => ∃ i : Nat, i ≤ n ∧ x = nI (i + 1) ∧ s = sm_ (fun j => v (600 * r + j - 1)) i, fun x s => (700 - x.toInt).toNat, ⟨0, by omega, rfl, rfl⟩, ?_⟩
  rintro x s ⟨i, hi, rfl, rfl⟩
  have e1 := tn (n := i + 1) (by omega)
  have e2 := tn (n := n) (by omega)
  refine ⟨fun c => ?_, fun c => ⟨fun d => ?_, fun d => ?_⟩⟩
  · have c' := ilt.mp c
    rw [e1, e2] at c'
    have : i = n := by omega
    rw [this]; exact h
  · have d' : (600 : Int) < (nI (i + 1)).toInt := ilt.mp d
    have : i = n := by omega
    rw [this]; exact h
  · have c' := mt ilt.mpr c
    rw [e1, e2] at c'
    refine s_look hr (by omega) (by omega) (fun s2 hs x2 hx => ?_)
    rw [show nI (i + 1) + (1 : Int32) = nI (i + 1 + 1) from nI_1 (i + 1)] at hx
    subst hx hs
    refine ⟨⟨i + 1, by omega, rfl, rfl⟩, ?_⟩
    show (700 - (nI (i + 1 + 1)).toInt).toNat < (700 - (nI (i + 1)).toInt).toNat
    rw [tn (n := i + 1 + 1) (by omega), e1]
    omega
/-- the reference's sum: where the loop goes on at all -/
theorem s_sumOf9 {row : Nat → Int64} {k r n : Nat} (hk : k ≤ 16) (hr : r < k) (hn : n ≤ 600) {Q : Int64 → Prop} (h : Q (sm_ (fun j => row (601 * r + j)) n)) : wp_X9_sumOf (nI k) row (nI r) (nI n) Q := by
  unfold wp_X9_sumOf
  refine ⟨fun x s => ∃ i : Nat, i ≤ n ∧ x = nI (i + 1) ∧ s = sm_ (fun j => row (601 * r + j)) i, fun x s => (700 - x.toInt).toNat, ⟨0, by omega, rfl, rfl⟩, ?_⟩
  rintro x s ⟨i, hi, rfl, rfl⟩
  have e1 := tn (n := i + 1) (by omega)
  have e2 := tn (n := n) (by omega)
  refine ⟨fun c => ?_, fun c => ?_⟩
  · have c' := ilt.mp c
    rw [e1, e2] at c'
    have : i = n := by omega
    rw [this]; exact h
  · have c' := mt ilt.mpr c
    rw [e1, e2] at c'
    refine s_isRow hk (fun r2 _ e => ⟨fun c => absurd c (by decide), fun _ => ?_⟩) (fun hn2 => absurd rfl (hn2 r hr))
    refine s_in (fun _ _ => ⟨fun c => absurd c (by decide), fun _ => ?_⟩) (fun a => ?_)
    · rw [ix601, nI_clamp (by omega)]
      refine ⟨vp_in_nI (by omega) (by omega), fun s2 hs x2 hx => ?_⟩
      rw [show nI (i + 1) + (1 : Int32) = nI (i + 1 + 1) from nI_1 (i + 1)] at hx
      subst hx hs
      refine ⟨⟨i + 1, by omega, rfl, rfl⟩, ?_⟩
      show (700 - (nI (i + 1 + 1)).toInt).toNat < (700 - (nI (i + 1)).toInt).toNat
      rw [tn (n := i + 1 + 1) (by omega), e1]
      omega
    · rw [i2l_t, e2] at a
      have a' : (n : Int) < 0 ∨ (600 : Int) < (n : Int) := a
      omega
/-- no such row, or no such n: the loop ends at once -/
theorem s_sumOf9N {row : Nat → Int64} {k : Nat} (hk : k ≤ 16) {p1 p2 : Int32} (hn : (∀ r : Nat, r < k → p1 ≠ nI r) ∨ p2.toInt < 0 ∨ 600 < p2.toInt) {Q : Int64 → Prop} (h : Q 0) : wp_X9_sumOf (nI k) row p1 p2 Q := by
  unfold wp_X9_sumOf
  refine ⟨fun x s => x = 1 ∧ s = 0, fun x s => 0, ⟨rfl, rfl⟩, ?_⟩
  rintro x s ⟨rfl, rfl⟩
  refine ⟨fun c => h, fun c => ?_⟩
  refine s_isRow hk (fun r hr e => ⟨fun c => absurd c (by decide), fun _ => ?_⟩) (fun _ => ⟨fun _ => h, fun c => absurd rfl c⟩)
  rcases hn with q | q
  · exact absurd e (q r hr)
  · refine s_in (fun a b => ?_) (fun _ => ⟨fun _ => h, fun c => absurd rfl c⟩)
    rw [i2l_t] at a b
    have a' : (0 : Int) ≤ p2.toInt := a
    have b' : p2.toInt ≤ (600 : Int) := b
    omega
theorem t_sumOf {Inv : XC_ → MC_ → Prop} (hr : HR Inv) : st_sumOf Inv := by
  rintro ⟨oP, oS, oT, oU, oG, oR⟩ ⟨m0, m1, m2, m3, m4, m5, m6, m7, m8, m9, m10, m11, m12, m13, m14, m15, m16, m17, m18⟩ p1 p2 hI
  refine ⟨0, 0, by omega, by omega, ?_⟩
  have hR := hr _ _ hI
  rcases oR with _ | ⟨v, mm⟩
  · obtain rfl : m14 = nI 0 := hR
    unfold wpx_sumOf
    dsimp only
    refine ⟨rfl, rfl, ?_⟩
    unfold wp_X8_sumOf_c0 wp_X8_hasRow_c0
    refine ⟨fun _ => ⟨le00, le00, ?_⟩, fun c => absurd rfl c⟩
    exact s_sumOf9N (k := 0) (by omega) (Or.inl (fun r h => absurd h (Nat.not_lt_zero r))) ⟨rfl, hI⟩
  · obtain ⟨k, hk, e1, e2, hv⟩ := hR
    dsimp only at e1 e2 hv
    subst e1 e2
    unfold wpx_sumOf
    dsimp only
    refine ⟨rfl, rfl, ?_⟩
    unfold wp_X8_sumOf_c1
    refine s_hasRow hk (fun r h e => ⟨fun c => absurd c (by decide), fun _ => ?_⟩) (fun hn => ⟨fun _ => ⟨le00, le00, ?_⟩, fun c => absurd rfl c⟩)
    · subst e
      refine ⟨fun c => ⟨le00, le00, ?_⟩, fun c => ⟨fun d => ?_, fun d => ⟨le00, le00, ?_⟩⟩⟩
      · have c' : p2.toInt < 0 := ilt.mp c
        exact s_sumOf9N hk (Or.inr (Or.inl c')) ⟨rfl, hI⟩
      · have c' : ¬ p2.toInt < 0 := fun q => c (ilt.mpr q)
        have d' : p2.toInt ≤ 600 := ile.mp d
        obtain ⟨n, hn, e1, e2⟩ := i_nat (a := p2) (by omega)
        subst e1
        refine s_sumTo (by omega) (by omega) ⟨le00, le00, ?_⟩
        refine s_sumOf9 hk h (by omega) ⟨?_, hI⟩
        exact sm_eq n (fun j a b => hv r j h a (by omega))
      · have d' : ¬ p2.toInt ≤ 600 := fun q => d (ile.mpr q)
        exact s_sumOf9N hk (Or.inr (Or.inr (by omega))) ⟨rfl, hI⟩
    · exact s_sumOf9N hk (Or.inl hn) ⟨rfl, hI⟩

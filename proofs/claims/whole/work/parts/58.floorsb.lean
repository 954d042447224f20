def l9I_ (tot : Nat) (goes : Int32) (sum m b a n : Int64) : Prop := (goes = 0 ∧ sum = lN tot) ∨ (goes = 1 ∧ ∃ T s N A B M : Nat, flI_ tot T s N A B M ∧ sum = lN s ∧ n = lN N ∧ a = lN A ∧ b = lN B ∧ m = lN M)
theorem i_big (p : Int32) {k : Nat} (hk : k < 2147483648) : p.toInt ≤ (k : Int) → 0 ≤ p.toInt → ∃ n : Nat, n ≤ k ∧ p = nI n := by
  intro a b
  obtain ⟨n, hn, e1, e2⟩ := i_nat b
  exact ⟨n, by omega, e1⟩
theorem s_floors9 {N A B M : Nat} (hM : 1 ≤ M) (hM2 : M ≤ 1000000) (hA : A ≤ 1000000) (hB : B ≤ 1000000) (hN : N ≤ 1000000000) {Q : Int64 → Prop} (hq : Q (lN (fl_ 64 N A B M))) : wp_X9_floors (nI N) (nI A) (nI B) (nI M) Q := by
  unfold wp_X9_floors
  have eN := tn (n := N) (by omega)
  have eA := tn (n := A) (by omega)
  have eB := tn (n := B) (by omega)
  have eM := tn (n := M) (by omega)
  refine s_in (fun _ _ => ⟨fun c => absurd c (by decide), fun _ => ?_⟩) (fun c => ?_)
  rotate_left
  · rw [i2l_t, eN] at c
    have c' : (N : Int) < 0 ∨ (1000000000 : Int) < (N : Int) := c
    omega
  refine s_in (fun _ _ => ⟨fun c => absurd c (by decide), fun _ => ?_⟩) (fun c => ?_)
  rotate_left
  · rw [i2l_t, eA] at c
    have c' : (A : Int) < 0 ∨ (1000000 : Int) < (A : Int) := c
    omega
  refine s_in (fun _ _ => ⟨fun c => absurd c (by decide), fun _ => ?_⟩) (fun c => ?_)
  rotate_left
  · rw [i2l_t, eB] at c
    have c' : (B : Int) < 0 ∨ (1000000 : Int) < (B : Int) := c
    omega
  refine s_in (fun _ _ => ⟨fun c => absurd c (by decide), fun _ => ?_⟩) (fun c => ?_)
  rotate_left
  · rw [i2l_t, eM] at c
    have c' : (M : Int) < 1 ∨ (1000000 : Int) < (M : Int) := c
    omega
  intro x5 e5 x7 e7 x9 e9 x11 e11
  rw [nI_l (by omega)] at e5 e7 e9 e11
  subst e5 e7 e9 e11
  refine ⟨l9I_ (fl_ 64 N A B M), fun goes _ m _ _ _ => if goes = 0 then 0 else m.toInt.toNat + 1, Or.inr ⟨rfl, 0, 0, N, A, B, M, ⟨by omega, hM, hM2, hA, hB, hN, Or.inl rfl, Nat.zero_add _⟩, rfl, rfl, rfl, rfl, rfl⟩, ?_⟩
  intro goes sum m b a n hI
  rcases hI with ⟨rfl, rfl⟩ | ⟨rfl, T, s, N', A', B', M', hI, rfl, rfl, rfl, rfl, rfl⟩
  · exact ⟨fun _ => hq, fun c => absurd rfl c⟩
  · obtain ⟨h1, h2, h3, h4, h5, h6, h7, h8⟩ := id hI
    have hne : ¬ lN M' = (0 : Int64) := fun e => by
      have := (pk_lEQ (a := M') (b := 0) (by omega) (by omega)).mp e
      omega
    have hh := fl_hb (N := N') (A := A') (B := B') h2 h3 h6
    have eM' := tl (n := M') (by omega)
    refine ⟨fun c => absurd c (by decide), fun _ => s_pairs h6 ⟨hne, hne, fun x13 e13 => ⟨hne, fun x7 e7 => ⟨hne, fun x9 e9 x16 e16 => ?_⟩⟩⟩⟩
    rw [pk_lDiv (by omega) (by omega) (by omega), pk_lDiv (by omega) (by omega) (by omega), lN_mul, lN_mul, lN_add, lN_add] at e13
    rw [pk_lRem (by omega) (by omega) (by omega)] at e7 e9
    rw [e7, e9, lN_mul, lN_add] at e16
    subst e13 e7 e9 e16
    refine ⟨fun c => ⟨fun _ => ?_, fun d => absurd rfl d⟩, fun c => ⟨fun d => absurd d (by decide), fun _ => ⟨hne, fun x5 e5 => ⟨hne, fun x9 e9 => ?_⟩⟩⟩⟩
    · have c' := (pk_lLT (by omega) (by omega)).mp c
      refine ⟨Or.inl ⟨rfl, by rw [fl_end hI (by omega)]⟩, ?_⟩
      show (if (0 : Int32) = 0 then 0 else _) < (if (1 : Int32) = 0 then 0 else (lN M').toInt.toNat + 1)
      rw [if_pos rfl, if_neg (by decide)]
      omega
    · have c' := mt (pk_lLT (by omega) (by omega)).mpr c
      rw [pk_lDiv (by omega) (by omega) (by omega)] at e5
      rw [pk_lRem (by omega) (by omega) (by omega)] at e9
      subst e5 e9
      have hst := fl_step hI (by omega)
      refine ⟨Or.inr ⟨rfl, T + 1, _, _, _, _, _, hst.1, rfl, rfl, rfl, rfl, rfl⟩, ?_⟩
      show (if (1 : Int32) = 0 then 0 else (lN (A' % M')).toInt.toNat + 1) < (if (1 : Int32) = 0 then 0 else (lN M').toInt.toNat + 1)
      rw [if_neg (by decide), if_neg (by decide), tl (by omega), eM']
      have := hst.2
      omega
/-- arguments outside: both answer -1 -/
theorem s_floors9N {p1 p2 p3 p4 : Int32} (h : p1.toInt < 0 ∨ 1000000000 < p1.toInt ∨ p2.toInt < 0 ∨ 1000000 < p2.toInt ∨ p3.toInt < 0 ∨ 1000000 < p3.toInt ∨ p4.toInt < 1 ∨ 1000000 < p4.toInt) {Q : Int64 → Prop} (hq : Q (-1)) : wp_X9_floors p1 p2 p3 p4 Q := by
  unfold wp_X9_floors
  refine s_in (fun a b => ⟨fun c => absurd c (by decide), fun _ => ?_⟩) (fun _ => ⟨fun _ => hq, fun c => absurd rfl c⟩)
  refine s_in (fun a2 b2 => ⟨fun c => absurd c (by decide), fun _ => ?_⟩) (fun _ => ⟨fun _ => hq, fun c => absurd rfl c⟩)
  refine s_in (fun a3 b3 => ⟨fun c => absurd c (by decide), fun _ => ?_⟩) (fun _ => ⟨fun _ => hq, fun c => absurd rfl c⟩)
  refine s_in (fun a4 b4 => ⟨fun c => absurd c (by decide), fun _ => ?_⟩) (fun _ => ⟨fun _ => hq, fun c => absurd rfl c⟩)
  exfalso
  rw [i2l_t] at a b a2 b2 a3 b3 a4 b4
  have a' : (0 : Int) ≤ p1.toInt := a
  have b' : p1.toInt ≤ (1000000000 : Int) := b
  have a2' : (0 : Int) ≤ p2.toInt := a2
  have b2' : p2.toInt ≤ (1000000 : Int) := b2
  have a3' : (0 : Int) ≤ p3.toInt := a3
  have b3' : p3.toInt ≤ (1000000 : Int) := b3
  have a4' : (1 : Int) ≤ p4.toInt := a4
  have b4' : p4.toInt ≤ (1000000 : Int) := b4
  omega
theorem t_floors {Inv : XC_ → MC_ → Prop} : st_floors Inv := by
  rintro ⟨oP, oS, oT, oU, oG, oR⟩ ⟨m0, m1, m2, m3, m4, m5, m6, m7, m8, m9, m10, m11, m12, m13, m14, m15, m16, m17, m18⟩ p1 p2 p3 p4 hI
  refine ⟨0, 0, by omega, by omega, ?_⟩
  unfold wpx_floors
  refine ⟨rfl, rfl, ?_⟩
  unfold wp_X8_floors
  have no : (p1.toInt < 0 ∨ 1000000000 < p1.toInt ∨ p2.toInt < 0 ∨ 1000000 < p2.toInt ∨ p3.toInt < 0 ∨ 1000000 < p3.toInt ∨ p4.toInt < 1 ∨ 1000000 < p4.toInt) → wp_X9_floors p1 p2 p3 p4 (fun r2 => (-1 : Int64) = r2 ∧ Inv (oP, oS, oT, oU, oG, oR) (m0, m1, m2, m3, m4, m5, m6, m7, m8, m9, m10, m11, m12, m13, m14, m15, m16, m17, m18)) := fun h => s_floors9N h ⟨rfl, hI⟩
  refine ⟨fun c1 => ⟨le00, le00, no ?_⟩, fun c1 => ⟨fun c2 => ⟨le00, le00, no ?_⟩, fun c2 => ⟨fun c3 => ⟨le00, le00, no ?_⟩, fun c3 => ⟨fun c4 => ⟨le00, le00, no ?_⟩, fun c4 => ⟨fun c5 => ⟨le00, le00, no ?_⟩, fun c5 => ⟨fun c6 => ⟨fun c7 => ⟨le00, le00, no ?_⟩, fun c7 => ⟨fun c8 => ?_, fun c8 => ⟨le00, le00, no ?_⟩⟩⟩, fun c6 => ⟨le00, le00, no ?_⟩⟩⟩⟩⟩⟩⟩
  · exact Or.inl (ilt.mp c1)
  · exact Or.inr (Or.inl (ilt.mp c2))
  · exact Or.inr (Or.inr (Or.inl (ilt.mp c3)))
  · exact Or.inr (Or.inr (Or.inr (Or.inl (ilt.mp c4))))
  · exact Or.inr (Or.inr (Or.inr (Or.inr (Or.inl (ilt.mp c5)))))
  · exact Or.inr (Or.inr (Or.inr (Or.inr (Or.inr (Or.inr (Or.inl (ilt.mp c7)))))))
  · have d1 : ¬ p1.toInt < 0 := fun q => c1 (ilt.mpr q)
    have d2 : ¬ (1000000000 : Int) < p1.toInt := fun q => c2 (ilt.mpr q)
    have d3 : ¬ p2.toInt < 0 := fun q => c3 (ilt.mpr q)
    have d4 : ¬ (1000000 : Int) < p2.toInt := fun q => c4 (ilt.mpr q)
    have d5 : ¬ p3.toInt < 0 := fun q => c5 (ilt.mpr q)
    have d6 : p3.toInt ≤ (1000000 : Int) := ile.mp c6
    have d7 : ¬ p4.toInt < 1 := fun q => c7 (ilt.mpr q)
    have d8 : p4.toInt ≤ (1000000 : Int) := ile.mp c8
    obtain ⟨N, hN, e1⟩ := i_big p1 (k := 1000000000) (by omega) (by omega) (by omega)
    obtain ⟨A, hA, e2⟩ := i_big p2 (k := 1000000) (by omega) (by omega) (by omega)
    obtain ⟨B, hB, e3⟩ := i_big p3 (k := 1000000) (by omega) (by omega) (by omega)
    obtain ⟨M, hM, e4⟩ := i_big p4 (k := 1000000) (by omega) (by omega) (by omega)
    subst e1 e2 e3 e4
    have eM := tn (n := M) (by omega)
    rw [nI_l (by omega), nI_l (by omega), nI_l (by omega), nI_l (by omega)]
    exact s_floorSum (by omega) hM hA hB hN ⟨le00, le00, s_floors9 (by omega) hM hA hB hN ⟨rfl, hI⟩⟩
  · have d8 : ¬ p4.toInt ≤ (1000000 : Int) := fun q => c8 (ile.mpr q)
    exact Or.inr (Or.inr (Or.inr (Or.inr (Or.inr (Or.inr (Or.inr (by omega)))))))
  · have d6 : ¬ p3.toInt ≤ (1000000 : Int) := fun q => c6 (ile.mpr q)
    exact Or.inr (Or.inr (Or.inr (Or.inr (Or.inr (Or.inl (by omega))))))

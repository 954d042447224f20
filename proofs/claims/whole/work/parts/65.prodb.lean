theorem s_prod9 {row : Nat → Int64} {k a b : Nat} (hk : k ≤ 16) (ha : a < k) (hb : b < k) {Q : Int32 → Int32 → (Nat → Int64) → Prop} (hf : k = 16 → Q (-1) (nI k) row) (hg : k < 16 → ∀ row', rw9_ row row' k (fun m => sm_ (dv_ (fun j => row (601 * a + j)) (fun j => row (601 * b + j)) m) m) → Q (nI k) (nI (k + 1)) row') : wp_X9_product (nI k) row (nI a) (nI b) Q := by
  unfold wp_X9_product
  refine s_isRow hk (fun _ _ _ => ⟨fun c => absurd c (by decide), fun _ => ?_⟩) (fun q => absurd rfl (q a ha))
  refine s_isRow hk (fun _ _ _ => ⟨fun c => absurd c (by decide), fun _ => ?_⟩) (fun q => absurd rfl (q b hb))
  refine ⟨fun c => hf ((k_ne16 hk).mp c), fun c => ?_⟩
  have hk2 : k < 16 := by
    have := mt (k_ne16 hk).mpr c
    omega
  replace hg := hg hk2
  generalize hA : (fun j => row (601 * a + j)) = A at hg
  generalize hB : (fun j => row (601 * b + j)) = B at hg
  have eA : ∀ j, A j = row (601 * a + j) := fun j => by rw [← hA]
  have eB : ∀ j, B j = row (601 * b + j) := fun j => by rw [← hB]
  refine ⟨fun x f => ∃ n : Nat, n ≤ 600 ∧ x = nI (n + 1) ∧ (∀ m, 1 ≤ m → m ≤ n → f (601 * k + m) = sm_ (dv_ A B m) m) ∧ ∀ i, i < 601 * k → f i = row i, fun x _ => (700 - x.toInt).toNat, ⟨0, by omega, rfl, fun m h1 h2 => absurd h2 (by omega), fun i _ => rfl⟩, ?_⟩
  rintro x f ⟨n, hn, rfl, h1, h2⟩
  have en := tn (n := n + 1) (by omega)
  refine ⟨fun c y hy => ?_, fun c => ?_⟩
  · have c' : (600 : Int) < (nI (n + 1)).toInt := ilt.mp c
    rw [show nI k + (1 : Int32) = nI (k + 1) from nI_1 k] at hy
    subst hy
    rw [show nI (k + 1) - (1 : Int32) = nI k from nI_pred k]
    exact hg f ⟨fun m m1 m2 => h1 m m1 (by omega), h2⟩
  · have c' : ¬ (600 : Int) < (nI (n + 1)).toInt := fun q => c (ilt.mpr q)
    refine ⟨fun x s => ∃ j : Nat, j ≤ n + 1 ∧ x = nI (j + 1) ∧ s = sm_ (dv_ A B (n + 1)) j, fun x _ => (700 - x.toInt).toNat, ⟨0, by omega, rfl, rfl⟩, ?_⟩
    rintro x s ⟨j, hj, rfl, rfl⟩
    refine ⟨fun c2 => ?_, fun c2 => ?_⟩
    · have c2' := (nI_ltI (by omega) (by omega)).mp c2
      have : j = n + 1 := by omega
      subst this
      rw [ix601, nI_clamp (by omega)]
      refine ⟨vp_in_nI (by omega) (by omega), fun x3 e3 => ?_⟩
      rw [show nI (n + 1) + (1 : Int32) = nI (n + 1 + 1) from nI_1 (n + 1)] at e3
      subst e3
      refine ⟨⟨n + 1, by omega, rfl, fun m m1 m2 => ?_, fun i hi => ?_⟩, meas7 (by omega)⟩
      · by_cases q : m = n + 1
        · rw [q, upL_same]
        · rw [upL_ne (by omega)]; exact h1 m m1 (by omega)
      · rw [upL_ne (by omega)]; exact h2 i hi
    · have c2' := mt (nI_ltI (a := n + 1) (b := j + 1) (by omega) (by omega)).mpr c2
      refine ⟨nI_ne0 (by omega) (by omega), ?_⟩
      have hq := Nat.div_le_self (n + 1) (j + 1)
      have hr := Nat.mod_lt (n + 1) (show 0 < j + 1 by omega)
      rw [pk_rem (by omega) (by omega) (by omega), pk_div (by omega) (by omega) (by omega), ix601, ix601, nI_clamp (by omega), nI_clamp (by omega), show (0 : Int32) = nI 0 from rfl]
      refine ⟨fun c3 => ⟨vp_in_nI (by omega) (by omega), nI_ne0 (by omega) (by omega), vp_in_nI (by omega) (by omega), fun x4 e4 x6 e6 => ?_⟩, fun c3 x4 e4 x6 e6 => ?_⟩
      · have c3' := (nI_eq (by omega) (by omega)).mp c3
        rw [h2 _ (by omega), h2 _ (by omega), ← eA, ← eB] at e4
        rw [show nI (j + 1) + (1 : Int32) = nI (j + 1 + 1) from nI_1 (j + 1)] at e6
        subst e4 e6
        refine ⟨⟨j + 1, by omega, rfl, ?_⟩, meas7 (by omega)⟩
        show _ = sm_ (dv_ A B (n + 1)) j + (if (n + 1) % (j + 1) = 0 then A (j + 1) * B ((n + 1) / (j + 1)) else 0)
        rw [if_pos c3']
      · have c3' := mt (nI_eq (a := (n + 1) % (j + 1)) (b := 0) (by omega) (by omega)).mpr c3
        rw [show nI (j + 1) + (1 : Int32) = nI (j + 1 + 1) from nI_1 (j + 1)] at e6
        subst e4 e6
        refine ⟨⟨j + 1, by omega, rfl, ?_⟩, meas7 (by omega)⟩
        show _ = sm_ (dv_ A B (n + 1)) j + (if (n + 1) % (j + 1) = 0 then A (j + 1) * B ((n + 1) / (j + 1)) else 0)
        rw [if_neg c3']
theorem sm_tail {f : Nat → Int64} {m : Nat} : ∀ l, m ≤ l → (∀ j, m < j → j ≤ l → f j = 0) → sm_ f l = sm_ f m := by
  intro l
  induction l with
  | zero =>
    intro h _
    have : m = 0 := by omega
    subst this; rfl
  | succ l ih =>
    intro h hz
    by_cases q : m = l + 1
    · rw [q]
    · show sm_ f l + f (l + 1) = _
      rw [hz (l + 1) (by omega) (by omega), ih (by omega) (fun j a b => hz j a (by omega)), Int64.add_zero]
theorem dv_same {A B A' B' : Nat → Int64} {m : Nat} (hm : m ≤ 600) (hA : ∀ j, 1 ≤ j → j ≤ 600 → A j = A' j) (hB : ∀ j, 1 ≤ j → j ≤ 600 → B j = B' j) (h1 : 1 ≤ m) : sm_ (dv_ A B m) 600 = sm_ (dv_ A' B' m) m := by
  rw [sm_tail (f := dv_ A B m) 600 hm (fun j a b => show (if m % j = 0 then A j * B (m / j) else (0 : Int64)) = 0 from if_neg (by rw [Nat.mod_eq_of_lt a]; omega))]
  refine sm_eq m (fun j a b => ?_)
  unfold dv_
  by_cases q : m % j = 0
  · have q1 := Nat.div_le_self m j
    have q2 : 1 ≤ m / j := (Nat.le_div_iff_mul_le (by omega)).mpr (by omega)
    rw [if_pos q, if_pos q, hA j a (by omega), hB _ q2 (by omega)]
  · rw [if_neg q, if_neg q]

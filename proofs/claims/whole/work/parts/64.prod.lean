/-! PRODUCT of two rows -/
def dv_ (A B : Nat → Int64) (m j : Nat) : Int64 := if m % j = 0 then A j * B (m / j) else 0
theorem s_incr {v : Nat → Int64} {r n : Nat} (hr : r < 16) (h1 : 1 ≤ n) (h2 : n ≤ 600) {x : Int64} {Q : (Nat → Int64) → Prop} (h : Q (vp_updL v (600 * r + n - 1) (v (600 * r + n - 1) + x))) : wp_X5_increase v (nI r) (nI n) x Q := by
  unfold wp_X5_increase
  exact s_look hr h1 h2 (s_put hr h1 h2 h)
theorem meas7 {n : Nat} (hn : n ≤ 600) : (700 - (nI (n + 1 + 1)).toInt).toNat < (700 - (nI (n + 1)).toInt).toNat := by
  rw [tn (n := n + 1 + 1) (by omega), tn (n := n + 1) (by omega)]
  omega
theorem s_fillProd {v : Nat → Int64} {k a b : Nat} (hk : k < 16) (ha : a < k) (hb : b < k) (hz : ∀ n, 1 ≤ n → n ≤ 600 → v (600 * k + n - 1) = 0) {Q : (Nat → Int64) → Prop} (h : ∀ v', rw_ v v' k (fun m => sm_ (dv_ (fun j => v (600 * a + j - 1)) (fun j => v (600 * b + j - 1)) m) 600) → Q v') : wp_X5_fillByProduct v (nI k) (nI a) (nI b) Q := by
  unfold wp_X5_fillByProduct
  generalize hA : (fun j => v (600 * a + j - 1)) = A at h
  generalize hB : (fun j => v (600 * b + j - 1)) = B at h
  have eA : ∀ j, A j = v (600 * a + j - 1) := fun j => by rw [← hA]
  have eB : ∀ j, B j = v (600 * b + j - 1) := fun j => by rw [← hB]
  refine ⟨fun x f => ∃ d : Nat, d ≤ 600 ∧ x = nI (d + 1) ∧ (∀ m, 1 ≤ m → m ≤ 600 → f (600 * k + m - 1) = sm_ (dv_ A B m) d) ∧ ∀ i, (i < 600 * k ∨ 600 * k + 600 ≤ i) → f i = v i, fun x _ => (700 - x.toInt).toNat, ⟨0, by omega, rfl, fun m h1 h2 => hz m h1 h2, fun i _ => rfl⟩, ?_⟩
  rintro x f ⟨d, hd, rfl, h1, h2⟩
  have ed := tn (n := d + 1) (by omega)
  refine ⟨fun c => ?_, fun c => ?_⟩
  · have c' : (600 : Int) < (nI (d + 1)).toInt := ilt.mp c
    have : d = 600 := by omega
    subst this
    exact h f ⟨h1, h2⟩
  · have c' : ¬ (600 : Int) < (nI (d + 1)).toInt := fun q => c (ilt.mpr q)
    refine s_look (by omega) (by omega) (by omega) ?_
    rw [h2 _ (by omega), ← eA (d + 1)]
    refine ⟨fun x g => ∃ e : Nat, e ≤ 600 / (d + 1) ∧ x = nI (e + 1) ∧ (∀ m, 1 ≤ m → m ≤ 600 → g (600 * k + m - 1) = sm_ (dv_ A B m) d + (if m % (d + 1) = 0 ∧ m / (d + 1) ≤ e then A (d + 1) * B (m / (d + 1)) else 0)) ∧ ∀ i, (i < 600 * k ∨ 600 * k + 600 ≤ i) → g i = v i, fun x _ => (700 - x.toInt).toNat, ⟨0, Nat.zero_le _, rfl, fun m m1 m2 => ?_, h2⟩, ?_⟩
    · rw [h1 m m1 m2, if_neg, Int64.add_zero]
      rintro ⟨q1, q2⟩
      have := Nat.div_add_mod m (d + 1)
      have q3 : m / (d + 1) = 0 := Nat.le_zero.mp q2
      rw [q1, q3, Nat.mul_zero] at this
      omega
    · rintro x g ⟨e, he, rfl, g1, g2⟩
      have hq600 := Nat.div_le_self 600 (d + 1)
      have ee := tn (n := e + 1) (by omega)
      have hdiv : (600 : Int32) / nI (d + 1) = nI (600 / (d + 1)) := by
        rw [show (600 : Int32) = nI 600 from rfl, pk_div (by omega) (by omega) (by omega)]
      refine ⟨nI_ne0 (by omega) (by omega), ?_⟩
      rw [hdiv]
      refine ⟨fun c2 x4 e4 => ?_, fun c2 => ?_⟩
      · have c2' := (nI_ltI (by omega) (by omega)).mp c2
        have he2 : e = 600 / (d + 1) := by omega
        rw [show nI (d + 1) + (1 : Int32) = nI (d + 1 + 1) from nI_1 (d + 1)] at e4
        subst e4
        refine ⟨⟨d + 1, by omega, rfl, fun m m1 m2 => ?_, g2⟩, meas7 (by omega)⟩
        rw [g1 m m1 m2]
        show _ = sm_ (dv_ A B m) d + (if m % (d + 1) = 0 then A (d + 1) * B (m / (d + 1)) else 0)
        have hle : m / (d + 1) ≤ e := by rw [he2]; exact Nat.div_le_div_right m2
        by_cases q : m % (d + 1) = 0
        · rw [if_pos ⟨q, hle⟩, if_pos q]
        · rw [if_neg (fun w => q w.1), if_neg q]
      · have c2' := mt (nI_ltI (a := 600 / (d + 1)) (b := e + 1) (by omega) (by omega)).mpr c2
        have hm0 : (d + 1) * (e + 1) ≤ 600 := by
          have q1 := Nat.mul_le_mul_left (d + 1) (show e + 1 ≤ 600 / (d + 1) by omega)
          have q2 := Nat.mul_div_le 600 (d + 1)
          omega
        have hm1 : 1 ≤ (d + 1) * (e + 1) := Nat.mul_pos (by omega) (by omega)
        have he6 : e + 1 ≤ 600 := by omega
        refine s_look (by omega) (by omega) he6 ?_
        rw [g2 _ (by omega), ← eB (e + 1), pk_mul]
        refine s_incr hk hm1 hm0 (fun x7 e7 => ?_)
        rw [show nI (e + 1) + (1 : Int32) = nI (e + 1 + 1) from nI_1 (e + 1)] at e7
        subst e7
        refine ⟨⟨e + 1, by omega, rfl, fun m m1 m2 => ?_, fun i hi => ?_⟩, meas7 (by omega)⟩
        · by_cases q : m = (d + 1) * (e + 1)
          · have q1 : m % (d + 1) = 0 := by rw [q]; exact Nat.mul_mod_right _ _
            have q2 : m / (d + 1) = e + 1 := by rw [q]; exact Nat.mul_div_cancel_left _ (by omega)
            rw [← q, upL_same, g1 m m1 m2, if_neg (by omega), if_pos (by omega), q2, Int64.add_zero]
          · rw [upL_ne (by omega), g1 m m1 m2]
            congr 1
            by_cases w : m % (d + 1) = 0 ∧ m / (d + 1) ≤ e
            · rw [if_pos w, if_pos (by omega)]
            · rw [if_neg w, if_neg]
              rintro ⟨w1, w2⟩
              have w3 := Nat.div_add_mod m (d + 1)
              have w4 : m / (d + 1) = e + 1 := by omega
              rw [w1, w4, Nat.add_zero] at w3
              omega
        · rw [upL_ne (by omega)]
          exact g2 i hi

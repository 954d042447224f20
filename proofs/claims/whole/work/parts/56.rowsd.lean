/-- the places of row k, n 1 .. 600, hold w; all else is as before -/
def rw_ (v v' : Nat → Int64) (k : Nat) (w : Nat → Int64) : Prop := (∀ n, 1 ≤ n → n ≤ 600 → v' (600 * k + n - 1) = w n) ∧ ∀ i, (i < 600 * k ∨ 600 * k + 600 ≤ i) → v' i = v i
theorem s_addZeros {v : Nat → Int64} {k : Nat} (hk : k ≤ 16) {Q : Int32 → Int32 → (Nat → Int64) → Prop} (hf : k = 16 → Q (-1) (nI k) v) (hg : k < 16 → ∀ v', rw_ v v' k (fun _ => 0) → Q (nI k) (nI (k + 1)) v') : wp_X5_addZeros v (nI k) Q := by
  unfold wp_X5_addZeros
  have ek := tn (n := k) (by omega)
  refine ⟨fun c => ?_, fun _ => ⟨fun c y hy => ?_, fun c => ?_⟩⟩
  · have c' : (nI k).toInt < 0 := ilt.mp c
    omega
  · have c' : (nI k).toInt < 16 := ilt.mp c
    rw [show nI k + (1 : Int32) = nI (k + 1) from nI_1 k] at hy
    subst hy
    refine ⟨fun x f => ∃ n : Nat, n ≤ 600 ∧ x = nI (n + 1) ∧ (∀ j, 1 ≤ j → j ≤ n → f (600 * k + j - 1) = 0) ∧ ∀ i, (i < 600 * k ∨ 600 * k + 600 ≤ i) → f i = v i, fun x f => (700 - x.toInt).toNat, ⟨0, by omega, rfl, fun j a b => absurd b (by omega), fun i _ => rfl⟩, ?_⟩
    rintro x f ⟨n, hn, rfl, h1, h2⟩
    have e1 := tn (n := n + 1) (by omega)
    refine ⟨fun d => ?_, fun d => ?_⟩
    · have d' : (600 : Int) < (nI (n + 1)).toInt := ilt.mp d
      have : n = 600 := by omega
      subst this
      exact hg (by omega) f ⟨h1, h2⟩
    · have d' : ¬ (600 : Int) < (nI (n + 1)).toInt := fun q => d (ilt.mpr q)
      refine s_put (by omega) (by omega) (by omega) (fun x2 hx => ?_)
      rw [show nI (n + 1) + (1 : Int32) = nI (n + 1 + 1) from nI_1 (n + 1)] at hx
      subst hx
      refine ⟨⟨n + 1, by omega, rfl, fun j a b => ?_, fun i hi => ?_⟩, ?_⟩
      · by_cases q : j = n + 1
        · rw [q, upL_same]
        · rw [upL_ne (by omega)]; exact h1 j a (by omega)
      · rw [upL_ne (by omega)]; exact h2 i hi
      · show (700 - (nI (n + 1 + 1)).toInt).toNat < (700 - (nI (n + 1)).toInt).toNat
        rw [tn (n := n + 1 + 1) (by omega), e1]
        omega
  · have c' : ¬ (nI k).toInt < 16 := fun q => c (ilt.mpr q)
    exact hf (by omega)
def rw9_ (v v' : Nat → Int64) (k : Nat) (w : Nat → Int64) : Prop := (∀ n, 1 ≤ n → n ≤ 600 → v' (601 * k + n) = w n) ∧ ∀ i, i < 601 * k → v' i = v i
theorem RR_add {v v' row row' : Nat → Int64} {k : Nat} {w : Nat → Int64} (hk : k < 16) (hv : ∀ r n : Nat, r < k → 1 ≤ n → n ≤ 600 → v (600 * r + n - 1) = row (601 * r + n)) (h1 : rw_ v v' k w) (h2 : rw9_ row row' k w) : RR_ (some (v', nI (k + 1))) (nI (k + 1)) row' := by
  refine ⟨k + 1, by omega, rfl, rfl, fun r n a b c => ?_⟩
  show v' (600 * r + n - 1) = row' (601 * r + n)
  by_cases e : r = k
  · rw [e, h1.1 n b c, h2.1 n b c]
  · rw [h1.2 _ (by omega), h2.2 _ (by omega)]
    exact hv r n (by omega) b c
theorem k_ne16 {k : Nat} (hk : k ≤ 16) : nI k = (16 : Int32) ↔ k = 16 := by
  rw [show (16 : Int32) = nI 16 from rfl]
  exact nI_eq (by omega) (by omega)
theorem s_sheet9 {row : Nat → Int64} {k : Nat} (hk : k ≤ 16) {Q : Int32 → Int32 → (Nat → Int64) → Prop} (hf : k = 16 → Q (-1) (nI k) row) (hg : k < 16 → ∀ row', rw9_ row row' k (fun _ => 0) → Q (nI k) (nI (k + 1)) row') : wp_X9_sheet (nI k) row Q := by
  unfold wp_X9_sheet
  refine ⟨fun c => hf ((k_ne16 hk).mp c), fun c => ?_⟩
  have hk2 : k < 16 := by
    have := mt (k_ne16 hk).mpr c
    omega
  refine ⟨fun x f => ∃ n : Nat, n ≤ 601 ∧ x = nI n ∧ (∀ j, j < n → f (601 * k + j) = 0) ∧ ∀ i, i < 601 * k → f i = row i, fun x f => (700 - x.toInt).toNat, ⟨0, by omega, rfl, fun j a => absurd a (by omega), fun i _ => rfl⟩, ?_⟩
  rintro x f ⟨n, hn, rfl, h1, h2⟩
  have e1 := tn (n := n) (by omega)
  refine ⟨fun d y hy => ?_, fun d => ?_⟩
  · have d' : (600 : Int) < (nI n).toInt := ilt.mp d
    rw [show nI k + (1 : Int32) = nI (k + 1) from nI_1 k] at hy
    subst hy
    rw [show nI (k + 1) - (1 : Int32) = nI k from nI_pred k]
    exact hg hk2 f ⟨fun j a b => h1 j (by omega), h2⟩
  · have d' : ¬ (600 : Int) < (nI n).toInt := fun q => d (ilt.mpr q)
    rw [ix601, nI_clamp (by omega)]
    refine ⟨vp_in_nI (by omega) (by omega), fun x2 hx => ?_⟩
    rw [show nI n + (1 : Int32) = nI (n + 1) from nI_1 n] at hx
    subst hx
    refine ⟨⟨n + 1, by omega, rfl, fun j a => ?_, fun i hi => ?_⟩, ?_⟩
    · by_cases q : j = n
      · rw [q, upL_same]
      · rw [upL_ne (by omega)]; exact h1 j (by omega)
    · rw [upL_ne (by omega)]; exact h2 i hi
    · show (700 - (nI (n + 1)).toInt).toNat < (700 - (nI n).toInt).toNat
      rw [tn (n := n + 1) (by omega), e1]
      omega
theorem t_sheet {Inv : XC_ → MC_ → Prop} (hr : HR Inv) (hu : UR Inv) : st_sheet Inv := by
  rintro ⟨oP, oS, oT, oU, oG, oR⟩ ⟨m0, m1, m2, m3, m4, m5, m6, m7, m8, m9, m10, m11, m12, m13, m14, m15, m16, m17, m18⟩ hI
  have hR := hr _ _ hI
  rcases oR with _ | ⟨v, mm⟩
  · obtain rfl : m14 = nI 0 := hR
    refine ⟨2, 9602, by omega, by omega, ?_⟩
    unfold wpx_sheet
    dsimp only
    refine ⟨rfl, rfl, ?_⟩
    unfold wp_X8_sheet_c0 wp_X8_newRow_c0 wp_X5_init
    refine s_addZeros (k := 0) (by omega) (fun c => absurd c (by omega)) (fun _ v' h1 => ⟨cc_RN, cs_RN, ?_⟩)
    refine s_sheet9 (k := 0) (by omega) (fun c => absurd c (by omega)) (fun _ row' h2 => ⟨rfl, hu _ _ _ _ _ _ _ _ _ _ _ _ _ _ _ _ _ _ _ _ _ _ _ _ _ _ _ _ hI (RR_add (by omega) (fun r n a => absurd a (Nat.not_lt_zero r)) h1 h2)⟩)
  · obtain ⟨k, hk, e1, e2, hv⟩ := hR
    dsimp only at e1 e2 hv
    subst e1 e2
    refine ⟨0, 0, by omega, by omega, ?_⟩
    unfold wpx_sheet
    dsimp only
    refine ⟨rfl, rfl, ?_⟩
    unfold wp_X8_sheet_c1 wp_X8_newRow_c1
    refine s_addZeros hk (fun c => ⟨cc_R, cs_R, ?_⟩) (fun c v' h1 => ⟨cc_R, cs_R, ?_⟩)
    · exact s_sheet9 hk (fun _ => ⟨rfl, hI⟩) (fun d => absurd d (by omega))
    · exact s_sheet9 hk (fun d => absurd d (by omega)) (fun _ row' h2 => ⟨rfl, hu _ _ _ _ _ _ _ _ _ _ _ _ _ _ _ _ _ _ _ _ _ _ _ _ _ _ _ _ hI (RR_add c hv h1 h2)⟩)

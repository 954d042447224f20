/-! primes counted and summed without being found -/
noncomputable def su_ (P : Nat → Prop) (W : Nat → Nat) : Nat → Nat
  | 0 => 0
  | v + 1 => su_ P W v + b01 (P (v + 1)) * W (v + 1)
theorem su_1 {P : Nat → Prop} {W : Nat → Nat} {v : Nat} (h : P (v + 1)) : su_ P W (v + 1) = su_ P W v + W (v + 1) := by
  show su_ P W v + b01 (P (v + 1)) * W (v + 1) = _
  rw [b01_1 h, Nat.one_mul]
theorem su_0 {P : Nat → Prop} {W : Nat → Nat} {v : Nat} (h : ¬ P (v + 1)) : su_ P W (v + 1) = su_ P W v := by
  show su_ P W v + b01 (P (v + 1)) * W (v + 1) = _
  rw [b01_0 h, Nat.zero_mul]
  rfl
theorem su_eq {P R : Nat → Prop} {W : Nat → Nat} : ∀ v, (∀ m, 1 ≤ m → m ≤ v → (P m ↔ R m)) → su_ P W v = su_ R W v := by
  intro v
  induction v with
  | zero => intro _; rfl
  | succ v ih =>
    intro h
    show su_ P W v + b01 (P (v + 1)) * W (v + 1) = su_ R W v + b01 (R (v + 1)) * W (v + 1)
    rw [ih (fun m a b => h m a (by omega)), b01_iff (h (v + 1) (by omega) (by omega))]
theorem su_z {P : Nat → Prop} {W : Nat → Nat} : ∀ v, (∀ m, 1 ≤ m → m ≤ v → ¬ P m) → su_ P W v = 0 := by
  intro v
  induction v with
  | zero => intro _; rfl
  | succ v ih =>
    intro h
    rw [su_0 (h (v + 1) (by omega) (by omega))]
    exact ih (fun m a b => h m a (by omega))
theorem su_mono {P : Nat → Prop} {W : Nat → Nat} {u v : Nat} (h : u ≤ v) : su_ P W u ≤ su_ P W v := by
  induction v with
  | zero =>
    have : u = 0 := by omega
    rw [this]; exact Nat.le_refl _
  | succ v ih =>
    by_cases e : u = v + 1
    · rw [e]; exact Nat.le_refl _
    · have h1 := ih (by omega)
      have h2 : su_ P W (v + 1) = su_ P W v + b01 (P (v + 1)) * W (v + 1) := rfl
      omega
theorem su_le {P : Nat → Prop} {W : Nat → Nat} (hW : ∀ m, 1 ≤ m → W m ≤ m) : ∀ v, su_ P W v ≤ v * v := by
  intro v
  induction v with
  | zero => exact Nat.le_refl 0
  | succ v ih =>
    show su_ P W v + b01 (P (v + 1)) * W (v + 1) ≤ (v + 1) * (v + 1)
    have h1 := Nat.mul_le_mul (b01_le (P (v + 1))) (hW (v + 1) (by omega))
    have h2 : (v + 1) * (v + 1) = v * v + v + v + 1 := by
      rw [Nat.succ_mul, Nat.mul_succ]; omega
    omega
def ro_ (p k : Nat) : Prop := 2 ≤ k ∧ ∀ q, isP q → q ∣ k → p ≤ q
def ch_ (p m : Nat) : Prop := 2 ≤ m ∧ (isP m ∨ ∀ q, isP q → q ∣ m → p ≤ q)
theorem ro_ge {p k : Nat} (h : ro_ p k) : p ≤ k := by
  obtain ⟨q, a, b⟩ := ex_pf k h.1
  have h1 := h.2 q a b
  have h2 := Nat.le_of_dvd (by have := h.1; omega) b
  omega
theorem ch_ro {p m : Nat} (h : p ≤ m) : ch_ p m ↔ ro_ p m := by
  constructor
  · rintro ⟨a, b | b⟩
    · exact ⟨a, fun q hq hd => by rw [isP_dvd hq b hd]; exact h⟩
    · exact ⟨a, b⟩
  · rintro ⟨a, b⟩
    exact ⟨a, Or.inr b⟩
theorem ch_no {p m : Nat} (h : ¬ isP p ∨ ¬ p ∣ m) : ch_ p m ↔ ch_ (p + 1) m := by
  constructor
  · rintro ⟨a, b | b⟩
    · exact ⟨a, Or.inl b⟩
    · refine ⟨a, Or.inr (fun q hq hd => ?_)⟩
      have h1 := b q hq hd
      by_cases e : q = p
      · subst e
        rcases h with h | h
        · exact absurd hq h
        · exact absurd hd h
      · omega
  · rintro ⟨a, b | b⟩
    · exact ⟨a, Or.inl b⟩
    · exact ⟨a, Or.inr (fun q hq hd => by have := b q hq hd; omega)⟩
/-- one prime is taken off -/
theorem lucy_step {W : Nat → Nat} (hW : ∀ a b, W (a * b) = W a * W b) {p : Nat} (hp : isP p) : ∀ v, su_ (ch_ p) W v = su_ (ch_ (p + 1)) W v + W p * su_ (ro_ p) W (v / p) := by
  have hp2 := hp.1
  intro v
  induction v with
  | zero =>
    show 0 = 0 + W p * su_ (ro_ p) W (0 / p)
    rw [Nat.zero_div]
    rfl
  | succ v ih =>
    by_cases hd : p ∣ v + 1
    · obtain ⟨k, hk⟩ := hd
      have e1 : (v + 1) / p = k := by rw [hk]; exact Nat.mul_div_cancel_left k (by omega)
      have e2 : v / p + 1 = k := by
        rw [← e1]; exact (Nat.succ_div_of_dvd ⟨k, hk⟩).symm
      obtain ⟨j, rfl⟩ : ∃ j, k = j + 1 := ⟨v / p, e2.symm⟩
      have e3 : v / p = j := Nat.add_right_cancel e2
      rw [e1]
      show su_ (ch_ p) W v + b01 (ch_ p (v + 1)) * W (v + 1) = su_ (ch_ (p + 1)) W v + b01 (ch_ (p + 1) (v + 1)) * W (v + 1) + W p * (su_ (ro_ p) W j + b01 (ro_ p (j + 1)) * W (j + 1))
      rw [ih, e3, Nat.mul_add]
      have key : b01 (ch_ p (v + 1)) * W (v + 1) = b01 (ch_ (p + 1) (v + 1)) * W (v + 1) + W p * (b01 (ro_ p (j + 1)) * W (j + 1)) := by
        rcases Nat.eq_zero_or_pos j with z | z
        · subst z
          rw [show (0 + 1 : Nat) = 1 from rfl, Nat.mul_one] at hk
          rw [hk, b01_1 (show ch_ p p from ⟨hp2, Or.inl hp⟩), b01_1 (show ch_ (p + 1) p from ⟨hp2, Or.inl hp⟩), b01_0 (show ¬ ro_ p (0 + 1) from fun q => by have := q.1; omega), Nat.zero_mul, Nat.mul_zero, Nat.add_zero]
        · have hnp : ¬ isP (v + 1) := by
            intro q
            have := isP_dvd hp q ⟨j + 1, hk⟩
            have h3 := Nat.mul_le_mul_left p (show 2 ≤ j + 1 by omega)
            omega
          have h1 : ¬ ch_ (p + 1) (v + 1) := by
            rintro ⟨_, b | b⟩
            · exact hnp b
            · have := b p hp ⟨j + 1, hk⟩
              omega
          have h2 : ch_ p (v + 1) ↔ ro_ p (j + 1) := by
            constructor
            · rintro ⟨_, b | b⟩
              · exact absurd b hnp
              · exact ⟨by omega, fun q hq hqd => b q hq (by rw [hk]; exact Nat.dvd_trans hqd ⟨p, Nat.mul_comm _ _⟩)⟩
            · rintro ⟨_, b⟩
              refine ⟨by have := Nat.mul_le_mul_left p (show 2 ≤ j + 1 by omega); omega, Or.inr (fun q hq hqd => ?_)⟩
              rw [hk] at hqd
              rcases eucl hq hqd with y | y
              · rw [isP_dvd hq hp y]; exact Nat.le_refl p
              · exact b q hq y
          rw [b01_0 h1, b01_iff h2, Nat.zero_mul, Nat.zero_add, hk, hW]
          exact Nat.mul_left_comm _ _ _
      omega
    · have e1 : (v + 1) / p = v / p := Nat.succ_div_of_not_dvd hd
      rw [e1]
      show su_ (ch_ p) W v + b01 (ch_ p (v + 1)) * W (v + 1) = su_ (ch_ (p + 1)) W v + b01 (ch_ (p + 1) (v + 1)) * W (v + 1) + W p * su_ (ro_ p) W (v / p)
      rw [ih, b01_iff (ch_no (p := p) (m := v + 1) (Or.inr hd))]
      omega
theorem lucy_np {W : Nat → Nat} {p : Nat} (hp : ¬ isP p) (v : Nat) : su_ (ch_ p) W v = su_ (ch_ (p + 1)) W v := su_eq v (fun m _ _ => ch_no (Or.inl hp))
theorem ro_small {W : Nat → Nat} {p u : Nat} (h : u < p) : su_ (ro_ p) W u = 0 := su_z u (fun m _ b q => by have := ro_ge q; omega)
theorem ch_split {W : Nat → Nat} {p : Nat} (hp : 1 ≤ p) : ∀ d, su_ (ch_ p) W (p - 1 + d) = su_ (ro_ p) W (p - 1 + d) + su_ (ch_ p) W (p - 1) := by
  intro d
  induction d with
  | zero =>
    rw [Nat.add_zero, ro_small (by omega), Nat.zero_add]
  | succ d ih =>
    show su_ (ch_ p) W (p - 1 + d) + b01 (ch_ p (p - 1 + d + 1)) * W (p - 1 + d + 1) = su_ (ro_ p) W (p - 1 + d) + b01 (ro_ p (p - 1 + d + 1)) * W (p - 1 + d + 1) + su_ (ch_ p) W (p - 1)
    rw [ih, b01_iff (ch_ro (p := p) (m := p - 1 + d + 1) (by omega))]
    omega
theorem lucy_big {W : Nat → Nat} (hW : ∀ a b, W (a * b) = W a * W b) {p v : Nat} (hp : isP p) (h : p * p ≤ v) : su_ (ch_ p) W (p - 1) ≤ su_ (ch_ p) W (v / p) ∧ su_ (ch_ p) W v = su_ (ch_ (p + 1)) W v + (su_ (ch_ p) W (v / p) - su_ (ch_ p) W (p - 1)) * W p := by
  have hp2 := hp.1
  have h1 : p ≤ v / p := (Nat.le_div_iff_mul_le (by omega)).mpr h
  have h2 := ch_split (W := W) (p := p) (by omega) (v / p - (p - 1))
  rw [show p - 1 + (v / p - (p - 1)) = v / p from by omega] at h2
  have h3 := lucy_step hW hp v
  refine ⟨by omega, ?_⟩
  rw [h3, h2, Nat.add_sub_cancel, Nat.mul_comm]
theorem lucy_small {W : Nat → Nat} (hW : ∀ a b, W (a * b) = W a * W b) {p v : Nat} (hp : isP p) (h : v < p * p) : su_ (ch_ (p + 1)) W v = su_ (ch_ p) W v := by
  have hp2 := hp.1
  rw [lucy_step hW hp v, ro_small (Nat.div_lt_of_lt_mul h), Nat.mul_zero]
  exact (Nat.add_zero _).symm
theorem ch_p {p : Nat} (h2 : 2 ≤ p) : ch_ p p ↔ isP p := by
  constructor
  · rintro ⟨_, b | b⟩
    · exact b
    · obtain ⟨q, a, c⟩ := ex_pf p h2
      have h1 := b q a c
      have h3 := Nat.le_of_dvd (by omega) c
      have : q = p := by omega
      rw [← this]; exact a
  · intro h; exact ⟨h2, Or.inl h⟩
theorem ch_end {n r m : Nat} (hr : n < (r + 1) * (r + 1)) (hm : m ≤ n) (h1 : 1 ≤ m) : ch_ (r + 1) m ↔ isP m := by
  constructor
  · rintro ⟨a, b | b⟩
    · exact b
    · refine pr_end a (fun q hq hqq hd => ?_)
      have h3 := b q hq hd
      have := Nat.mul_le_mul h3 h3
      omega
  · intro h; exact ⟨h.1, Or.inl h⟩
/-! the weights -/
def Wz_ (z : Int32) (m : Nat) : Nat := if z = 0 then 1 else m
theorem Wz_mul (z : Int32) (a b : Nat) : Wz_ z (a * b) = Wz_ z a * Wz_ z b := by
  unfold Wz_
  by_cases q : z = 0
  · rw [if_pos q, if_pos q, if_pos q]
  · rw [if_neg q, if_neg q, if_neg q]
theorem Wz_le (z : Int32) (m : Nat) (h : 1 ≤ m) : Wz_ z m ≤ m ∧ 1 ≤ Wz_ z m := by
  unfold Wz_
  by_cases q : z = 0
  · rw [if_pos q]; omega
  · rw [if_neg q]; omega
theorem ch_2 (m : Nat) (h : 1 ≤ m) : ch_ 2 m ↔ 2 ≤ m := ⟨fun h => h.1, fun h => ⟨h, Or.inr (fun q hq _ => hq.1)⟩⟩
theorem start_ (z : Int32) : ∀ v, su_ (ch_ 2) (Wz_ z) (v + 1) = if z = 0 then v else (v + 1) * (v + 2) / 2 - 1 := by
  intro v
  induction v with
  | zero =>
    rw [su_0 (fun h => by have := h.1; omega)]
    by_cases q : z = 0
    · rw [if_pos q]; rfl
    · rw [if_neg q]; rfl
  | succ v ih =>
    rw [su_1 ((ch_2 _ (by omega)).mpr (by omega)), ih]
    unfold Wz_
    by_cases q : z = 0
    · rw [if_pos q, if_pos q, if_pos q]
    · rw [if_neg q, if_neg q, if_neg q]
      have e1 : (v + 1 + 1) * (v + 1 + 2) = (v + 1) * (v + 2) + 2 * (v + 2) := by
        rw [Nat.succ_mul, Nat.mul_succ (v + 1)]
        omega
      rw [e1]
      have h3 : 2 ≤ (v + 1) * (v + 2) := Nat.mul_le_mul (show 1 ≤ v + 1 by omega) (show 2 ≤ v + 2 by omega)
      omega
theorem s_above1 {z : Int32} {v : Nat} (h1 : 1 ≤ v) (hv : v ≤ 2000000) {Q : Int64 → Prop} (h : Q (lN (su_ (ch_ 2) (Wz_ z) v))) : wp_X2_allAboveOne (lN v) z Q := by
  unfold wp_X2_allAboveOne
  obtain ⟨u, rfl⟩ : ∃ u, v = u + 1 := ⟨v - 1, by omega⟩
  rw [start_] at h
  refine ⟨fun q => ?_, fun q => ?_⟩
  · rw [if_pos q] at h
    rw [show (1 : Int64) = lN 1 from rfl, lN_sub (by omega), Nat.add_sub_cancel]
    exact h
  · rw [if_neg q] at h
    have hb : (u + 1) * (u + 2) ≤ 2000000 * 2000001 := Nat.mul_le_mul hv (by omega)
    have h3 : 2 ≤ (u + 1) * (u + 2) := Nat.mul_le_mul (show 1 ≤ u + 1 by omega) (show 2 ≤ u + 2 by omega)
    rw [lN_1, show u + 1 + 1 = u + 2 from rfl, lN_mul, show (2 : Int64) = lN 2 from rfl, pk_lDiv (by omega) (by omega) (by omega), show (1 : Int64) = lN 1 from rfl, lN_sub (by omega)]
    exact h
/-- the two rows at stage p -/
def LH_ (W : Nat → Nat) (n r p : Nat) (low high : Nat → Int64) : Prop := (∀ v, v ≤ r → low v = lN (su_ (ch_ p) W v)) ∧ (∀ i, 1 ≤ i → i ≤ r → high i = lN (su_ (ch_ p) W (n / i)))
theorem s_under {W : Nat → Nat} {n r p i : Nat} (hn : n ≤ 2000000) (hr : r ≤ 1414) (hr2 : n < (r + 1) * (r + 1)) (hi : 1 ≤ i) (hir : i ≤ r) (hp : 2 ≤ p) (hpr : p ≤ r) {low high : Nat → Int64} (hl : ∀ v, v ≤ r → low v = lN (su_ (ch_ p) W v)) (hh : ∀ j, i ≤ j → j ≤ r → high j = lN (su_ (ch_ p) W (n / j))) {Q : Int64 → Prop} (h : Q (lN (su_ (ch_ p) W (n / i / p)))) : wp_X2_totalUnder low high (nI n) (nI r) (nI i * nI p) Q := by
  have hip : i * p ≤ 1414 * 1414 := Nat.mul_le_mul (by omega) (by omega)
  have hip1 : i * 2 ≤ i * p := Nat.mul_le_mul_left i hp
  rw [Nat.div_div_eq_div_mul] at h
  rw [pk_mul]
  unfold wp_X2_totalUnder
  refine ⟨fun _ => ⟨fun c => ⟨nI_ne0 (by omega) (by omega), fun x4 e4 => ?_⟩, fun c => ⟨?_, ?_⟩⟩, fun c => ?_⟩
  · have c' := (nI_ltI (by omega) (by omega)).mp c
    rw [pk_div (by omega) (by omega) (by omega)] at e4
    subst e4
    have hle := Nat.div_le_self n (i * p)
    have hlt : n / (i * p) ≤ r := by
      have h3 : n < (i * p) * (r + 1) := Nat.lt_of_lt_of_le hr2 (Nat.mul_le_mul_right (r + 1) c')
      have := Nat.div_lt_of_lt_mul h3
      omega
    refine ⟨fun d => absurd d (nI_pos (by omega)), fun _ => ⟨fun d => ?_, fun _ => ⟨vp_in_nI (by omega) (by omega), ?_⟩⟩⟩
    · have := (nI_ltI (by omega) (by omega)).mp d
      omega
    · rw [nI_clamp (by omega), hl _ hlt]
      exact h
  · have c' := mt (nI_ltI (a := r) (b := i * p) (by omega) (by omega)).mpr c
    exact vp_in_nI (by omega) (by omega)
  · have c' := mt (nI_ltI (a := r) (b := i * p) (by omega) (by omega)).mpr c
    rw [nI_clamp (by omega), hh _ (by omega) (by omega)]
    exact h
  · exact absurd (nI_le (a := 1) (b := i * p) (by omega) (by omega)) c
theorem take1 {A A' B C w : Nat} (h1 : C ≤ B) (h2 : A = A' + (B - C) * w) : lN A - (lN B - lN C) * lN w = lN A' := by
  rw [lN_sub h1, lN_mul, lN_sub (by omega)]
  congr 1
  omega
theorem s_takeOff {W : Nat → Nat} (hW : ∀ a b, W (a * b) = W a * W b) {n r p : Nat} (hn : n ≤ 2000000) (hr : r ≤ 1414) (hr1 : r * r ≤ n) (hr2 : n < (r + 1) * (r + 1)) (hp : isP p) (hpr : p ≤ r) {low high : Nat → Int64} (hL : LH_ W n r p low high) {w : Int64} (hw : w = lN (W p)) {Q : (Nat → Int64) → (Nat → Int64) → Prop} (h : ∀ low' high', LH_ W n r (p + 1) low' high' → Q low' high') : wp_X2_takeOff low high (nI n) (nI r) (nI p) w Q := by
  have hp2 := hp.1
  have hpp : p * p ≤ n := Nat.le_trans (Nat.mul_le_mul hpr hpr) hr1
  have hpp4 : 2 * 2 ≤ p * p := Nat.mul_le_mul hp2 hp2
  obtain ⟨hl, hh⟩ := hL
  unfold wp_X2_takeOff
  refine ⟨fun c => ?_, fun _ => ⟨fun c => ?_, fun _ => ⟨fun _ => ?_, fun c => ?_⟩⟩⟩
  · have := (nI_ltI (a := p) (b := 2) (by omega) (by omega)).mp c
    omega
  · have := (nI_ltI (by omega) (by omega)).mp c
    omega
  rotate_left
  · exact absurd (nI_le (a := r) (b := 1414) hr (by omega)) c
  have ep1 : nI p - (1 : Int32) = nI (p - 1) := pk_sub (a := p) (b := 1) (by omega)
  rw [ep1, nI_clamp (by omega), hl (p - 1) (by omega)]
  refine ⟨vp_in_nI (by omega) (by omega), fun x6 e6 x8 e8 => ?_⟩
  rw [pk_mul] at e8
  subst e6 e8
  refine ⟨nI_ne0 (by omega) (by omega), fun x9 e9 => ?_⟩
  have hq1 : 1 ≤ n / (p * p) := (Nat.le_div_iff_mul_le (by omega)).mpr (by omega)
  have hqle := Nat.div_le_self n (p * p)
  obtain ⟨rc, hrc1, hrc2, erc⟩ : ∃ rc, rc ≤ r ∧ (rc = r ∨ rc = n / (p * p)) ∧ x9 = nI rc ∧ rc ≤ n / (p * p) := by
    rw [pk_div (by omega) (by omega) (by omega)] at e9
    by_cases q : nI (n / (p * p)) < nI r
    · have := (nI_ltI (by omega) (by omega)).mp q
      rw [if_pos q] at e9
      exact ⟨n / (p * p), by omega, Or.inr rfl, e9, Nat.le_refl _⟩
    · have := mt (nI_ltI (a := n / (p * p)) (b := r) (by omega) (by omega)).mpr q
      rw [if_neg q] at e9
      exact ⟨r, Nat.le_refl _, Or.inl rfl, e9, by omega⟩
  obtain ⟨erc, hrc3⟩ := erc
  clear e9
  subst erc
  refine ⟨fun y g => ∃ i, i ≤ rc ∧ y = nI (i + 1) ∧ (∀ j, 1 ≤ j → j ≤ i → g j = lN (su_ (ch_ (p + 1)) W (n / j))) ∧ (∀ j, i < j → j ≤ r → g j = lN (su_ (ch_ p) W (n / j))), fun y _ => ((3000 : Nat) - y.toInt).toNat, ⟨0, Nat.zero_le _, rfl, fun j a b => absurd b (by omega), fun j a b => hh j (by omega) b⟩, ?_⟩
  rintro y g ⟨i, hi, rfl, g1, g2⟩
  refine ⟨fun c => ?_, fun c => ?_⟩
  · have c' := (nI_ltI (by omega) (by omega)).mp c
    have hirc : i = rc := by omega
    have ghigh : ∀ j, 1 ≤ j → j ≤ r → g j = lN (su_ (ch_ (p + 1)) W (n / j)) := by
      intro j j1 j2
      rcases Nat.lt_or_ge i j with q | q
      · rw [g2 j q j2, lucy_small hW hp]
        have h3 : n / (p * p) < j := by
          rcases hrc2 with e | e <;> omega
        have h4 := (Nat.div_lt_iff_lt_mul (show 0 < p * p by omega)).mp h3
        exact Nat.div_lt_of_lt_mul (by rw [Nat.mul_comm] at h4; rw [Nat.mul_comm]; omega)
      · exact g1 j j1 q
    refine ⟨fun y f => ∃ v, v ≤ r ∧ y = nI v ∧ (∀ u, u ≤ r → v < u → p * p ≤ u → f u = lN (su_ (ch_ (p + 1)) W u)) ∧ (∀ u, u ≤ r → (u ≤ v ∨ u < p * p) → f u = lN (su_ (ch_ p) W u)), fun y _ => y.toInt.toNat, ⟨r, Nat.le_refl r, rfl, fun u a b => absurd b (by omega), fun u a _ => hl u a⟩, ?_⟩
    rintro y f ⟨v, hv, rfl, f1, f2⟩
    have hppb : p * p ≤ 1414 * 1414 := Nat.mul_le_mul (by omega) (by omega)
    refine ⟨fun d => h f g ⟨fun u hu => ?_, ghigh⟩, fun d => ?_⟩
    · have d' := (nI_ltI (by omega) (by omega)).mp d
      rcases Nat.lt_or_ge u (p * p) with q | q
      · rw [f2 u hu (Or.inr q), lucy_small hW hp q]
      · exact f1 u hu (by omega) q
    · have d' := mt (nI_ltI (a := v) (b := p * p) (by omega) (by omega)).mpr d
      have hvp : v / p < v := Nat.div_lt_self (by omega) (by omega)
      rw [pk_div (by omega) (by omega) (by omega), nI_clamp (by omega), nI_clamp (by omega), f2 v hv (Or.inl (Nat.le_refl v)), f2 (v / p) (by omega) (Or.inl (by omega)), sb_m1 (show 0 < v by omega)]
      refine ⟨vp_in_nI (by omega) (by omega), nI_ne0 (by omega) (by omega), vp_in_nI (by omega) (by omega), fun y16 e16 => ⟨vp_in_nI (by omega) (by omega), fun x10 e10 => ?_⟩⟩
      obtain ⟨b1, b2⟩ := lucy_big hW hp (show p * p ≤ v by omega)
      rw [hw, take1 b1 b2] at e16
      subst e16 e10
      refine ⟨⟨v - 1, by omega, rfl, fun u u1 u2 u3 => ?_, fun u u1 u2 => ?_⟩, ?_⟩
      · by_cases q : u = v
        · rw [q, upL_same]
        · rw [upL_ne q]; exact f1 u u1 (by omega) u3
      · have q : u ≠ v := by omega
        rw [upL_ne q]
        exact f2 u u1 (by omega)
      · show (nI (v - 1)).toInt.toNat < (nI v).toInt.toNat
        rw [tn (by omega), tn (by omega)]
        omega
  · have c' := mt (nI_ltI (a := rc) (b := i + 1) (by omega) (by omega)).mpr c
    refine ⟨vp_in_nI (by omega) (by omega), ?_⟩
    refine s_under hn hr hr2 (by omega) (by omega) hp2 hpr hl (fun j a b => g2 j (by omega) b) (fun y21 e21 => ⟨vp_in_nI (by omega) (by omega), fun x10 e10 => ?_⟩)
    have hge : p * p ≤ n / (i + 1) := by
      refine (Nat.le_div_iff_mul_le (by omega)).mpr ?_
      have h3 := Nat.mul_le_mul_left (p * p) (show i + 1 ≤ n / (p * p) by omega)
      have h4 := Nat.mul_div_le n (p * p)
      omega
    obtain ⟨b1, b2⟩ := lucy_big hW hp hge
    rw [nI_clamp (by omega), g2 (i + 1) (by omega) (by omega), hw, take1 b1 b2] at e21
    rw [show nI (i + 1) + (1 : Int32) = nI (i + 1 + 1) from nI_1 (i + 1)] at e10
    subst e21 e10
    rw [nI_clamp (by omega)]
    refine ⟨⟨i + 1, by omega, rfl, fun j j1 j2 => ?_, fun j j1 j2 => ?_⟩, measN (by omega) (by omega) (by omega)⟩
    · by_cases q : j = i + 1
      · rw [q, upL_same]
      · rw [upL_ne q]; exact g1 j j1 (by omega)
    · rw [upL_ne (by omega)]; exact g2 j (by omega) j2
theorem s_total {z : Int32} {n : Nat} (hn : n ≤ 2000000) {low high : Nat → Int64} {Q : Int64 → (Nat → Int64) → (Nat → Int64) → Prop} (h : ∀ low' high', Q (lN (su_ isP (Wz_ z) n)) low' high') : wp_X2_total low high (nI n) z Q := by
  unfold wp_X2_total
  have hW := Wz_mul z
  refine ⟨fun c => ?_, fun c => ?_⟩
  rotate_left
  · have c' := mt (nI_leI (a := 2) (b := n) (by omega) (by omega)).mpr c
    have e : su_ isP (Wz_ z) n = 0 := su_z n (fun m a b q => by have := q.1; omega)
    have := h low high
    rw [e] at this
    exact this
  have c' := (nI_leI (a := 2) (b := n) (by omega) (by omega)).mp c
  rw [nI_l (by omega)]
  refine s_root (by omega) (fun r hr hr1 hr2 x3 e3 => ?_)
  have hr14 : r ≤ 1414 := by
    rcases Nat.lt_or_ge 1414 r with q | q
    · have := Nat.mul_le_mul (show 1415 ≤ r from q) (show 1415 ≤ r from q)
      omega
    · exact q
  have h1r : 1 ≤ r := by
    rcases Nat.eq_zero_or_pos r with q | q
    · rw [q] at hr2; omega
    · exact q
  have ex : x3 = nI r := by
    have a1 : ¬ (1414 : Int64) < lN r := fun q => by
      have := (pk_lLT (a := 1414) (b := r) (by omega) (by omega)).mp q
      omega
    rw [e3, if_neg a1, lN_i]
  clear e3
  subst ex
  refine ⟨vp_in_nI (n := 0) (by omega) (by omega), ?_⟩
  refine ⟨fun y a b => ∃ i, i ≤ r ∧ y = nI (i + 1) ∧ (∀ v, v ≤ i → a v = lN (su_ (ch_ 2) (Wz_ z) v)) ∧ (∀ j, 1 ≤ j → j ≤ i → b j = lN (su_ (ch_ 2) (Wz_ z) (n / j))), fun y _ _ => ((3000 : Nat) - y.toInt).toNat, ⟨0, Nat.zero_le _, rfl, fun v hv => ?_, fun j a b => absurd b (by omega)⟩, ?_⟩
  · have : v = 0 := by omega
    subst this
    exact upL_same
  rintro y a b ⟨i, hi, rfl, h1, h2⟩
  refine ⟨fun d => ?_, fun d => ?_⟩
  · have d' := (nI_ltI (by omega) (by omega)).mp d
    have hir : i = r := by omega
    subst hir
    refine ⟨fun y a b => ∃ p, 2 ≤ p ∧ p ≤ i + 1 + 1 ∧ y = nI p ∧ LH_ (Wz_ z) n i (if p ≤ i + 1 then p else i + 1) a b, fun y _ _ => ((3000 : Nat) - y.toInt).toNat, ⟨2, by omega, by omega, rfl, by rw [if_pos (by omega)]; exact ⟨h1, h2⟩⟩, ?_⟩
    rintro y a b ⟨p, hp2, hp1, rfl, hL⟩
    refine ⟨fun e => ?_, fun e => ?_⟩
    · have e' := (nI_ltI (by omega) (by omega)).mp e
      have hL' : LH_ (Wz_ z) n i (i + 1) a b := by
        by_cases q : p ≤ i + 1
        · rw [if_pos q] at hL
          have : p = i + 1 := by omega
          rw [this] at hL
          exact hL
        · rw [if_neg q] at hL
          exact hL
      refine ⟨vp_in_nI (n := 1) (by omega) (by omega), ?_⟩
      have e1 := hL'.2 1 (by omega) (by omega)
      rw [Nat.div_one, su_eq (P := ch_ (i + 1)) (R := isP) n (fun m a b => ch_end hr2 b a)] at e1
      show Q (b 1) a b
      rw [e1]
      exact h a b
    · have e' := mt (nI_ltI (a := i) (b := p) (by omega) (by omega)).mpr e
      rw [if_pos (by omega)] at hL
      have hbig : ∀ v, v ≤ 1414 → su_ (ch_ p) (Wz_ z) v ≤ 1414 * 1414 := fun v hv => Nat.le_trans (su_le (fun m hm => (Wz_le z m hm).1) v) (Nat.mul_le_mul hv hv)
      have ep1 : nI p - (1 : Int32) = nI (p - 1) := pk_sub (a := p) (b := 1) (by omega)
      rw [ep1, nI_clamp (by omega), nI_clamp (by omega), hL.1 p (by omega), hL.1 (p - 1) (by omega), show nI p + (1 : Int32) = nI (p + 1) from nI_1 p]
      have q1 := hbig p (by omega)
      have q2 := hbig (p - 1) (by omega)
      have hpe : su_ (ch_ p) (Wz_ z) p = su_ (ch_ p) (Wz_ z) (p - 1) ↔ ¬ isP p := by
        have hw1 := (Wz_le z p (by omega)).2
        have hcp := ch_p hp2
        obtain ⟨u, hu⟩ : ∃ u, p = u + 1 := ⟨p - 1, by omega⟩
        rw [hu] at hw1 hcp ⊢
        rw [Nat.add_sub_cancel]
        constructor
        · intro q hp
          rw [su_1 (hcp.mpr hp)] at q
          omega
        · intro hp
          exact su_0 (fun q => hp (hcp.mp q))
      have done : ∀ (a' b' : Nat → Int64) (x : Int32), x = nI (p + 1) → LH_ (Wz_ z) n i (p + 1) a' b' → ((∃ p, 2 ≤ p ∧ p ≤ i + 1 + 1 ∧ x = nI p ∧ LH_ (Wz_ z) n i (if p ≤ i + 1 then p else i + 1) a' b') ∧ ((3000 : Nat) - x.toInt).toNat < ((3000 : Nat) - (nI p).toInt).toNat) := by
        intro a' b' x ex hL'
        subst ex
        exact ⟨⟨p + 1, by omega, by omega, rfl, by rw [if_pos (by omega)]; exact hL'⟩, measN (by omega) (by omega) (by omega)⟩
      refine ⟨vp_in_nI (by omega) (by omega), vp_in_nI (by omega) (by omega), fun w x4 e4 => ?_, fun w => ?_⟩
      · have w' := (pk_lEQ (by omega) (by omega)).mp w
        have hnp := hpe.mp w'
        refine done a b x4 e4 ⟨fun v hv => ?_, fun j j1 j2 => ?_⟩
        · rw [hL.1 v hv, lucy_np hnp]
        · rw [hL.2 j j1 j2, lucy_np hnp]
      · have w' := mt (pk_lEQ (a := su_ (ch_ p) (Wz_ z) p) (b := su_ (ch_ p) (Wz_ z) (p - 1)) (by omega) (by omega)).mpr w
        have hp : isP p := Classical.byContradiction (fun q => w' (hpe.mpr q))
        refine ⟨fun q => s_takeOff hW hn hr14 hr1 hr2 hp (by omega) hL ?_ (fun a' b' hL' x4 e4 => done a' b' x4 e4 hL'), fun q => s_takeOff hW hn hr14 hr1 hr2 hp (by omega) hL ?_ (fun a' b' hL' x4 e4 => done a' b' x4 e4 hL')⟩
        · unfold Wz_
          rw [if_pos q]; rfl
        · unfold Wz_
          rw [if_neg q, nI_l (by omega)]
  · have d' := mt (nI_ltI (a := r) (b := i + 1) (by omega) (by omega)).mpr d
    have hq1 : 1 ≤ n / (i + 1) := by
      refine (Nat.le_div_iff_mul_le (by omega)).mpr ?_
      have h3 := Nat.mul_le_mul (show i + 1 ≤ r by omega) (show 1 ≤ r by omega)
      omega
    have hqle := Nat.div_le_self n (i + 1)
    rw [nI_l (by omega), pk_div (by omega) (by omega) (by omega), nI_l (by omega)]
    refine s_above1 (by omega) (by omega) ⟨vp_in_nI (by omega) (by omega), nI_ne0 (by omega) (by omega), s_above1 hq1 (by omega) ⟨vp_in_nI (by omega) (by omega), fun x4 e4 => ?_⟩⟩
    rw [show nI (i + 1) + (1 : Int32) = nI (i + 1 + 1) from nI_1 (i + 1)] at e4
    subst e4
    rw [nI_clamp (by omega)]
    refine ⟨⟨i + 1, by omega, rfl, fun v hv => ?_, fun j j1 j2 => ?_⟩, measN (by omega) (by omega) (by omega)⟩
    · by_cases q : v = i + 1
      · rw [q, upL_same]
      · rw [upL_ne q]; exact h1 v (by omega)
    · by_cases q : j = i + 1
      · rw [q, upL_same]
      · rw [upL_ne q]; exact h2 j j1 (by omega)
/-! the reference counts what its sieve left -/
theorem measM {a b : Nat} (h : a < b) (hb : b ≤ 2000002) : ((3000000 : Nat) - (nI b).toInt).toNat < ((3000000 : Nat) - (nI a).toInt).toNat := measN h (by omega) (by omega)
theorem isN_ {g : Nat → Int32} (hg : nn_ g) {k : Nat} (hk : k ≤ 2000000) : g k = 0 ↔ isP k := by
  constructor
  · intro e
    apply Classical.byContradiction
    intro q
    rw [(hg k hk).2 q] at e
    exact absurd e (by decide)
  · exact (hg k hk).1
theorem s_inM {n : Nat} (hn : n ≤ 2000000) {Q : Int32 → Prop} (h : Q 1) : wp_X9_in ((nI n).toInt64) (0 : Int64) (2000000 : Int64) Q := by
  refine s_in (fun _ _ => h) (fun a => ?_)
  rw [i2l_t, tn (by omega)] at a
  have a' : (n : Int) < 0 ∨ (2000000 : Int) < (n : Int) := a
  omega
theorem s_inMN {p : Int32} (hp : p.toInt < 0 ∨ 2000000 < p.toInt) {Q : Int32 → Prop} (h : Q 0) : wp_X9_in (p.toInt64) (0 : Int64) (2000000 : Int64) Q := by
  refine s_in (fun a b => ?_) (fun _ => h)
  rw [i2l_t] at a b
  have a' : (0 : Int) ≤ p.toInt := a
  have b' : p.toInt ≤ (2000000 : Int) := b
  omega
theorem m_cases (p : Int32) : (p.toInt < 0 ∨ 2000000 < p.toInt) ∨ ∃ n : Nat, n ≤ 2000000 ∧ p = nI n := by
  by_cases q : p.toInt < 0 ∨ 2000000 < p.toInt
  · exact Or.inl q
  · obtain ⟨n, a, b, c⟩ := i_nat (a := p) (by omega)
    exact Or.inr ⟨n, by omega, b⟩
theorem su_lo {W : Nat → Nat} : su_ isP W 1 = 0 := su_z 1 (fun m a b q => by have := q.1; omega)
theorem s_count9 {g : Nat → Int32} (hg : nn_ g) {n : Nat} (hn : n ≤ 2000000) {Q : Int32 → Prop} (h : Q (nI (su_ isP (Wz_ 0) n))) : wp_X9_count g (nI n) Q := by
  unfold wp_X9_count
  refine s_inM hn ⟨fun c => absurd c (by decide), fun _ => ?_⟩
  refine ⟨fun x s => ∃ j, 1 ≤ j ∧ (j = 1 ∨ j ≤ n) ∧ x = nI (j + 1) ∧ s = nI (su_ isP (Wz_ 0) j), fun x _ => ((3000000 : Nat) - x.toInt).toNat, ⟨1, by omega, Or.inl rfl, rfl, by rw [su_lo]; rfl⟩, ?_⟩
  rintro x s ⟨j, j1, j2, rfl, rfl⟩
  refine ⟨fun c => ?_, fun c => ?_⟩
  · have c' := (nI_ltI (by omega) (by omega)).mp c
    have e : su_ isP (Wz_ 0) j = su_ isP (Wz_ 0) n := by
      by_cases q : j = n
      · rw [q]
      · have : j = 1 := by omega
        rw [this, su_lo, su_z n (fun m a b q => by have := q.1; omega)]
    rw [e]; exact h
  · have c' := mt (nI_ltI (a := n) (b := j + 1) (by omega) (by omega)).mpr c
    rw [nI_clamp (by omega), show nI (j + 1) + (1 : Int32) = nI (j + 1 + 1) from nI_1 (j + 1)]
    have hN := isN_ hg (k := j + 1) (by omega)
    refine ⟨vp_in_nI (by omega) (by omega), fun z x2 e2 x3 e3 => ?_, fun z x2 e2 x3 e3 => ?_⟩
    · subst e2 e3
      refine ⟨⟨j + 1, by omega, Or.inr (by omega), rfl, ?_⟩, measM (by omega) (by omega)⟩
      rw [su_1 (hN.mp z)]
      exact nI_1 _
    · subst e2 e3
      refine ⟨⟨j + 1, by omega, Or.inr (by omega), rfl, ?_⟩, measM (by omega) (by omega)⟩
      rw [su_0 (fun q => z (hN.mpr q))]
      exact ad0 _
theorem s_sum9 {g : Nat → Int32} (hg : nn_ g) {n : Nat} (hn : n ≤ 2000000) {Q : Int64 → Prop} (h : Q (lN (su_ isP (Wz_ 1) n))) : wp_X9_sum g (nI n) Q := by
  unfold wp_X9_sum
  refine s_inM hn ⟨fun c => absurd c (by decide), fun _ => ?_⟩
  refine ⟨fun x s => ∃ j, 1 ≤ j ∧ (j = 1 ∨ j ≤ n) ∧ x = nI (j + 1) ∧ s = lN (su_ isP (Wz_ 1) j), fun x _ => ((3000000 : Nat) - x.toInt).toNat, ⟨1, by omega, Or.inl rfl, rfl, by rw [su_lo]; rfl⟩, ?_⟩
  rintro x s ⟨j, j1, j2, rfl, rfl⟩
  refine ⟨fun c => ?_, fun c => ?_⟩
  · have c' := (nI_ltI (by omega) (by omega)).mp c
    have e : su_ isP (Wz_ 1) j = su_ isP (Wz_ 1) n := by
      by_cases q : j = n
      · rw [q]
      · have : j = 1 := by omega
        rw [this, su_lo, su_z n (fun m a b q => by have := q.1; omega)]
    rw [e]; exact h
  · have c' := mt (nI_ltI (a := n) (b := j + 1) (by omega) (by omega)).mpr c
    rw [nI_clamp (by omega), show nI (j + 1) + (1 : Int32) = nI (j + 1 + 1) from nI_1 (j + 1), nI_l (by omega)]
    have hN := isN_ hg (k := j + 1) (by omega)
    refine ⟨vp_in_nI (by omega) (by omega), fun z x2 e2 x3 e3 => ?_, fun z x2 e2 x3 e3 => ?_⟩
    · subst e2 e3
      refine ⟨⟨j + 1, by omega, Or.inr (by omega), rfl, ?_⟩, measM (by omega) (by omega)⟩
      rw [su_1 (hN.mp z), lN_add]
      rfl
    · subst e2 e3
      refine ⟨⟨j + 1, by omega, Or.inr (by omega), rfl, ?_⟩, measM (by omega) (by omega)⟩
      rw [su_0 (fun q => z (hN.mpr q)), Int64.add_zero]
theorem cc_U {oP : Option CP_} {oS : Option CS_} {oT : Option CT_} {w w' : CU_} {oG : Option CG_} {oR : Option CR_} : cc_ (oP, oS, oT, some w, oG, oR) + 0 ≤ cc_ (oP, oS, oT, some w', oG, oR) := Nat.le_of_eq (Nat.add_zero _)
theorem cs_U {oP : Option CP_} {oS : Option CS_} {oT : Option CT_} {w w' : CU_} {oG : Option CG_} {oR : Option CR_} : cs_ (oP, oS, oT, some w, oG, oR) + 0 ≤ cs_ (oP, oS, oT, some w', oG, oR) := Nat.le_of_eq (Nat.add_zero _)
theorem cc_UN {oP : Option CP_} {oS : Option CS_} {oT : Option CT_} {w : CU_} {oG : Option CG_} {oR : Option CR_} : cc_ (oP, oS, oT, none, oG, oR) + 3 ≤ cc_ (oP, oS, oT, some w, oG, oR) := by
  unfold cc_
  dsimp only
  omega
theorem cs_UN {oP : Option CP_} {oS : Option CS_} {oT : Option CT_} {w : CU_} {oG : Option CG_} {oR : Option CR_} : cs_ (oP, oS, oT, none, oG, oR) + 2832 ≤ cs_ (oP, oS, oT, some w, oG, oR) := by
  unfold cs_
  dsimp only
  omega
theorem s_count9N {g : Nat → Int32} {p : Int32} (hp : p.toInt < 0 ∨ 2000000 < p.toInt) {Q : Int32 → Prop} (h : Q (-1)) : wp_X9_count g p Q := by
  unfold wp_X9_count
  exact s_inMN hp ⟨fun _ => h, fun c => absurd rfl c⟩
theorem s_sum9N {g : Nat → Int32} {p : Int32} (hp : p.toInt < 0 ∨ 2000000 < p.toInt) {Q : Int64 → Prop} (h : Q (-1)) : wp_X9_sum g p Q := by
  unfold wp_X9_sum
  exact s_inMN hp ⟨fun _ => h, fun c => absurd rfl c⟩
theorem cmN {p : Int32} (hp : p.toInt < 0 ∨ 2000000 < p.toInt) {N Y : Prop} (hN : N) : ((p < (0 : Int32) → N) ∧ (¬ p < (0 : Int32) → ((p ≤ (2000000 : Int32) → Y) ∧ (¬ p ≤ (2000000 : Int32) → N)))) := by
  refine ⟨fun _ => hN, fun c => ⟨fun d => ?_, fun _ => hN⟩⟩
  exfalso
  have c' : ¬ p.toInt < 0 := fun q => c (ilt.mpr q)
  have d' : p.toInt ≤ (2000000 : Int) := ile.mp d
  omega
theorem cmY {n : Nat} (hn : n ≤ 2000000) {N Y : Prop} (hY : Y) : ((nI n < (0 : Int32) → N) ∧ (¬ nI n < (0 : Int32) → ((nI n ≤ (2000000 : Int32) → Y) ∧ (¬ nI n ≤ (2000000 : Int32) → N)))) :=
  ⟨fun c => absurd c (nI_pos (by omega)), fun _ => ⟨fun _ => hY, fun c => absurd (nI_le (a := n) (b := 2000000) hn (by omega)) c⟩⟩
theorem t_count : st_count Inv_ := by
  rintro ⟨oP, oS, oT, oU, oG, oR⟩ ⟨m0, m1, m2, m3, m4, m5, m6, m7, m8, m9, m10, m11, m12, m13, m14, m15, m16, m17, m18⟩ p1 hI
  obtain ⟨iP, iT, iN, iS, iQ, iR⟩ := id hI
  rcases m_cases p1 with hp | ⟨n, hn, rfl⟩
  · refine ⟨0, 0, by omega, by omega, ?_⟩
    unfold wpx_count
    rcases oU with _ | ⟨lo, hi⟩ <;> dsimp only
    · exact cmN hp ⟨le00, le00, s_count9N hp ⟨rfl, hI⟩⟩
    · exact ⟨rfl, rfl, cmN hp ⟨le00, le00, s_count9N hp ⟨rfl, hI⟩⟩⟩
  · rcases oU with _ | ⟨lo, hi⟩
    · refine ⟨3, 2832, by omega, by omega, ?_⟩
      unfold wpx_count
      dsimp only
      unfold wp_X8_count_c0 wp_X8_knownSums_c0 wp_X2_init
      refine cmY hn ⟨by omega, by omega, s_total hn (fun lo' hi' => ⟨cc_UN, cs_UN, s_count9 iN hn ⟨lN_i _, iP, iT, iN, iS, iQ, iR⟩⟩)⟩
    · refine ⟨0, 0, by omega, by omega, ?_⟩
      unfold wpx_count
      dsimp only
      refine ⟨rfl, rfl, ?_⟩
      unfold wp_X8_count_c1 wp_X8_knownSums_c1
      exact cmY hn (s_total hn (fun lo' hi' => ⟨cc_U, cs_U, s_count9 iN hn ⟨lN_i _, iP, iT, iN, iS, iQ, iR⟩⟩))
theorem t_sum : st_sum Inv_ := by
  rintro ⟨oP, oS, oT, oU, oG, oR⟩ ⟨m0, m1, m2, m3, m4, m5, m6, m7, m8, m9, m10, m11, m12, m13, m14, m15, m16, m17, m18⟩ p1 hI
  obtain ⟨iP, iT, iN, iS, iQ, iR⟩ := id hI
  rcases m_cases p1 with hp | ⟨n, hn, rfl⟩
  · refine ⟨0, 0, by omega, by omega, ?_⟩
    unfold wpx_sum
    rcases oU with _ | ⟨lo, hi⟩ <;> dsimp only
    · exact cmN hp ⟨le00, le00, s_sum9N hp ⟨rfl, hI⟩⟩
    · exact ⟨rfl, rfl, cmN hp ⟨le00, le00, s_sum9N hp ⟨rfl, hI⟩⟩⟩
  · rcases oU with _ | ⟨lo, hi⟩
    · refine ⟨3, 2832, by omega, by omega, ?_⟩
      unfold wpx_sum
      dsimp only
      unfold wp_X8_sum_c0 wp_X8_knownSums_c0 wp_X2_init
      refine cmY hn ⟨by omega, by omega, s_total hn (fun lo' hi' => ⟨cc_UN, cs_UN, s_sum9 iN hn ⟨rfl, iP, iT, iN, iS, iQ, iR⟩⟩)⟩
    · refine ⟨0, 0, by omega, by omega, ?_⟩
      unfold wpx_sum
      dsimp only
      refine ⟨rfl, rfl, ?_⟩
      unfold wp_X8_sum_c1 wp_X8_knownSums_c1
      exact cmY hn (s_total hn (fun lo' hi' => ⟨cc_U, cs_U, s_sum9 iN hn ⟨rfl, iP, iT, iN, iS, iQ, iR⟩⟩))

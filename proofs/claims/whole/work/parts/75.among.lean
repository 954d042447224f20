/-! primes that leave a rest -/
theorem bez : ∀ s p, 1 ≤ s → 1 ≤ p → Nat.gcd p s = 1 → ∃ y z, p * y = s * z + 1 := by
  intro s
  induction s using Nat.strongRecOn with
  | ind s ih =>
    intro p hs hp hg
    by_cases h1 : s = 1
    · subst h1
      exact ⟨1, p - 1, by omega⟩
    · have hr := Nat.mod_lt p (show 0 < s by omega)
      have hg2 : Nat.gcd s (p % s) = 1 := by
        rw [Nat.gcd_comm s, ← Nat.gcd_rec, Nat.gcd_comm]; exact hg
      have hr1 : 1 ≤ p % s := by
        rcases Nat.eq_zero_or_pos (p % s) with z | z
        · rw [z, Nat.gcd_zero_right] at hg2
          exact absurd hg2 h1
        · exact z
      obtain ⟨y', z', e⟩ := ih (p % s) hr s hr1 hs hg2
      obtain ⟨k, rfl⟩ : ∃ k, s = k + 1 := ⟨s - 1, by omega⟩
      have hy : 1 ≤ y' := by
        rcases Nat.eq_zero_or_pos y' with q | q
        · rw [q, Nat.mul_zero] at e; omega
        · exact q
      have hA : 1 ≤ y' * k := Nat.mul_pos hy (by omega)
      have e1 : (p % (k + 1)) * (z' * k) + k = (k + 1) * (y' * k) := by
        rw [← Nat.mul_assoc, ← Nat.mul_assoc (k + 1) y' k, e, Nat.add_mul, Nat.one_mul]
      have e2 : (k + 1) * (y' * k) = (k + 1) * (y' * k - 1) + (k + 1) := by
        obtain ⟨B, hB⟩ : ∃ B, y' * k = B + 1 := ⟨y' * k - 1, by omega⟩
        rw [hB, Nat.add_sub_cancel, Nat.mul_succ]
      have e3 : (p % (k + 1)) * (z' * k) = (k + 1) * (y' * k - 1) + 1 := by omega
      refine ⟨z' * k, (p / (k + 1)) * (z' * k) + (y' * k - 1), ?_⟩
      have e4 : p = (k + 1) * (p / (k + 1)) + p % (k + 1) := (Nat.div_add_mod p (k + 1)).symm
      calc p * (z' * k) = ((k + 1) * (p / (k + 1)) + p % (k + 1)) * (z' * k) := by rw [← e4]
        _ = (k + 1) * ((p / (k + 1)) * (z' * k)) + (p % (k + 1)) * (z' * k) := by rw [Nat.add_mul, Nat.mul_assoc]
        _ = (k + 1) * ((p / (k + 1)) * (z' * k)) + ((k + 1) * (y' * k - 1) + 1) := by rw [e3]
        _ = (k + 1) * ((p / (k + 1)) * (z' * k) + (y' * k - 1)) + 1 := by rw [Nat.mul_add]; omega
/-- some odd multiple of p, from its square on, leaves the rest -/
theorem prog_ex {p s a : Nat} (hp : p % 2 = 1) (hs : s % 2 = 0) (hs4 : 4 ≤ s) (ha : a % 2 = 1) (has : a < s) (hg : Nat.gcd p s = 1) : ∃ j, j < s ∧ (p * p + j * (2 * p)) % s = a := by
  obtain ⟨y, z, e⟩ := bez s p (by omega) (by omega) hg
  have e1 : p * (a * y + s * p) = s * (a * z + p * p) + a := by
    have : p * (a * y + s * p) = a * (p * y) + s * (p * p) := by
      rw [Nat.mul_add, ← Nat.mul_assoc p a y, Nat.mul_comm p a, Nat.mul_assoc a p y, ← Nat.mul_assoc p s p, Nat.mul_comm p s, Nat.mul_assoc s p p]
    rw [this, e, Nat.mul_add a, Nat.mul_one, ← Nat.mul_assoc a s z, Nat.mul_comm a s, Nat.mul_assoc s a z, Nat.mul_add s]
    omega
  have hY : p ≤ a * y + s * p := by
    have := Nat.mul_le_mul_right p (show 1 ≤ s by omega)
    omega
  have hodd : (a * y + s * p) % 2 = 1 := by
    rcases (by omega : (a * y + s * p) % 2 = 0 ∨ (a * y + s * p) % 2 = 1) with q | q
    · exfalso
      have h1 : (p * (a * y + s * p)) % 2 = 0 := by rw [Nat.mul_mod, q, Nat.mul_zero]
      have h2 : (s * (a * z + p * p)) % 2 = 0 := by rw [Nat.mul_mod, hs, Nat.zero_mul]
      omega
    · exact q
  obtain ⟨J, hJ⟩ : ∃ J, a * y + s * p = p + J * 2 := ⟨(a * y + s * p - p) / 2, by omega⟩
  have hml := Nat.mod_lt J (show 0 < s by omega)
  refine ⟨J % s, hml, ?_⟩
  have e2 : p * p + J * (2 * p) = s * (a * z + p * p) + a := by
    rw [← e1, hJ, Nat.mul_add, ← Nat.mul_assoc J 2 p, Nat.mul_comm p (J * 2)]
  have e3 : p * p + J * (2 * p) = p * p + J % s * (2 * p) + s * (J / s * (2 * p)) := by
    have h1 := Nat.div_add_mod J s
    have h2 : J * (2 * p) = s * (J / s * (2 * p)) + J % s * (2 * p) := by
      calc J * (2 * p) = (s * (J / s) + J % s) * (2 * p) := by rw [h1]
        _ = s * (J / s * (2 * p)) + J % s * (2 * p) := by rw [Nat.add_mul, Nat.mul_assoc]
    omega
  have e4 : (p * p + J % s * (2 * p) + s * (J / s * (2 * p))) % s = (s * (a * z + p * p) + a) % s := by rw [← e3, e2]
  rw [Nat.add_mul_mod_self_left, Nat.mul_add_mod, Nat.mod_eq_of_lt has] at e4
  exact e4
theorem s_strike {w : Nat → Int64} {p s a T : Nat} (hp : p % 2 = 1) (hp3 : 3 ≤ p) (hp1 : p ≤ 1414) (hs : s % 2 = 0) (hs4 : 4 ≤ s) (hs2 : s ≤ 120) (ha : a % 2 = 1) (has : a < s) (hg : Nat.gcd p s = 1) (hT : T ≤ 500000) {Q : (Nat → Int64) → Prop} (h : ∀ w', (∀ k, mk_ w' k ↔ mk_ w k ∨ (k < T ∧ p * p ≤ a + k * s ∧ p ∣ a + k * s)) → Q w') : wp_X4_strike w (nI p) (nI a) (nI s) (nI T) Q := by
  unfold wp_X4_strike
  have hpp : p * p ≤ 1414 * 1414 := Nat.mul_le_mul hp1 hp1
  refine ⟨fun c => ?_, fun _ => ⟨fun _ x5 e5 => ?_, fun c => ?_⟩⟩
  · have := (nI_ltI (a := s) (b := 1) (by omega) (by omega)).mp c
    omega
  rotate_left
  · exact absurd (nI_le (a := 1) (b := p) (by omega) (by omega)) c
  rw [pk_mul] at e5
  subst e5
  obtain ⟨j0, hj0, ej0⟩ := prog_ex hp hs hs4 ha has hg
  refine ⟨fun x y => ∃ t, t ≤ s ∧ x = nI t ∧ y = nI (p * p + t * (2 * p)) ∧ ∀ j, j < t → (p * p + j * (2 * p)) % s ≠ a, fun x _ => (700 - x.toInt).toNat, ⟨0, Nat.zero_le _, rfl, by rw [Nat.zero_mul, Nat.add_zero], fun j hj => absurd hj (Nat.not_lt_zero j)⟩, ?_⟩
  rintro x y ⟨t, ht, rfl, rfl, hn⟩
  have htp : t * (2 * p) ≤ 120 * 2828 := Nat.mul_le_mul (by omega) (by omega)
  refine ⟨fun c => ?_, fun c => ⟨nI_ne0 (by omega) (by omega), ?_⟩⟩
  · have c' := (nI_leI (by omega) (by omega)).mp c
    exact absurd ej0 (hn j0 (by omega))
  · have c' := mt (nI_leI (a := s) (b := t) (by omega) (by omega)).mpr c
    have hml := Nat.mod_lt (p * p + t * (2 * p)) (show 0 < s by omega)
    rw [pk_rem (by omega) (by omega) (by omega)]
    refine ⟨fun d => ⟨nI_ne0 (by omega) (by omega), ?_⟩, fun d x5 e5 x6 e6 => ?_⟩
    · have d' := (nI_eq (by omega) (by omega)).mp d
      have hdm := Nat.div_add_mod (p * p + t * (2 * p)) s
      rw [d'] at hdm
      rw [pk_sub (by omega), pk_div (by omega) (by omega) (by omega)]
      have ek0 : (p * p + t * (2 * p) - a) / s = (p * p + t * (2 * p)) / s := by
        have : p * p + t * (2 * p) - a = s * ((p * p + t * (2 * p)) / s) := by omega
        rw [this]; exact Nat.mul_div_cancel_left _ (by omega)
      rw [ek0]
      generalize hk0 : (p * p + t * (2 * p)) / s = k0 at hdm
      have hk0b : k0 ≤ 3000000 := by
        have := Nat.mul_le_mul_right k0 (show 1 ≤ s by omega)
        omega
      have hv0 : a + k0 * s = p * p + t * (2 * p) := by rw [Nat.mul_comm k0 s]; omega
      have hpv : p ∣ p * p + t * (2 * p) := Nat.dvd_add ⟨p, rfl⟩ ⟨t * 2, by rw [← Nat.mul_assoc, Nat.mul_comm]⟩
      refine s_markEvery (e := T) (by omega) (by omega) (by omega) (by omega) (by omega) (fun w' hw' => h w' (fun k => ?_))
      rw [hw' k]
      have hiff : (k < T ∧ ∃ j, k = k0 + j * p) ↔ (k < T ∧ p * p ≤ a + k * s ∧ p ∣ a + k * s) := by
        constructor
        · rintro ⟨q1, j, rfl⟩
          have e : a + (k0 + j * p) * s = p * p + t * (2 * p) + j * p * s := by rw [Nat.add_mul, ← Nat.add_assoc, hv0]
          refine ⟨q1, ?_, ?_⟩
          · rw [e]; omega
          · rw [e]
            exact Nat.dvd_add hpv ⟨j * s, by rw [Nat.mul_comm j p, Nat.mul_assoc]⟩
        · rintro ⟨q1, q2, q3⟩
          refine ⟨q1, ?_⟩
          have hko : (a + k * s) % 2 = 1 := by
            have : (k * s) % 2 = 0 := by rw [Nat.mul_mod, hs, Nat.mul_zero]
            omega
          obtain ⟨i, hi⟩ := (odd_mult hp hko).mpr ⟨q2, q3⟩
          have hik : (p * p + i * (2 * p)) % s = a := by
            rw [← hi, Nat.mul_comm k s, Nat.add_mul_mod_self_left, Nat.mod_eq_of_lt has]
          have hti : t ≤ i := by
            rcases Nat.lt_or_ge i t with q | q
            · exact absurd hik (hn i q)
            · exact q
          have hle : k0 ≤ k := by
            rcases Nat.lt_or_ge k k0 with q | q
            · exfalso
              have h1 := Nat.mul_le_mul_right s (show k + 1 ≤ k0 from q)
              have h2 := Nat.mul_le_mul_right (2 * p) hti
              rw [Nat.add_mul] at h1
              omega
            · exact q
          have hdv : p ∣ (k - k0) * s := by
            have e : (k - k0) * s = (a + k * s) - (p * p + t * (2 * p)) := by
              rw [Nat.sub_mul]; omega
            rw [e]
            exact Nat.dvd_sub q3 hpv
          obtain ⟨j, hj⟩ := Nat.Coprime.dvd_of_dvd_mul_right hg hdv
          exact ⟨j, by rw [Nat.mul_comm j p]; omega⟩
      rw [hiff]
    · have d' := mt (nI_eq (a := (p * p + t * (2 * p)) % s) (b := a) (by omega) (by omega)).mpr d
      rw [show (2 : Int32) * nI p = nI (2 * p) from pk_mul 2 p, nI_add] at e5
      rw [show nI t + (1 : Int32) = nI (t + 1) from nI_1 t] at e6
      subst e5 e6
      refine ⟨⟨t + 1, by omega, rfl, by rw [show (t + 1) * (2 * p) = t * (2 * p) + 2 * p from Nat.succ_mul t (2 * p), Nat.add_assoc], fun j hj => ?_⟩, meas1 (by omega)⟩
      by_cases q : j = t
      · rw [q]; exact d'
      · exact hn j (by omega)
/-- term k of the progression is struck by the primes below number i -/
def stP_ (a s i k : Nat) : Prop := a + k * s = 1 ∨ ∃ p, isP p ∧ p ≠ 2 ∧ cntP p < i ∧ ¬ p ∣ s ∧ p * p ≤ a + k * s ∧ p ∣ a + k * s
theorem stP_s {a s i k p : Nat} (hp : isP p) (hpi : cntP p = i) (hp2 : p ≠ 2) : stP_ a s (i + 1) k ↔ stP_ a s i k ∨ (¬ p ∣ s ∧ p * p ≤ a + k * s ∧ p ∣ a + k * s) := by
  constructor
  · rintro (q | ⟨r, r1, r2, r3, r4, r5, r6⟩)
    · exact Or.inl (Or.inl q)
    · by_cases e : r = p
      · subst e; exact Or.inr ⟨r4, r5, r6⟩
      · have := cnt_ne hp r1 hpi e
        exact Or.inl (Or.inr ⟨r, r1, r2, by omega, r4, r5, r6⟩)
  · rintro ((q | ⟨r, r1, r2, r3, r4, r5, r6⟩) | ⟨r4, r5, r6⟩)
    · exact Or.inl q
    · exact Or.inr ⟨r, r1, r2, by omega, r4, r5, r6⟩
    · exact Or.inr ⟨p, hp, hp2, by omega, r4, r5, r6⟩
theorem stP_end {a s i k n : Nat} (ha : a % 2 = 1) (hs : s % 2 = 0) (hg : Nat.gcd a s = 1) (hk : a + k * s ≤ n) (hall : ∀ q, isP q → q * q ≤ n → cntP q < i) : stP_ a s i k ↔ ¬ isP (a + k * s) := by
  constructor
  · rintro (q | ⟨p, r1, r2, r3, r4, r5, r6⟩) hp
    · rw [q] at hp
      have := hp.1
      omega
    · exact pr_no r1 r5 r6 hp
  · intro hp
    by_cases q : a + k * s = 1
    · exact Or.inl q
    · obtain ⟨p, r1, r2, r3⟩ := comp_small (a + k * s) (by omega) hp
      refine Or.inr ⟨p, r1, ?_, hall p r1 (by omega), ?_, r3, r2⟩
      · intro e
        subst e
        have h1 := Nat.mod_eq_zero_of_dvd r2
        have h2 : (k * s) % 2 = 0 := by rw [Nat.mul_mod, hs, Nat.mul_zero]
        omega
      · intro e
        have h1 : p ∣ a := by
          have h2 : p ∣ k * s := Nat.dvd_trans e ⟨k, Nat.mul_comm _ _⟩
          exact (Nat.dvd_add_left h2).mp r2
        have h3 := Nat.dvd_gcd h1 e
        rw [hg] at h3
        exact isP_n1 r1 h3
theorem s_prLoop {f : Nat → Int32} {tm : Int32} (ht : tab_ f tm) {n a s T : Nat} (hn : n ≤ 2000000) (ha : a % 2 = 1) (hs : s % 2 = 0) (hs4 : 4 ≤ s) (hs2 : s ≤ 120) (has : a < s) (hg : Nat.gcd a s = 1) (hT : T ≤ 500000) (hTn : ∀ k, k < T → a + k * s ≤ n) {w0 : Nat → Int64} (hw0 : ∀ k, k < 500032 → (mk_ w0 k ↔ k < T ∧ a + k * s = 1)) {Q : Int32 → (Nat → Int64) → Prop} (h : ∀ w', Q (nI (cntQ (fun k => isP (a + k * s)) T)) w') : (∃ (I_54_7 : Int32 → (Nat → Int64) → Prop) (m_54_7 : Int32 → (Nat → Int64) → Nat), I_54_7 (1 : Int32) w0 ∧ ∀ (l6_54_7 : Int32) (a0_struck_words_54_7 : Nat → Int64), I_54_7 l6_54_7 a0_struck_words_54_7 → ((tm ≤ l6_54_7 → wp_X0_tally 7813 a0_struck_words_54_7 (fun r_10 => Q ((nI T) - r_10) a0_struck_words_54_7)) ∧ (¬ tm ≤ l6_54_7 → wp_X3_nth f tm l6_54_7 (fun r_11 => ((r_11 < (3 : Int32) → wp_X0_tally 7813 a0_struck_words_54_7 (fun r_13 => Q ((nI T) - r_13) a0_struck_words_54_7)) ∧ (¬ r_11 < (3 : Int32) → (¬ r_11 = 0 ∧ ((r_11 ≤ ((nI n) / r_11) → (¬ r_11 = 0 ∧ ((((nI s) - (nI s) / r_11 * r_11) = (0 : Int32) → (∀ x6_18 : Int32, x6_18 = l6_54_7 + (1 : Int32) → (I_54_7 x6_18 a0_struck_words_54_7 ∧ m_54_7 x6_18 a0_struck_words_54_7 < m_54_7 l6_54_7 a0_struck_words_54_7))) ∧ (¬ ((nI s) - (nI s) / r_11 * r_11) = (0 : Int32) → wp_X4_strike a0_struck_words_54_7 r_11 (nI a) (nI s) (nI T) (fun o_19 => (∀ x6_20 : Int32, x6_20 = l6_54_7 + (1 : Int32) → (I_54_7 x6_20 o_19 ∧ m_54_7 x6_20 o_19 < m_54_7 l6_54_7 a0_struck_words_54_7))))))) ∧ (¬ r_11 ≤ ((nI n) / r_11) → wp_X0_tally 7813 a0_struck_words_54_7 (fun r_21 => Q ((nI T) - r_21) a0_struck_words_54_7)))))))))) := by
  have hb := NP_le
  have h1NP : 1 ≤ NP_ := by
    have := NP_lt isP_2 (by omega)
    omega
  have cnt2 : ∀ q, isP q → q ≠ 2 → 1 ≤ cntP q := fun q hq h2 => by
    have := cntP_lt isP_2 (show 2 < q by have := hq.1; omega)
    omega
  refine ⟨fun x v => ∃ i, 1 ≤ i ∧ i ≤ NP_ ∧ x = nI i ∧ ∀ k, k < 500032 → (mk_ v k ↔ k < T ∧ stP_ a s i k), fun x _ => (10000 - x.toInt).toNat, ⟨1, by omega, h1NP, rfl, fun k hk => ?_⟩, ?_⟩
  · rw [hw0 k hk]
    constructor
    · rintro ⟨q1, q2⟩
      exact ⟨q1, Or.inl q2⟩
    · rintro ⟨q1, q2 | ⟨p, r1, r2, r3, _⟩⟩
      · exact ⟨q1, q2⟩
      · have := cnt2 p r1 r2
        omega
  rintro x v ⟨i, hi1, hi, rfl, hv⟩
  have fin : (∀ q, isP q → q * q ≤ n → cntP q < i) → wp_X0_tally 7813 v (fun r_10 => Q (nI T - r_10) v) := by
    intro hall
    refine s_tally (by omega) ?_
    have e1 : cntQ (mk_ v) (64 * 7813) = cntQ (fun k => ¬ isP (a + k * s)) T := by
      rw [cntQ_tail (P := mk_ v) (m := T) (64 * 7813) (by omega) (fun k k1 k2 z => by have := ((hv k (by omega)).mp z).1; omega)]
      refine cntQ_eq T (fun k hk => ?_)
      rw [hv k (by omega), stP_end ha hs hg (hTn k hk) hall]
      exact ⟨fun z => z.2, fun z => ⟨hk, z⟩⟩
    have e2 := cntQ_not (P := fun k => isP (a + k * s)) T
    rw [e1, pk_sub (by omega), show T - cntQ (fun k => ¬ isP (a + k * s)) T = cntQ (fun k => isP (a + k * s)) T from by omega]
    exact h v
  refine ⟨fun c => fin (fun q hq hqq => ?_), fun c => ?_⟩
  · rw [ht.1] at c
    have c' := (nI_leI (by omega) (by omega)).mp c
    have := NP_lt hq (sq_small (by omega) hqq)
    omega
  · rw [ht.1] at c
    have c' := mt (nI_leI (a := NP_) (b := i) (by omega) (by omega)).mpr c
    refine s_nth ht (by omega) (fun p hp hp1 hpi => ?_)
    have hp2 : p ≠ 2 := fun e => by
      rw [e, cntP_2] at hpi
      omega
    have hp3 : 3 ≤ p := by have := hp.1; omega
    have hpo := isP_odd hp hp2
    have hml := Nat.mod_lt s (show 0 < p by omega)
    have hdle := Nat.div_le_self n p
    rw [pk_div (a := n) (by omega) (by omega) (by omega), pk_rem (by omega) (by omega) (by omega), show nI i + (1 : Int32) = nI (i + 1) from nI_1 i]
    refine ⟨fun q => ?_, fun _ => ⟨nI_ne0 (by omega) (by omega), fun q => ⟨nI_ne0 (by omega) (by omega), fun z x6 e6 => ?_, fun z => ?_⟩, fun q => fin (fun r hr hrr => ?_)⟩⟩
    · have := (nI_ltI (a := p) (b := 3) (by omega) (by omega)).mp q
      omega
    · have z' := (nI_eq (a := s % p) (b := 0) (by omega) (by omega)).mp z
      subst e6
      refine ⟨⟨i + 1, by omega, by omega, rfl, fun k hk => ?_⟩, meas10k (by omega)⟩
      rw [hv k hk, stP_s hp hpi hp2]
      exact ⟨fun y => ⟨y.1, Or.inl y.2⟩, fun y => ⟨y.1, y.2.elim id (fun u => absurd (Nat.dvd_of_mod_eq_zero z') u.1)⟩⟩
    · have z' := mt (nI_eq (a := s % p) (b := 0) (by omega) (by omega)).mpr z
      have q' := (nI_leI (by omega) (by omega)).mp q
      have hpp : p * p ≤ n := (Nat.le_div_iff_mul_le (by omega)).mp q'
      have hp14 : p ≤ 1414 := by
        rcases Nat.lt_or_ge 1414 p with y | y
        · have := Nat.mul_le_mul (show 1415 ≤ p from y) (show 1415 ≤ p from y)
          omega
        · exact y
      have hps : ¬ p ∣ s := fun y => z' (Nat.mod_eq_zero_of_dvd y)
      refine s_strike hpo hp3 hp14 hs hs4 hs2 ha has (coP hp hps) hT (fun w' hw' x6 e6 => ?_)
      subst e6
      refine ⟨⟨i + 1, by omega, by omega, rfl, fun k hk => ?_⟩, meas10k (by omega)⟩
      rw [hw' k, hv k hk, stP_s hp hpi hp2]
      constructor
      · rintro (y | ⟨y1, y2⟩)
        · exact ⟨y.1, Or.inl y.2⟩
        · exact ⟨y1, Or.inr ⟨hps, y2⟩⟩
      · rintro ⟨y1, y2 | ⟨_, y3⟩⟩
        · exact Or.inl ⟨y1, y2⟩
        · exact Or.inr ⟨y1, y3⟩
    · have q' := mt (nI_leI (a := p) (b := n / p) (by omega) (by omega)).mpr q
      have hpn : n < p * p := by
        rcases Nat.lt_or_ge n (p * p) with y | y
        · exact y
        · exact absurd ((Nat.le_div_iff_mul_le (by omega)).mpr y) q'
      have := cntP_lt hr (sq_lt2 hrr hpn)
      omega
theorem s_primesOf {f : Nat → Int32} {tm : Int32} (ht : tab_ f tm) {n a s : Nat} (hn : n ≤ 2000000) (ha : a % 2 = 1) (hs : s % 2 = 0) (hs4 : 4 ≤ s) (hs2 : s ≤ 120) (has : a < s) (hg : Nat.gcd a s = 1) {w : Nat → Int64} {Q : Int32 → (Nat → Int64) → Prop} (h : ∀ w', Q (nI (cntQ (fun k => isP (a + k * s)) ((n + (s - a)) / s))) w') : wp_X4_primesOf w f tm (nI a) (nI s) (nI n) Q := by
  unfold wp_X4_primesOf
  refine ⟨fun c => ?_, fun _ => ⟨fun c => ?_, fun _ => ⟨fun c => ?_, fun c => ?_⟩⟩⟩
  · have := (nI_ltI (a := s) (b := 4) (by omega) (by omega)).mp c
    omega
  · have := (nI_ltI (a := a) (b := 1) (by omega) (by omega)).mp c
    omega
  · have c' := (nI_leI (by omega) (by omega)).mp c
    have hq4 : (n - a) / s ≤ (n - a) / 4 := Nat.div_le_div_left hs4 (by omega)
    have eT : (n + (s - a)) / s = (n - a) / s + 1 := by
      rw [show n + (s - a) = n - a + s from by omega, Nat.add_div_right _ (by omega)]
    rw [eT] at h
    generalize hT : (n - a) / s + 1 = T at h
    have hT5 : T ≤ 500000 := by omega
    have hTn : ∀ k, k < T → a + k * s ≤ n := by
      intro k hk
      have h1 := Nat.mul_le_mul_right s (show k ≤ (n - a) / s by omega)
      have h2 := Nat.div_mul_le_self (n - a) s
      omega
    refine ⟨nI_ne0 (by omega) (by omega), fun x5 e5 => ?_⟩
    rw [pk_sub c', pk_div (by omega) (by omega) (by omega), show nI ((n - a) / s) + (1 : Int32) = nI ((n - a) / s + 1) from nI_1 _, hT] at e5
    have ex : x5 = nI T := by
      have a1 : ¬ (500000 : Int32) < nI T := fun q => by
        have := (nI_ltI (a := 500000) (b := T) (by omega) (by omega)).mp q
        omega
      rw [e5, if_neg a1]
    clear e5
    subst ex
    refine s_wipe (by omega) (fun w0 hw0 => ⟨fun e => ?_, fun e => ?_⟩)
    · have e' := (nI_eq (a := a) (b := 1) (by omega) (by omega)).mp e
      refine s_mark (k := 0) (by omega) (by omega) (fun w1 hw1 => ?_)
      refine s_prLoop ht hn ha hs hs4 hs2 has hg hT5 hTn (fun k hk => ?_) h
      rw [hw1 k]
      constructor
      · rintro (q | q)
        · exact absurd q (hw0 k (by omega))
        · subst q
          exact ⟨by rw [← hT]; exact Nat.succ_pos _, by rw [Nat.zero_mul]; omega⟩
      · rintro ⟨q1, q2⟩
        refine Or.inr ?_
        rcases Nat.eq_zero_or_pos k with z | z
        · exact z
        · have := Nat.mul_le_mul z hs4
          omega
    · have e' := mt (nI_eq (a := a) (b := 1) (by omega) (by omega)).mpr e
      refine s_prLoop ht hn ha hs hs4 hs2 has hg hT5 hTn (fun k hk => ?_) h
      exact ⟨fun q => absurd q (hw0 k (by omega)), fun q => by have := q.2; omega⟩
  · have c' := mt (nI_leI (a := a) (b := n) (by omega) (by omega)).mpr c
    have e0 : (n + (s - a)) / s = 0 := Nat.div_eq_of_lt (by omega)
    rw [e0] at h
    exact h w
/-! the reference: all that leave the rest -/
noncomputable def am_ (n m r : Nat) : Nat := su_ (fun k => isP k ∧ k % m = r) (fun _ => 1) n
noncomputable def od_ (n m r : Nat) : Nat := su_ (fun k => isP k ∧ k % 2 = 1 ∧ k % m = r) (fun _ => 1) n
theorem s_among9 {g : Nat → Int32} (hgn : nn_ g) {n m r : Nat} (hn : n ≤ 2000000) (hm1 : 1 ≤ m) (hm : m ≤ 60) (hr : r < m) {Q : Int32 → Prop} (h : Q (nI (am_ n m r))) : wp_X9_among g (nI n) (nI m) (nI r) Q := by
  unfold wp_X9_among
  refine s_inM hn ⟨fun c => absurd c (by decide), fun _ => ?_⟩
  refine s_in (fun _ _ => ⟨fun c => absurd c (by decide), fun _ => ?_⟩) (fun a => ?_)
  rotate_left
  · rw [i2l_t, tn (by omega)] at a
    have a' : (m : Int) < 1 ∨ (60 : Int) < (m : Int) := a
    omega
  refine s_inK (by omega) hr ⟨fun c => absurd c (by decide), fun _ => ?_⟩
  have lo : ∀ v, v ≤ 1 → su_ (fun k => isP k ∧ k % m = r) (fun _ => 1) v = 0 := fun v hv => su_z v (fun k a b q => by have := q.1.1; omega)
  refine ⟨fun x y => ∃ j, 1 ≤ j ∧ (j = 1 ∨ j ≤ n) ∧ x = nI (j + 1) ∧ y = nI (am_ j m r), fun x _ => ((3000000 : Nat) - x.toInt).toNat, ⟨1, by omega, Or.inl rfl, rfl, by unfold am_; rw [lo 1 (by omega)]; rfl⟩, ?_⟩
  rintro x y ⟨j, j1, j2, rfl, rfl⟩
  refine ⟨fun c => ?_, fun c => ?_⟩
  · have c' := (nI_ltI (by omega) (by omega)).mp c
    have e : am_ j m r = am_ n m r := by
      unfold am_
      by_cases q : j = n
      · rw [q]
      · have : j = 1 := by omega
        rw [this, lo 1 (by omega), lo n (by omega)]
    rw [e]; exact h
  · have c' := mt (nI_ltI (a := n) (b := j + 1) (by omega) (by omega)).mpr c
    have hml := Nat.mod_lt (j + 1) (show 0 < m by omega)
    rw [nI_clamp (by omega), show nI (j + 1) + (1 : Int32) = nI (j + 1 + 1) from nI_1 (j + 1), pk_rem (by omega) (by omega) (by omega)]
    have hN := isN_ hgn (k := j + 1) (by omega)
    refine ⟨vp_in_nI (by omega) (by omega), fun z => ⟨nI_ne0 (by omega) (by omega), fun q x4 e4 x5 e5 => ?_, fun q x4 e4 x5 e5 => ?_⟩, fun z x4 e4 x5 e5 => ?_⟩
    · have q' := (nI_eq (by omega) (by omega)).mp q
      subst e4 e5
      refine ⟨⟨j + 1, by omega, Or.inr (by omega), rfl, ?_⟩, measM (by omega) (by omega)⟩
      unfold am_
      rw [su_1 (P := fun k => isP k ∧ k % m = r) ⟨hN.mp z, q'⟩]
      exact nI_1 _
    · have q' := mt (nI_eq (a := (j + 1) % m) (b := r) (by omega) (by omega)).mpr q
      subst e4 e5
      refine ⟨⟨j + 1, by omega, Or.inr (by omega), rfl, ?_⟩, measM (by omega) (by omega)⟩
      unfold am_
      rw [su_0 (P := fun k => isP k ∧ k % m = r) (fun y => q' y.2)]
      exact ad0 _
    · subst e4 e5
      refine ⟨⟨j + 1, by omega, Or.inr (by omega), rfl, ?_⟩, measM (by omega) (by omega)⟩
      unfold am_
      rw [su_0 (P := fun k => isP k ∧ k % m = r) (fun y => z (hN.mpr y.1))]
      exact ad0 _
theorem split2 {C : Nat → Prop} : ∀ n, su_ (fun k => isP k ∧ C k) (fun _ => 1) n = b01 (2 ≤ n ∧ C 2) + su_ (fun k => isP k ∧ k % 2 = 1 ∧ C k) (fun _ => 1) n := by
  intro n
  induction n with
  | zero => rw [b01_0 (fun q => by have := q.1; omega)]; rfl
  | succ n ih =>
    show su_ (fun k => isP k ∧ C k) (fun _ => 1) n + b01 (isP (n + 1) ∧ C (n + 1)) * 1 = b01 (2 ≤ n + 1 ∧ C 2) + (su_ (fun k => isP k ∧ k % 2 = 1 ∧ C k) (fun _ => 1) n + b01 (isP (n + 1) ∧ (n + 1) % 2 = 1 ∧ C (n + 1)) * 1)
    rw [ih]
    by_cases q : n + 1 = 2
    · have e : n = 1 := by omega
      subst e
      rw [b01_0 (p := 2 ≤ 1 ∧ C 2) (fun y => by have := y.1; omega), b01_0 (p := isP (1 + 1) ∧ (1 + 1) % 2 = 1 ∧ C (1 + 1)) (fun y => by have := y.2.1; omega), b01_iff (p := isP (1 + 1) ∧ C (1 + 1)) (q := 2 ≤ 1 + 1 ∧ C 2) ⟨fun y => ⟨by omega, y.2⟩, fun y => ⟨isP_2, y.2⟩⟩]
      omega
    · have e1 : b01 (2 ≤ n + 1 ∧ C 2) = b01 (2 ≤ n ∧ C 2) := b01_iff ⟨fun y => ⟨by have := y.1; omega, y.2⟩, fun y => ⟨by have := y.1; omega, y.2⟩⟩
      have e2 : b01 (isP (n + 1) ∧ (n + 1) % 2 = 1 ∧ C (n + 1)) = b01 (isP (n + 1) ∧ C (n + 1)) := b01_iff ⟨fun y => ⟨y.1, y.2.2⟩, fun y => ⟨y.1, isP_odd y.1 q, y.2⟩⟩
      rw [e1, e2]
      omega
theorem re_ {P : Nat → Prop} {s a : Nat} (ha : 1 ≤ a) (has : a < s) : ∀ n, su_ (fun k => P k ∧ k % s = a) (fun _ => 1) n = cntQ (fun k => P (a + k * s)) ((n + (s - a)) / s) := by
  intro n
  induction n with
  | zero => rw [Nat.div_eq_of_lt (show 0 + (s - a) < s by omega)]; rfl
  | succ n ih =>
    have hml := Nat.mod_lt (n + 1) (show 0 < s by omega)
    have hdm := Nat.div_add_mod (n + 1) s
    have e0 : n + 1 + (s - a) = n + (s - a) + 1 := by omega
    rw [e0]
    by_cases q : s ∣ n + (s - a) + 1
    · rw [Nat.succ_div_of_dvd q]
      obtain ⟨t, ht⟩ := q
      have h1 : (n + (s - a)) / s + 1 = t := by
        rw [← Nat.succ_div_of_dvd ⟨t, ht⟩, ht]
        exact Nat.mul_div_cancel_left t (by omega)
      have ht1 : s * t = s * ((n + (s - a)) / s) + s := by rw [← h1, Nat.mul_succ]
      have hn1 : a + (n + (s - a)) / s * s = n + 1 := by
        rw [Nat.mul_comm]
        omega
      have hmod : (n + 1) % s = a := by
        rw [← hn1, Nat.mul_comm, Nat.add_mul_mod_self_left, Nat.mod_eq_of_lt has]
      show su_ (fun k => P k ∧ k % s = a) (fun _ => 1) n + b01 (P (n + 1) ∧ (n + 1) % s = a) * 1 = cntQ (fun k => P (a + k * s)) ((n + (s - a)) / s) + b01 (P (a + (n + (s - a)) / s * s))
      rw [ih, Nat.mul_one, hn1, b01_iff (p := P (n + 1) ∧ (n + 1) % s = a) (q := P (n + 1)) ⟨fun y => y.1, fun y => ⟨y, hmod⟩⟩]
    · rw [Nat.succ_div_of_not_dvd q]
      have hmod : ¬ (n + 1) % s = a := by
        intro y
        apply q
        refine ⟨(n + 1) / s + 1, ?_⟩
        rw [Nat.mul_succ]
        omega
      rw [su_0 (P := fun k => P k ∧ k % s = a) (fun y => hmod y.2)]
      exact ih
/-- the odd ones, told by the progression -/
theorem od_re {n m r a s : Nat} (ha : 1 ≤ a) (has : a < s) (hk : ∀ k, k % s = a ↔ (k % 2 = 1 ∧ k % m = r)) : od_ n m r = cntQ (fun k => isP (a + k * s)) ((n + (s - a)) / s) := by
  rw [← re_ (P := isP) ha has n]
  exact su_eq n (fun k _ _ => ⟨fun y => ⟨y.1, (hk k).mpr y.2⟩, fun y => ⟨y.1, (hk k).mp y.2⟩⟩)
theorem od_le (n m r : Nat) : od_ n m r ≤ n * n := su_le (fun m hm => hm) n
theorem s_gcd {a b : Nat} (ha : a ≤ 60) (hb : b ≤ 60) {Q : Int32 → Prop} (h : Q (nI (Nat.gcd a b))) : wp_X7_commonDivisor (nI a) (nI b) Q := by
  unfold wp_X7_commonDivisor
  refine ⟨fun x y z => ∃ T a' b', a' ≤ 60 ∧ b' ≤ 60 ∧ T + b' ≤ 60 ∧ Nat.gcd a' b' = Nat.gcd a b ∧ x = nI T ∧ y = nI b' ∧ z = nI a', fun x _ _ => (700 - x.toInt).toNat, ⟨0, a, b, ha, hb, by omega, rfl, rfl, rfl, rfl⟩, ?_⟩
  rintro x y z ⟨T, a', b', h1, h2, h3, h4, rfl, rfl, rfl⟩
  refine ⟨fun c => ?_, fun _ => ⟨fun c => ?_, fun c => ⟨c, fun x5 e5 x4 e4 => ?_⟩⟩⟩
  · have := (nI_leI (a := 64) (b := T) (by omega) (by omega)).mp c
    omega
  · have c' := (nI_eq (a := b') (b := 0) (by omega) (by omega)).mp c
    rw [c', Nat.gcd_zero_right] at h4
    rw [h4]; exact h
  · have c' := mt (nI_eq (a := b') (b := 0) (by omega) (by omega)).mpr c
    have hml := Nat.mod_lt a' (show 0 < b' by omega)
    rw [pk_rem (by omega) (by omega) (by omega)] at e5
    rw [show nI T + (1 : Int32) = nI (T + 1) from nI_1 T] at e4
    subst e5 e4
    refine ⟨⟨T + 1, b', a' % b', h2, by omega, by omega, ?_, rfl, rfl, rfl⟩, meas1 (by omega)⟩
    rw [← h4, Nat.gcd_comm b', ← Nat.gcd_rec, Nat.gcd_comm]
theorem e_par {k : Nat} (hk : k ≤ 200) : ((nI k - nI k / (2 : Int32) * (2 : Int32)) = (0 : Int32) ↔ k % 2 = 0) ∧ ((nI k - nI k / (2 : Int32) * (2 : Int32)) = (1 : Int32) ↔ k % 2 = 1) := by
  rw [show (2 : Int32) = nI 2 from rfl, pk_rem (by omega) (by omega) (by omega)]
  exact ⟨nI_eq (a := k % 2) (b := 0) (by omega) (by omega), nI_eq (a := k % 2) (b := 1) (by omega) (by omega)⟩
theorem gcd_2 {m r : Nat} (hg : Nat.gcd m r = 1) (h : m % 2 = 0) : r % 2 = 1 := by
  rcases (by omega : r % 2 = 0 ∨ r % 2 = 1) with q | q
  · have := Nat.dvd_gcd (Nat.dvd_of_mod_eq_zero h) (Nat.dvd_of_mod_eq_zero q)
    rw [hg] at this
    have := Nat.le_of_dvd (by omega) this
    omega
  · exact q
theorem gcd_odd {m x : Nat} (hg : Nat.gcd m x = 1) (hx : x % 2 = 1) : Nat.gcd x (2 * m) = 1 := by
  have h2 : Nat.Coprime x 2 := by
    rw [Nat.coprime_comm]
    exact coP isP_2 (fun q => by have := Nat.mod_eq_zero_of_dvd q; omega)
  exact Nat.Coprime.mul_right h2 ((Nat.gcd_comm x m).trans hg)
theorem opl_ {m r : Nat} (hm1 : 1 ≤ m) (hm : m ≤ 60) (hr : r < m) (hg : Nat.gcd m r = 1) {S G1 : Prop} {G2 G3 : Int32 → Prop} {G4 : Int32 → Int32 → Prop} (hS : (m = 1 ∨ m = 2) → S) (h1 : m % 2 = 0 → 4 ≤ m → r % 2 = 1 → G1) (h3 : m % 2 = 1 → 3 ≤ m → r % 2 = 1 → G3 (nI (2 * m))) (h4 : m % 2 = 1 → 3 ≤ m → r % 2 = 0 → G4 (nI (2 * m)) (nI (r + m))) : (((nI m - nI m / (2 : Int32) * (2 : Int32)) = (0 : Int32) → (((nI r - nI r / (2 : Int32) * (2 : Int32)) = (1 : Int32) → ((nI m = (2 : Int32) → S) ∧ (¬ nI m = (2 : Int32) → G1))) ∧ (¬ (nI r - nI r / (2 : Int32) * (2 : Int32)) = (1 : Int32) → (∀ x5 : Int32, x5 = (nI r + nI m) → ((nI m = (2 : Int32) → S) ∧ (¬ nI m = (2 : Int32) → G2 x5)))))) ∧ (¬ (nI m - nI m / (2 : Int32) * (2 : Int32)) = (0 : Int32) → (∀ x4 : Int32, x4 = ((2 : Int32) * nI m) → (((nI r - nI r / (2 : Int32) * (2 : Int32)) = (1 : Int32) → ((x4 = (2 : Int32) → S) ∧ (¬ x4 = (2 : Int32) → G3 x4))) ∧ (¬ (nI r - nI r / (2 : Int32) * (2 : Int32)) = (1 : Int32) → (∀ x5 : Int32, x5 = (nI r + nI m) → ((x4 = (2 : Int32) → S) ∧ (¬ x4 = (2 : Int32) → G4 x4 x5)))))))) := by
  obtain ⟨pm0, pm1⟩ := e_par (k := m) (by omega)
  obtain ⟨pr0, pr1⟩ := e_par (k := r) (by omega)
  have em2 : nI m = (2 : Int32) ↔ m = 2 := nI_eq (a := m) (b := 2) (by omega) (by omega)
  refine ⟨fun c => ⟨fun d => ⟨fun e => hS (Or.inr (em2.mp e)), fun e => ?_⟩, fun d => absurd (pr1.mpr (gcd_2 hg (pm0.mp c))) d⟩, fun c x4 e4 => ?_⟩
  · have c' := pm0.mp c
    have e' := mt em2.mpr e
    exact h1 c' (by omega) (pr1.mp d)
  · have c' := mt pm0.mpr c
    rw [show (2 : Int32) * nI m = nI (2 * m) from pk_mul 2 m] at e4
    subst e4
    have e2m : nI (2 * m) = (2 : Int32) ↔ 2 * m = 2 := nI_eq (a := 2 * m) (b := 2) (by omega) (by omega)
    refine ⟨fun d => ⟨fun e => hS (Or.inl (by have := e2m.mp e; omega)), fun e => ?_⟩, fun d x5 e5 => ⟨fun e => hS (Or.inl (by have := e2m.mp e; omega)), fun e => ?_⟩⟩
    · have e' := mt e2m.mpr e
      exact h3 (by omega) (by omega) (pr1.mp d)
    · have e' := mt e2m.mpr e
      have d' := mt pr1.mpr d
      rw [nI_add] at e5
      subst e5
      exact h4 (by omega) (by omega) (by omega)
/-- the three progressions -/
theorem pg1 {f : Nat → Int32} {tm : Int32} (ht : tab_ f tm) {n m r : Nat} (hn : n ≤ 2000000) (hm : m ≤ 60) (hr : r < m) (hg : Nat.gcd m r = 1) (c : m % 2 = 0) (h4 : 4 ≤ m) (d : r % 2 = 1) {w : Nat → Int64} {Q : Int32 → (Nat → Int64) → Prop} (h : ∀ w', Q (nI (od_ n m r)) w') : wp_X4_primesOf w f tm (nI r) (nI m) (nI n) Q := by
  refine s_primesOf ht hn d c h4 (by omega) hr ((Nat.gcd_comm r m).trans hg) ?_
  rw [← od_re (n := n) (m := m) (r := r) (by omega) hr (fun k => ⟨fun e => ⟨?_, e⟩, fun e => e.2⟩)]
  · exact h
  · have h1 := Nat.div_add_mod k m
    have h2 : (m * (k / m)) % 2 = 0 := by rw [Nat.mul_mod, c, Nat.zero_mul]
    omega
theorem md2 {k m r : Nat} (hm1 : 1 ≤ m) (hm : m % 2 = 1) (hr : r < m) (a : Nat) (ha : (r % 2 = 1 ∧ a = r) ∨ (r % 2 = 0 ∧ a = r + m)) : k % (2 * m) = a ↔ (k % 2 = 1 ∧ k % m = r) := by
  have h1 := Nat.div_add_mod k (2 * m)
  have h2 := Nat.mod_lt k (show 0 < 2 * m by omega)
  have h3 : k % m = (k % (2 * m)) % m := by
    rw [Nat.mod_mod_of_dvd k ⟨2, by rw [Nat.mul_comm]⟩]
  have h4 : k % 2 = (k % (2 * m)) % 2 := by
    rw [Nat.mod_mod_of_dvd k ⟨m, rfl⟩]
  generalize k % (2 * m) = u at *
  rw [h3, h4]
  have h5 : u % m = if u < m then u else u - m := by
    by_cases q : u < m
    · rw [if_pos q, Nat.mod_eq_of_lt q]
    · rw [if_neg q, Nat.mod_eq_sub_mod (by omega), Nat.mod_eq_of_lt (by omega)]
  rw [h5]
  by_cases q : u < m
  · rw [if_pos q]; omega
  · rw [if_neg q]; omega
theorem pg3 {f : Nat → Int32} {tm : Int32} (ht : tab_ f tm) {n m r : Nat} (hn : n ≤ 2000000) (hm : m ≤ 60) (hr : r < m) (hg : Nat.gcd m r = 1) (c : m % 2 = 1) (h3 : 3 ≤ m) (d : r % 2 = 1) {w : Nat → Int64} {Q : Int32 → (Nat → Int64) → Prop} (h : ∀ w', Q (nI (od_ n m r)) w') : wp_X4_primesOf w f tm (nI r) (nI (2 * m)) (nI n) Q := by
  refine s_primesOf ht hn d (by omega) (by omega) (by omega) (by omega) (gcd_odd hg d) ?_
  rw [← od_re (n := n) (m := m) (r := r) (by omega) (by omega) (fun k => md2 (by omega) c hr r (Or.inl ⟨d, rfl⟩))]
  exact h
theorem pg4 {f : Nat → Int32} {tm : Int32} (ht : tab_ f tm) {n m r : Nat} (hn : n ≤ 2000000) (hm : m ≤ 60) (hr : r < m) (hg : Nat.gcd m r = 1) (c : m % 2 = 1) (h3 : 3 ≤ m) (d : r % 2 = 0) {w : Nat → Int64} {Q : Int32 → (Nat → Int64) → Prop} (h : ∀ w', Q (nI (od_ n m r)) w') : wp_X4_primesOf w f tm (nI (r + m)) (nI (2 * m)) (nI n) Q := by
  have hg2 : Nat.gcd m (r + m) = 1 := by
    rw [Nat.gcd_comm, Nat.gcd_add_self_left, Nat.gcd_comm]; exact hg
  refine s_primesOf ht hn (by omega) (by omega) (by omega) (by omega) (by omega) (gcd_odd hg2 (by omega)) ?_
  rw [← od_re (n := n) (m := m) (r := r) (by omega) (by omega) (fun k => md2 (by omega) c hr (r + m) (Or.inr ⟨d, rfl⟩))]
  exact h
/-- with the step 2: all primes but one -/
theorem sm2_ {n m r : Nat} (hn : n ≤ 2000000) (hr : r < m) (hg : Nat.gcd m r = 1) (h12 : m = 1 ∨ m = 2) : (if (0 : Int32) < ((lN (su_ isP (Wz_ 0) n)).toInt32 - (1 : Int32)) then ((lN (su_ isP (Wz_ 0) n)).toInt32 - (1 : Int32)) else (0 : Int32)) = nI (od_ n m r) := by
  have e1 : su_ isP (Wz_ 0) n = su_ (fun k => isP k ∧ True) (fun _ => 1) n := by
    have : (Wz_ 0) = (fun _ => 1) := by
      funext k
      unfold Wz_
      exact if_pos rfl
    rw [this]
    exact su_eq n (fun k _ _ => ⟨fun y => ⟨y, trivial⟩, fun y => y.1⟩)
  have e2 := split2 (C := fun _ => True) n
  have e3 : su_ (fun k => isP k ∧ k % 2 = 1 ∧ True) (fun _ => 1) n = od_ n m r := by
    refine su_eq n (fun k _ _ => ⟨fun y => ⟨y.1, y.2.1, ?_⟩, fun y => ⟨y.1, y.2.1, trivial⟩⟩)
    rcases h12 with e | e
    · subst e; omega
    · subst e
      have := gcd_2 hg (by omega)
      have := y.2.1
      omega
  rw [e3] at e2
  rw [lN_i, e1, e2]
  have hle : od_ n m r ≤ n := by
    have : ∀ v, su_ (fun k => isP k ∧ k % 2 = 1 ∧ k % m = r) (fun _ => 1) v ≤ v := by
      intro v
      induction v with
      | zero => exact Nat.le_refl 0
      | succ v ih =>
        show su_ (fun k => isP k ∧ k % 2 = 1 ∧ k % m = r) (fun _ => 1) v + b01 (isP (v + 1) ∧ (v + 1) % 2 = 1 ∧ (v + 1) % m = r) * 1 ≤ v + 1
        have := b01_le (isP (v + 1) ∧ (v + 1) % 2 = 1 ∧ (v + 1) % m = r)
        omega
    exact this n
  by_cases q : 2 ≤ n
  · rw [b01_1 ⟨q, trivial⟩, Nat.add_comm 1, show nI (od_ n m r + 1) - (1 : Int32) = nI (od_ n m r) from nI_pred _]
    by_cases z : (0 : Int32) < nI (od_ n m r)
    · rw [if_pos z]
    · rw [if_neg z]
      have z' := mt (nI_ltI (a := 0) (b := od_ n m r) (by omega) (by omega)).mpr z
      have : od_ n m r = 0 := by omega
      rw [this]; rfl
  · have h0 : od_ n m r = 0 := su_z n (fun k a b y => by have := y.1.1; omega)
    rw [b01_0 (fun y => q y.1), h0]
    decide
theorem s_opl_c000 {mc ms : Nat} {n m r : Nat} (hn : n ≤ 2000000) (hm1 : 1 ≤ m) (hm : m ≤ 60) (hr : r < m) (hg : Nat.gcd m r = 1) {Q : Int32 → Option ((Nat → Int32) × Int32) → Option ((Nat → Int64) × (Nat → Int64)) → Option (Nat → Int64) → Prop} (hS : (m = 1 ∨ m = 2) → (3 ≤ mc ∧ 2832 ≤ ms ∧ ∀ lo2 hi2 : Nat → Int64, Q (nI (od_ n m r)) none (some (lo2, hi2)) none)) (hG : 3 ≤ m → (7 ≤ mc ∧ 18973 ≤ ms ∧ ∀ (f : Nat → Int32) (t : Int32) (wd2 : Nat → Int64), tab_ f t → Q (nI (od_ n m r)) (some (f, t)) none (some wd2))) : wp_X8_oddPrimesLeaving_c000 mc ms  (nI n) (nI m) (nI r) Q := by
  unfold wp_X8_oddPrimesLeaving_c000
  unfold wp_X8_knownPrimes_c0 wp_X8_knownSums_c0 wp_X2_init wp_X4_init wp_X0_init
  refine opl_ hm1 hm hr hg (fun h12 => ?_) (fun e1 e2 e3 => ?_) (fun e1 e2 e3 => ?_) (fun e1 e2 e3 => ?_)
  · exact ⟨(hS h12).1, (hS h12).2.1, s_total hn (fun lo2 hi2 => by rw [sm2_ hn hr hg h12]; exact (hS h12).2.2 lo2 hi2)⟩
  · exact ⟨by have := (hG (by omega)).1; omega, by have := (hG (by omega)).2.1; omega, by have := (hG (by omega)).1; omega, by have := (hG (by omega)).2.1; omega, fun _ => ⟨by decide, by decide, by decide, (hG (by omega)).1, (hG (by omega)).2.1, s_init3 (fun f t hf => pg1 hf hn hm hr hg e1 e2 e3 (fun wd2 => (hG (by omega)).2.2 f t wd2 hf))⟩, fun c => absurd (by decide) c⟩
  · exact ⟨by have := (hG (by omega)).1; omega, by have := (hG (by omega)).2.1; omega, by have := (hG (by omega)).1; omega, by have := (hG (by omega)).2.1; omega, fun _ => ⟨by decide, by decide, by decide, (hG (by omega)).1, (hG (by omega)).2.1, s_init3 (fun f t hf => pg3 hf hn hm hr hg e1 e2 e3 (fun wd2 => (hG (by omega)).2.2 f t wd2 hf))⟩, fun c => absurd (by decide) c⟩
  · exact ⟨by have := (hG (by omega)).1; omega, by have := (hG (by omega)).2.1; omega, by have := (hG (by omega)).1; omega, by have := (hG (by omega)).2.1; omega, fun _ => ⟨by decide, by decide, by decide, (hG (by omega)).1, (hG (by omega)).2.1, s_init3 (fun f t hf => pg4 hf hn hm hr hg e1 e2 e3 (fun wd2 => (hG (by omega)).2.2 f t wd2 hf))⟩, fun c => absurd (by decide) c⟩
theorem s_opl_c001 {mc ms : Nat} {wd : Nat → Int64} {n m r : Nat} (hn : n ≤ 2000000) (hm1 : 1 ≤ m) (hm : m ≤ 60) (hr : r < m) (hg : Nat.gcd m r = 1) {Q : Int32 → (Nat → Int64) → Option ((Nat → Int32) × Int32) → Option ((Nat → Int64) × (Nat → Int64)) → Prop} (hS : (m = 1 ∨ m = 2) → (3 ≤ mc ∧ 2832 ≤ ms ∧ ∀ lo2 hi2 : Nat → Int64, Q (nI (od_ n m r)) wd none (some (lo2, hi2)))) (hG : 3 ≤ m → (4 ≤ mc ∧ 11158 ≤ ms ∧ ∀ (f : Nat → Int32) (t : Int32) (wd2 : Nat → Int64), tab_ f t → Q (nI (od_ n m r)) wd2 (some (f, t)) none)) : wp_X8_oddPrimesLeaving_c001 mc ms wd (nI n) (nI m) (nI r) Q := by
  unfold wp_X8_oddPrimesLeaving_c001
  unfold wp_X8_knownPrimes_c0 wp_X8_knownSums_c0 wp_X2_init
  refine opl_ hm1 hm hr hg (fun h12 => ?_) (fun e1 e2 e3 => ?_) (fun e1 e2 e3 => ?_) (fun e1 e2 e3 => ?_)
  · exact ⟨(hS h12).1, (hS h12).2.1, s_total hn (fun lo2 hi2 => by rw [sm2_ hn hr hg h12]; exact (hS h12).2.2 lo2 hi2)⟩
  · exact ⟨(hG (by omega)).1, (hG (by omega)).2.1, s_init3 (fun f t hf => pg1 hf hn hm hr hg e1 e2 e3 (fun wd2 => (hG (by omega)).2.2 f t wd2 hf))⟩
  · exact ⟨(hG (by omega)).1, (hG (by omega)).2.1, s_init3 (fun f t hf => pg3 hf hn hm hr hg e1 e2 e3 (fun wd2 => (hG (by omega)).2.2 f t wd2 hf))⟩
  · exact ⟨(hG (by omega)).1, (hG (by omega)).2.1, s_init3 (fun f t hf => pg4 hf hn hm hr hg e1 e2 e3 (fun wd2 => (hG (by omega)).2.2 f t wd2 hf))⟩
theorem s_opl_c010 {mc ms : Nat} {lo hi : Nat → Int64} {n m r : Nat} (hn : n ≤ 2000000) (hm1 : 1 ≤ m) (hm : m ≤ 60) (hr : r < m) (hg : Nat.gcd m r = 1) {Q : Int32 → (Nat → Int64) → (Nat → Int64) → Option ((Nat → Int32) × Int32) → Option (Nat → Int64) → Prop} (hS : (m = 1 ∨ m = 2) → (∀ lo2 hi2 : Nat → Int64, Q (nI (od_ n m r)) lo2 hi2 none none)) (hG : 3 ≤ m → (7 ≤ mc ∧ 18973 ≤ ms ∧ ∀ (f : Nat → Int32) (t : Int32) (wd2 : Nat → Int64), tab_ f t → Q (nI (od_ n m r)) lo hi (some (f, t)) (some wd2))) : wp_X8_oddPrimesLeaving_c010 mc ms lo hi (nI n) (nI m) (nI r) Q := by
  unfold wp_X8_oddPrimesLeaving_c010
  unfold wp_X8_knownPrimes_c0 wp_X8_knownSums_c1 wp_X4_init wp_X0_init
  refine opl_ hm1 hm hr hg (fun h12 => ?_) (fun e1 e2 e3 => ?_) (fun e1 e2 e3 => ?_) (fun e1 e2 e3 => ?_)
  · exact s_total hn (fun lo2 hi2 => by rw [sm2_ hn hr hg h12]; exact hS h12 lo2 hi2)
  · exact ⟨by have := (hG (by omega)).1; omega, by have := (hG (by omega)).2.1; omega, by have := (hG (by omega)).1; omega, by have := (hG (by omega)).2.1; omega, fun _ => ⟨by decide, by decide, by decide, (hG (by omega)).1, (hG (by omega)).2.1, s_init3 (fun f t hf => pg1 hf hn hm hr hg e1 e2 e3 (fun wd2 => (hG (by omega)).2.2 f t wd2 hf))⟩, fun c => absurd (by decide) c⟩
  · exact ⟨by have := (hG (by omega)).1; omega, by have := (hG (by omega)).2.1; omega, by have := (hG (by omega)).1; omega, by have := (hG (by omega)).2.1; omega, fun _ => ⟨by decide, by decide, by decide, (hG (by omega)).1, (hG (by omega)).2.1, s_init3 (fun f t hf => pg3 hf hn hm hr hg e1 e2 e3 (fun wd2 => (hG (by omega)).2.2 f t wd2 hf))⟩, fun c => absurd (by decide) c⟩
  · exact ⟨by have := (hG (by omega)).1; omega, by have := (hG (by omega)).2.1; omega, by have := (hG (by omega)).1; omega, by have := (hG (by omega)).2.1; omega, fun _ => ⟨by decide, by decide, by decide, (hG (by omega)).1, (hG (by omega)).2.1, s_init3 (fun f t hf => pg4 hf hn hm hr hg e1 e2 e3 (fun wd2 => (hG (by omega)).2.2 f t wd2 hf))⟩, fun c => absurd (by decide) c⟩
theorem s_opl_c011 {mc ms : Nat} {lo hi : Nat → Int64} {wd : Nat → Int64} {n m r : Nat} (hn : n ≤ 2000000) (hm1 : 1 ≤ m) (hm : m ≤ 60) (hr : r < m) (hg : Nat.gcd m r = 1) {Q : Int32 → (Nat → Int64) → (Nat → Int64) → (Nat → Int64) → Option ((Nat → Int32) × Int32) → Prop} (hS : (m = 1 ∨ m = 2) → (∀ lo2 hi2 : Nat → Int64, Q (nI (od_ n m r)) lo2 hi2 wd none)) (hG : 3 ≤ m → (4 ≤ mc ∧ 11158 ≤ ms ∧ ∀ (f : Nat → Int32) (t : Int32) (wd2 : Nat → Int64), tab_ f t → Q (nI (od_ n m r)) lo hi wd2 (some (f, t)))) : wp_X8_oddPrimesLeaving_c011 mc ms lo hi wd (nI n) (nI m) (nI r) Q := by
  unfold wp_X8_oddPrimesLeaving_c011
  unfold wp_X8_knownPrimes_c0 wp_X8_knownSums_c1
  refine opl_ hm1 hm hr hg (fun h12 => ?_) (fun e1 e2 e3 => ?_) (fun e1 e2 e3 => ?_) (fun e1 e2 e3 => ?_)
  · exact s_total hn (fun lo2 hi2 => by rw [sm2_ hn hr hg h12]; exact hS h12 lo2 hi2)
  · exact ⟨(hG (by omega)).1, (hG (by omega)).2.1, s_init3 (fun f t hf => pg1 hf hn hm hr hg e1 e2 e3 (fun wd2 => (hG (by omega)).2.2 f t wd2 hf))⟩
  · exact ⟨(hG (by omega)).1, (hG (by omega)).2.1, s_init3 (fun f t hf => pg3 hf hn hm hr hg e1 e2 e3 (fun wd2 => (hG (by omega)).2.2 f t wd2 hf))⟩
  · exact ⟨(hG (by omega)).1, (hG (by omega)).2.1, s_init3 (fun f t hf => pg4 hf hn hm hr hg e1 e2 e3 (fun wd2 => (hG (by omega)).2.2 f t wd2 hf))⟩
theorem s_opl_c100 {mc ms : Nat} {tb : Nat → Int32} {tm : Int32} (htb : tab_ tb tm) {n m r : Nat} (hn : n ≤ 2000000) (hm1 : 1 ≤ m) (hm : m ≤ 60) (hr : r < m) (hg : Nat.gcd m r = 1) {Q : Int32 → Option ((Nat → Int64) × (Nat → Int64)) → Option (Nat → Int64) → Prop} (hS : (m = 1 ∨ m = 2) → (3 ≤ mc ∧ 2832 ≤ ms ∧ ∀ lo2 hi2 : Nat → Int64, Q (nI (od_ n m r)) (some (lo2, hi2)) none)) (hG : 3 ≤ m → (3 ≤ mc ∧ 7815 ≤ ms ∧ ∀ wd2 : Nat → Int64, Q (nI (od_ n m r)) none (some wd2))) : wp_X8_oddPrimesLeaving_c100 mc ms tb tm (nI n) (nI m) (nI r) Q := by
  unfold wp_X8_oddPrimesLeaving_c100
  unfold wp_X8_knownPrimes_c1 wp_X8_knownSums_c0 wp_X2_init wp_X4_init wp_X0_init
  refine opl_ hm1 hm hr hg (fun h12 => ?_) (fun e1 e2 e3 => ?_) (fun e1 e2 e3 => ?_) (fun e1 e2 e3 => ?_)
  · exact ⟨(hS h12).1, (hS h12).2.1, s_total hn (fun lo2 hi2 => by rw [sm2_ hn hr hg h12]; exact (hS h12).2.2 lo2 hi2)⟩
  · exact ⟨by have := (hG (by omega)).1; omega, by have := (hG (by omega)).2.1; omega, (hG (by omega)).1, (hG (by omega)).2.1, fun _ => ⟨by decide, by decide, by decide, pg1 htb hn hm hr hg e1 e2 e3 (fun wd2 => (hG (by omega)).2.2 wd2)⟩, fun c => absurd (by decide) c⟩
  · exact ⟨by have := (hG (by omega)).1; omega, by have := (hG (by omega)).2.1; omega, (hG (by omega)).1, (hG (by omega)).2.1, fun _ => ⟨by decide, by decide, by decide, pg3 htb hn hm hr hg e1 e2 e3 (fun wd2 => (hG (by omega)).2.2 wd2)⟩, fun c => absurd (by decide) c⟩
  · exact ⟨by have := (hG (by omega)).1; omega, by have := (hG (by omega)).2.1; omega, (hG (by omega)).1, (hG (by omega)).2.1, fun _ => ⟨by decide, by decide, by decide, pg4 htb hn hm hr hg e1 e2 e3 (fun wd2 => (hG (by omega)).2.2 wd2)⟩, fun c => absurd (by decide) c⟩
theorem s_opl_c101 {mc ms : Nat} {tb : Nat → Int32} {tm : Int32} (htb : tab_ tb tm) {wd : Nat → Int64} {n m r : Nat} (hn : n ≤ 2000000) (hm1 : 1 ≤ m) (hm : m ≤ 60) (hr : r < m) (hg : Nat.gcd m r = 1) {Q : Int32 → (Nat → Int64) → Option ((Nat → Int64) × (Nat → Int64)) → Prop} (hS : (m = 1 ∨ m = 2) → (3 ≤ mc ∧ 2832 ≤ ms ∧ ∀ lo2 hi2 : Nat → Int64, Q (nI (od_ n m r)) wd (some (lo2, hi2)))) (hG : 3 ≤ m → (∀ wd2 : Nat → Int64, Q (nI (od_ n m r)) wd2 none)) : wp_X8_oddPrimesLeaving_c101 mc ms tb tm wd (nI n) (nI m) (nI r) Q := by
  unfold wp_X8_oddPrimesLeaving_c101
  unfold wp_X8_knownPrimes_c1 wp_X8_knownSums_c0 wp_X2_init
  refine opl_ hm1 hm hr hg (fun h12 => ?_) (fun e1 e2 e3 => ?_) (fun e1 e2 e3 => ?_) (fun e1 e2 e3 => ?_)
  · exact ⟨(hS h12).1, (hS h12).2.1, s_total hn (fun lo2 hi2 => by rw [sm2_ hn hr hg h12]; exact (hS h12).2.2 lo2 hi2)⟩
  · exact pg1 htb hn hm hr hg e1 e2 e3 (fun wd2 => (hG (by omega)) wd2)
  · exact pg3 htb hn hm hr hg e1 e2 e3 (fun wd2 => (hG (by omega)) wd2)
  · exact pg4 htb hn hm hr hg e1 e2 e3 (fun wd2 => (hG (by omega)) wd2)
theorem s_opl_c110 {mc ms : Nat} {tb : Nat → Int32} {tm : Int32} (htb : tab_ tb tm) {lo hi : Nat → Int64} {n m r : Nat} (hn : n ≤ 2000000) (hm1 : 1 ≤ m) (hm : m ≤ 60) (hr : r < m) (hg : Nat.gcd m r = 1) {Q : Int32 → (Nat → Int64) → (Nat → Int64) → Option (Nat → Int64) → Prop} (hS : (m = 1 ∨ m = 2) → (∀ lo2 hi2 : Nat → Int64, Q (nI (od_ n m r)) lo2 hi2 none)) (hG : 3 ≤ m → (3 ≤ mc ∧ 7815 ≤ ms ∧ ∀ wd2 : Nat → Int64, Q (nI (od_ n m r)) lo hi (some wd2))) : wp_X8_oddPrimesLeaving_c110 mc ms tb tm lo hi (nI n) (nI m) (nI r) Q := by
  unfold wp_X8_oddPrimesLeaving_c110
  unfold wp_X8_knownPrimes_c1 wp_X8_knownSums_c1 wp_X4_init wp_X0_init
  refine opl_ hm1 hm hr hg (fun h12 => ?_) (fun e1 e2 e3 => ?_) (fun e1 e2 e3 => ?_) (fun e1 e2 e3 => ?_)
  · exact s_total hn (fun lo2 hi2 => by rw [sm2_ hn hr hg h12]; exact hS h12 lo2 hi2)
  · exact ⟨by have := (hG (by omega)).1; omega, by have := (hG (by omega)).2.1; omega, (hG (by omega)).1, (hG (by omega)).2.1, fun _ => ⟨by decide, by decide, by decide, pg1 htb hn hm hr hg e1 e2 e3 (fun wd2 => (hG (by omega)).2.2 wd2)⟩, fun c => absurd (by decide) c⟩
  · exact ⟨by have := (hG (by omega)).1; omega, by have := (hG (by omega)).2.1; omega, (hG (by omega)).1, (hG (by omega)).2.1, fun _ => ⟨by decide, by decide, by decide, pg3 htb hn hm hr hg e1 e2 e3 (fun wd2 => (hG (by omega)).2.2 wd2)⟩, fun c => absurd (by decide) c⟩
  · exact ⟨by have := (hG (by omega)).1; omega, by have := (hG (by omega)).2.1; omega, (hG (by omega)).1, (hG (by omega)).2.1, fun _ => ⟨by decide, by decide, by decide, pg4 htb hn hm hr hg e1 e2 e3 (fun wd2 => (hG (by omega)).2.2 wd2)⟩, fun c => absurd (by decide) c⟩
theorem s_opl_c111 {tb : Nat → Int32} {tm : Int32} (htb : tab_ tb tm) {lo hi : Nat → Int64} {wd : Nat → Int64} {n m r : Nat} (hn : n ≤ 2000000) (hm1 : 1 ≤ m) (hm : m ≤ 60) (hr : r < m) (hg : Nat.gcd m r = 1) {Q : Int32 → (Nat → Int64) → (Nat → Int64) → (Nat → Int64) → Prop} (hS : (m = 1 ∨ m = 2) → (∀ lo2 hi2 : Nat → Int64, Q (nI (od_ n m r)) lo2 hi2 wd)) (hG : 3 ≤ m → (∀ wd2 : Nat → Int64, Q (nI (od_ n m r)) lo hi wd2)) : wp_X8_oddPrimesLeaving_c111 tb tm lo hi wd (nI n) (nI m) (nI r) Q := by
  unfold wp_X8_oddPrimesLeaving_c111
  unfold wp_X8_knownPrimes_c1 wp_X8_knownSums_c1
  refine opl_ hm1 hm hr hg (fun h12 => ?_) (fun e1 e2 e3 => ?_) (fun e1 e2 e3 => ?_) (fun e1 e2 e3 => ?_)
  · exact s_total hn (fun lo2 hi2 => by rw [sm2_ hn hr hg h12]; exact hS h12 lo2 hi2)
  · exact pg1 htb hn hm hr hg e1 e2 e3 (fun wd2 => (hG (by omega)) wd2)
  · exact pg3 htb hn hm hr hg e1 e2 e3 (fun wd2 => (hG (by omega)) wd2)
  · exact pg4 htb hn hm hr hg e1 e2 e3 (fun wd2 => (hG (by omega)) wd2)
/-! among -/
theorem amN {p1 p2 p3 : Int32} (hq : p1.toInt < 0 ∨ 2000000 < p1.toInt ∨ p2.toInt < 1 ∨ 60 < p2.toInt ∨ p3.toInt < 0 ∨ p2.toInt ≤ p3.toInt) {N Y : Prop} (hN : N) : ((p1 < (0 : Int32) → N) ∧ (¬ p1 < (0 : Int32) → (((2000000 : Int32) < p1 → N) ∧ (¬ (2000000 : Int32) < p1 → ((p2 < (1 : Int32) → N) ∧ (¬ p2 < (1 : Int32) → (((60 : Int32) < p2 → N) ∧ (¬ (60 : Int32) < p2 → ((p3 < (0 : Int32) → N) ∧ (¬ p3 < (0 : Int32) → ((p3 < p2 → Y) ∧ (¬ p3 < p2 → N)))))))))))) := by
  refine ⟨fun _ => hN, fun c1 => ⟨fun _ => hN, fun c2 => ⟨fun _ => hN, fun c3 => ⟨fun _ => hN, fun c4 => ⟨fun _ => hN, fun c5 => ⟨fun c6 => ?_, fun _ => hN⟩⟩⟩⟩⟩⟩
  exfalso
  have d1 : ¬ p1.toInt < 0 := fun q => c1 (ilt.mpr q)
  have d2 : ¬ (2000000 : Int) < p1.toInt := fun q => c2 (ilt.mpr q)
  have d3 : ¬ p2.toInt < 1 := fun q => c3 (ilt.mpr q)
  have d4 : ¬ (60 : Int) < p2.toInt := fun q => c4 (ilt.mpr q)
  have d5 : ¬ p3.toInt < 0 := fun q => c5 (ilt.mpr q)
  have d6 : p3.toInt < p2.toInt := ilt.mp c6
  omega
theorem amV {n m r : Nat} (hn : n ≤ 2000000) (hm1 : 1 ≤ m) (hm : m ≤ 60) (hr : r < m) {N Y : Prop} (hY : Y) : ((nI n < (0 : Int32) → N) ∧ (¬ nI n < (0 : Int32) → (((2000000 : Int32) < nI n → N) ∧ (¬ (2000000 : Int32) < nI n → ((nI m < (1 : Int32) → N) ∧ (¬ nI m < (1 : Int32) → (((60 : Int32) < nI m → N) ∧ (¬ (60 : Int32) < nI m → ((nI r < (0 : Int32) → N) ∧ (¬ nI r < (0 : Int32) → ((nI r < nI m → Y) ∧ (¬ nI r < nI m → N)))))))))))) := by
  refine ⟨fun c => absurd c (nI_pos (by omega)), fun _ => ⟨fun c => ?_, fun _ => ⟨fun c => ?_, fun _ => ⟨fun c => ?_, fun _ => ⟨fun c => absurd c (nI_pos (by omega)), fun _ => ⟨fun _ => hY, fun c => absurd (nI_lt hr (by omega)) c⟩⟩⟩⟩⟩⟩
  · have := (nI_ltI (a := 2000000) (b := n) (by omega) (by omega)).mp c
    omega
  · have := (nI_ltI (a := m) (b := 1) (by omega) (by omega)).mp c
    omega
  · have := (nI_ltI (a := 60) (b := m) (by omega) (by omega)).mp c
    omega
theorem amB {n m r g : Nat} (hn : n ≤ 2000000) (hm1 : 1 ≤ m) (hm : m ≤ 60) (hr : r < m) (hg1 : 1 ≤ g) (hg : g ≤ 60) {O0 O1 Z PR : Prop} (h0 : g = 1 → ¬ (2 ≤ n ∧ 2 % m = r) → O0) (h1 : g = 1 → (2 ≤ n ∧ 2 % m = r) → O1) (hZ : g ≠ 1 → ¬ (g ≤ n ∧ g % m = r) → Z) (hP : g ≠ 1 → (g ≤ n ∧ g % m = r) → PR) : ((nI g ≤ (1 : Int32) → ((nI n < (2 : Int32) → O0) ∧ (¬ nI n < (2 : Int32) → (¬ nI m = 0 ∧ ((((2 : Int32) - (2 : Int32) / nI m * nI m) = nI r → O1) ∧ (¬ ((2 : Int32) - (2 : Int32) / nI m * nI m) = nI r → O0)))))) ∧ (¬ nI g ≤ (1 : Int32) → ((nI n < nI g → Z) ∧ (¬ nI n < nI g → (¬ nI m = 0 ∧ (((nI g - nI g / nI m * nI m) = nI r → PR) ∧ (¬ (nI g - nI g / nI m * nI m) = nI r → Z))))))) := by
  have hm2 := Nat.mod_lt 2 (show 0 < m by omega)
  have hmg := Nat.mod_lt g (show 0 < m by omega)
  have e2 : (2 : Int32) - (2 : Int32) / nI m * nI m = nI (2 % m) := pk_rem (a := 2) (d := m) (by omega) (by omega) (by omega)
  rw [e2, pk_rem (by omega) (by omega) (by omega)]
  have hg1' : nI g ≤ (1 : Int32) ↔ g ≤ 1 := nI_leI (a := g) (b := 1) (by omega) (by omega)
  have hn2 : nI n < (2 : Int32) ↔ n < 2 := nI_ltI (a := n) (b := 2) (by omega) (by omega)
  have hng : nI n < nI g ↔ n < g := nI_ltI (by omega) (by omega)
  have q2 : nI (2 % m) = nI r ↔ 2 % m = r := nI_eq (by omega) (by omega)
  have qg : nI (g % m) = nI r ↔ g % m = r := nI_eq (by omega) (by omega)
  refine ⟨fun c => ?_, fun c => ?_⟩
  · have c' : g = 1 := by have := hg1'.mp c; omega
    exact ⟨fun d => h0 c' (fun q => by have := hn2.mp d; omega), fun d => ⟨nI_ne0 (by omega) (by omega), fun e => h1 c' ⟨by have := mt hn2.mpr d; omega, q2.mp e⟩, fun e => h0 c' (fun q => e (q2.mpr q.2))⟩⟩
  · have c' : g ≠ 1 := by have := mt hg1'.mpr c; omega
    exact ⟨fun d => hZ c' (fun q => by have := hng.mp d; omega), fun d => ⟨nI_ne0 (by omega) (by omega), fun e => hP c' ⟨by have := mt hng.mpr d; omega, qg.mp e⟩, fun e => hZ c' (fun q => e (qg.mpr q.2))⟩⟩
theorem s_among9N {g : Nat → Int32} {p1 p2 p3 : Int32} (hq : p1.toInt < 0 ∨ 2000000 < p1.toInt ∨ p2.toInt < 1 ∨ 60 < p2.toInt ∨ p3.toInt < 0 ∨ p2.toInt ≤ p3.toInt) {Q : Int32 → Prop} (h : Q (-1)) : wp_X9_among g p1 p2 p3 Q := by
  unfold wp_X9_among
  refine s_in (fun a b => ⟨fun c => absurd c (by decide), fun _ => ?_⟩) (fun _ => ⟨fun _ => h, fun c => absurd rfl c⟩)
  refine s_in (fun a2 b2 => ⟨fun c => absurd c (by decide), fun _ => ?_⟩) (fun _ => ⟨fun _ => h, fun c => absurd rfl c⟩)
  refine s_in (fun a3 b3 => ?_) (fun _ => ⟨fun _ => h, fun c => absurd rfl c⟩)
  exfalso
  rw [i2l_t] at a b a2 b2 a3 b3
  have a' : (0 : Int) ≤ p1.toInt := a
  have b' : p1.toInt ≤ (2000000 : Int) := b
  have a2' : (1 : Int) ≤ p2.toInt := a2
  have b2' : p2.toInt ≤ (60 : Int) := b2
  have a3' : (0 : Int) ≤ p3.toInt := a3
  obtain ⟨m, y1, y2, y3⟩ := i_nat (a := p2) (by omega)
  rw [y2, i2l_t, sub1_t (by omega)] at b3
  omega
/-- no prime but the common divisor itself -/
theorem am_g {n m r : Nat} (hm1 : 1 ≤ m) (hg : Nat.gcd m r ≠ 1) : am_ n m r = b01 ((Nat.gcd m r ≤ n ∧ Nat.gcd m r % m = r) ∧ isP (Nat.gcd m r)) := by
  have hone : ∀ k, isP k → k % m = r → k = Nat.gcd m r := by
    intro k hk e
    have h1 : Nat.gcd m r ∣ k := by
      have h2 := Nat.div_add_mod k m
      rw [e] at h2
      rw [← h2]
      exact Nat.dvd_add (Nat.dvd_trans (Nat.gcd_dvd_left m r) ⟨k / m, rfl⟩) (Nat.gcd_dvd_right m r)
    rcases hk.2 _ h1 with q | q
    · exact absurd q hg
    · exact q.symm
  unfold am_
  generalize hgg : Nat.gcd m r = g at *
  have key : ∀ v, su_ (fun k => isP k ∧ k % m = r) (fun _ => 1) v = b01 ((g ≤ v ∧ g % m = r) ∧ isP g) := by
    intro v
    induction v with
    | zero =>
      rw [b01_0]
      · rfl
      · rintro ⟨⟨a, _⟩, b⟩
        have := b.1
        omega
    | succ v ih =>
      by_cases q : isP (v + 1) ∧ (v + 1) % m = r
      · have e := hone (v + 1) q.1 q.2
        rw [su_1 (P := fun k => isP k ∧ k % m = r) q, ih, b01_0 (fun y => by have := y.1.1; omega), b01_1]
        rw [← e]
        exact ⟨⟨Nat.le_refl _, q.2⟩, q.1⟩
      · rw [su_0 (P := fun k => isP k ∧ k % m = r) q, ih]
        apply b01_iff
        constructor
        · rintro ⟨⟨a, b⟩, c⟩
          exact ⟨⟨by omega, b⟩, c⟩
        · rintro ⟨⟨a, b⟩, c⟩
          refine ⟨⟨?_, b⟩, c⟩
          rcases Nat.lt_or_ge v g with y | y
          · exfalso
            have e : g = v + 1 := by omega
            rw [e] at b c
            exact q ⟨c, b⟩
          · exact y
  exact key n
theorem am_1 {n m r : Nat} : am_ n m r = b01 (2 ≤ n ∧ 2 % m = r) + od_ n m r := split2 (C := fun k => k % m = r) n
theorem t_among : st_among Inv_ := by
  rintro ⟨oP, oS, oT, oU, oG, oR⟩ ⟨m0, m1, m2, m3, m4, m5, m6, m7, m8, m9, m10, m11, m12, m13, m14, m15, m16, m17, m18⟩ p1 p2 p3 hI
  obtain ⟨iP, iT, iN, iS, iQ, iR⟩ := id hI
  have hInv : ∀ (oP' : Option CP_) (oU' : Option CU_) (oG' : Option CG_), tabO_ oP' → Inv_ (oP', oS, oT, oU', oG', oR) (m0, m1, m2, m3, m4, m5, m6, m7, m8, m9, m10, m11, m12, m13, m14, m15, m16, m17, m18) := fun oP' oU' oG' hP' => ⟨hP', iT, iN, iS, iQ, iR⟩
  by_cases hq : p1.toInt < 0 ∨ 2000000 < p1.toInt ∨ p2.toInt < 1 ∨ 60 < p2.toInt ∨ p3.toInt < 0 ∨ p2.toInt ≤ p3.toInt
  · refine ⟨0, 0, by omega, by omega, ?_⟩
    unfold wpx_among
    rcases oP with _ | ⟨tb, tm⟩ <;> rcases oU with _ | ⟨lo, hi⟩ <;> rcases oG with _ | wd <;> dsimp only
    · exact amN hq ⟨le00, le00, s_among9N hq ⟨rfl, hI⟩⟩
    · exact amN hq ⟨le00, le00, s_among9N hq ⟨rfl, hI⟩⟩
    · exact amN hq ⟨le00, le00, s_among9N hq ⟨rfl, hI⟩⟩
    · exact amN hq ⟨le00, le00, s_among9N hq ⟨rfl, hI⟩⟩
    · exact amN hq ⟨le00, le00, s_among9N hq ⟨rfl, hI⟩⟩
    · exact amN hq ⟨le00, le00, s_among9N hq ⟨rfl, hI⟩⟩
    · exact amN hq ⟨le00, le00, s_among9N hq ⟨rfl, hI⟩⟩
    · exact ⟨rfl, rfl, amN hq ⟨le00, le00, s_among9N hq ⟨rfl, hI⟩⟩⟩
  · obtain ⟨n, n1, rfl, n2⟩ := i_nat (a := p1) (by omega)
    obtain ⟨m, y1, rfl, y2⟩ := i_nat (a := p2) (by omega)
    obtain ⟨r, z1, rfl, z2⟩ := i_nat (a := p3) (by omega)
    have hn : n ≤ 2000000 := by omega
    have hm1 : 1 ≤ m := by omega
    have hm : m ≤ 60 := by omega
    have hr : r < m := by omega
    have hg1 : 1 ≤ Nat.gcd m r := Nat.gcd_pos_of_pos_left r hm1
    have hg60 : Nat.gcd m r ≤ 60 := Nat.le_trans (Nat.gcd_le_left r hm1) hm
    have R0 : Nat.gcd m r = 1 → ¬ (2 ≤ n ∧ 2 % m = r) → ∀ I : Prop, I → wp_X9_among m2 (nI n) (nI m) (nI r) (fun r2 => (0 : Int32) + nI (od_ n m r) = r2 ∧ I) := fun _ a I hI' => s_among9 iN hn hm1 hm hr ⟨by rw [am_1, b01_0 a, Nat.zero_add]; exact Int32.zero_add _, hI'⟩
    have R1 : Nat.gcd m r = 1 → (2 ≤ n ∧ 2 % m = r) → ∀ I : Prop, I → wp_X9_among m2 (nI n) (nI m) (nI r) (fun r2 => (1 : Int32) + nI (od_ n m r) = r2 ∧ I) := fun _ a I hI' => s_among9 iN hn hm1 hm hr ⟨by rw [am_1, b01_1 a]; exact nI_add 1 _, hI'⟩
    have RZ : Nat.gcd m r ≠ 1 → ¬ ((Nat.gcd m r ≤ n ∧ Nat.gcd m r % m = r) ∧ isP (Nat.gcd m r)) → ∀ I : Prop, I → wp_X9_among m2 (nI n) (nI m) (nI r) (fun r2 => (0 : Int32) = r2 ∧ I) := fun g a I hI' => s_among9 iN hn hm1 hm hr ⟨by rw [am_g hm1 g, b01_0 a]; rfl, hI'⟩
    have RP : Nat.gcd m r ≠ 1 → ((Nat.gcd m r ≤ n ∧ Nat.gcd m r % m = r) ∧ isP (Nat.gcd m r)) → ∀ I : Prop, I → wp_X9_among m2 (nI n) (nI m) (nI r) (fun r2 => (1 : Int32) = r2 ∧ I) := fun g a I hI' => s_among9 iN hn hm1 hm hr ⟨by rw [am_g hm1 g, b01_1 a]; rfl, hI'⟩
    rcases oP with _ | ⟨tb, tm⟩ <;> rcases oU with _ | ⟨lo, hi⟩ <;> rcases oG with _ | wd
    · -- c000
      by_cases hG : Nat.gcd m r = 1
      · by_cases h2 : m = 1 ∨ m = 2
        · refine ⟨3, 2832, by omega, by omega, ?_⟩
          unfold wpx_among
          dsimp only
          unfold wp_X8_among_c000
          refine amV hn hm1 hm hr (s_gcd hm (by omega) ?_)
          refine amB hn hm1 hm hr hg1 hg60 (fun hgg a => ?_) (fun hgg a => ?_) (fun hgg a => ?_) (fun hgg a => ?_)
          · exact s_opl_c000 hn hm1 hm hr hgg (fun h12 => ⟨by omega, by omega, fun lo2 hi2 => ⟨fun _ => ⟨fun e => (nomatch e), fun v0 v1 e => by cases e; exact ⟨fun _ => ⟨(by unfold cc_; dsimp only; omega), (by unfold cs_; dsimp only; omega), R0 hgg a _ (hInv (none) (some (lo2, hi2)) (none) trivial)⟩, fun _ e => (nomatch e)⟩⟩, fun _ _ e => (nomatch e)⟩⟩) (fun h3 => absurd h3 (by omega))
          · exact s_opl_c000 hn hm1 hm hr hgg (fun h12 => ⟨by omega, by omega, fun lo2 hi2 => ⟨fun _ => ⟨fun e => (nomatch e), fun v0 v1 e => by cases e; exact ⟨fun _ => ⟨(by unfold cc_; dsimp only; omega), (by unfold cs_; dsimp only; omega), R1 hgg a _ (hInv (none) (some (lo2, hi2)) (none) trivial)⟩, fun _ e => (nomatch e)⟩⟩, fun _ _ e => (nomatch e)⟩⟩) (fun h3 => absurd h3 (by omega))
          · exact absurd hG hgg
          · exact absurd hG hgg
        · refine ⟨7, 18973, by omega, by omega, ?_⟩
          unfold wpx_among
          dsimp only
          unfold wp_X8_among_c000
          refine amV hn hm1 hm hr (s_gcd hm (by omega) ?_)
          refine amB hn hm1 hm hr hg1 hg60 (fun hgg a => ?_) (fun hgg a => ?_) (fun hgg a => ?_) (fun hgg a => ?_)
          · exact s_opl_c000 hn hm1 hm hr hgg (fun h12 => absurd h12 (by omega)) (fun h3 => ⟨by omega, by omega, fun f t wd2 hf => ⟨fun e => (nomatch e), fun v0 v1 e => by cases e; exact ⟨fun _ => ⟨fun e => (nomatch e), fun v0 e => by cases e; exact ⟨(by unfold cc_; dsimp only; omega), (by unfold cs_; dsimp only; omega), R0 hgg a _ (hInv (some (f, t)) (none) (some wd2) hf)⟩⟩, fun _ _ e => (nomatch e)⟩⟩⟩)
          · exact s_opl_c000 hn hm1 hm hr hgg (fun h12 => absurd h12 (by omega)) (fun h3 => ⟨by omega, by omega, fun f t wd2 hf => ⟨fun e => (nomatch e), fun v0 v1 e => by cases e; exact ⟨fun _ => ⟨fun e => (nomatch e), fun v0 e => by cases e; exact ⟨(by unfold cc_; dsimp only; omega), (by unfold cs_; dsimp only; omega), R1 hgg a _ (hInv (some (f, t)) (none) (some wd2) hf)⟩⟩, fun _ _ e => (nomatch e)⟩⟩⟩)
          · exact absurd hG hgg
          · exact absurd hG hgg
      · by_cases h2 : Nat.gcd m r ≤ n ∧ Nat.gcd m r % m = r
        · refine ⟨4, 11158, by omega, by omega, ?_⟩
          unfold wpx_among
          dsimp only
          unfold wp_X8_among_c000
          refine amV hn hm1 hm hr (s_gcd hm (by omega) ?_)
          refine amB hn hm1 hm hr hg1 hg60 (fun hgg a => ?_) (fun hgg a => ?_) (fun hgg a => ?_) (fun hgg a => ?_)
          · exact absurd hgg hG
          · exact absurd hgg hG
          · exact absurd h2 a
          · exact ⟨by omega, by omega, by unfold wp_X8_knownPrimes_c0; exact s_init3 (fun f t hf => by rw [nI_l (by omega)]; exact s_isP5 hf (by omega) (fun q => ⟨fun c => absurd c (by decide), fun _ => ⟨(by unfold cc_; dsimp only; omega), (by unfold cs_; dsimp only; omega), RP hgg ⟨a, q⟩ _ (hInv (some (f, t)) (none) (none) hf)⟩⟩) (fun q => ⟨fun _ => ⟨(by unfold cc_; dsimp only; omega), (by unfold cs_; dsimp only; omega), RZ hgg (fun y => q y.2) _ (hInv (some (f, t)) (none) (none) hf)⟩, fun c => absurd rfl c⟩))⟩
        · refine ⟨0, 0, by omega, by omega, ?_⟩
          unfold wpx_among
          dsimp only
          unfold wp_X8_among_c000
          refine amV hn hm1 hm hr (s_gcd hm (by omega) ?_)
          refine amB hn hm1 hm hr hg1 hg60 (fun hgg a => ?_) (fun hgg a => ?_) (fun hgg a => ?_) (fun hgg a => ?_)
          · exact absurd hgg hG
          · exact absurd hgg hG
          · exact ⟨(by unfold cc_; dsimp only; omega), (by unfold cs_; dsimp only; omega), RZ hgg (fun y => a y.1) _ (hInv (none) (none) (none) trivial)⟩
          · exact absurd a h2
    · -- c001
      by_cases hG : Nat.gcd m r = 1
      · by_cases h2 : m = 1 ∨ m = 2
        · refine ⟨3, 2832, by omega, by omega, ?_⟩
          unfold wpx_among
          dsimp only
          unfold wp_X8_among_c001
          refine amV hn hm1 hm hr (s_gcd hm (by omega) ?_)
          refine amB hn hm1 hm hr hg1 hg60 (fun hgg a => ?_) (fun hgg a => ?_) (fun hgg a => ?_) (fun hgg a => ?_)
          · exact s_opl_c001 hn hm1 hm hr hgg (fun h12 => ⟨by omega, by omega, fun lo2 hi2 => ⟨fun _ => ⟨fun e => (nomatch e), fun v0 v1 e => by cases e; exact ⟨(by unfold cc_; dsimp only; omega), (by unfold cs_; dsimp only; omega), R0 hgg a _ (hInv (none) (some (lo2, hi2)) (some wd) trivial)⟩⟩, fun _ _ e => (nomatch e)⟩⟩) (fun h3 => absurd h3 (by omega))
          · exact s_opl_c001 hn hm1 hm hr hgg (fun h12 => ⟨by omega, by omega, fun lo2 hi2 => ⟨fun _ => ⟨fun e => (nomatch e), fun v0 v1 e => by cases e; exact ⟨(by unfold cc_; dsimp only; omega), (by unfold cs_; dsimp only; omega), R1 hgg a _ (hInv (none) (some (lo2, hi2)) (some wd) trivial)⟩⟩, fun _ _ e => (nomatch e)⟩⟩) (fun h3 => absurd h3 (by omega))
          · exact absurd hG hgg
          · exact absurd hG hgg
        · refine ⟨4, 11158, by omega, by omega, ?_⟩
          unfold wpx_among
          dsimp only
          unfold wp_X8_among_c001
          refine amV hn hm1 hm hr (s_gcd hm (by omega) ?_)
          refine amB hn hm1 hm hr hg1 hg60 (fun hgg a => ?_) (fun hgg a => ?_) (fun hgg a => ?_) (fun hgg a => ?_)
          · exact s_opl_c001 hn hm1 hm hr hgg (fun h12 => absurd h12 (by omega)) (fun h3 => ⟨by omega, by omega, fun f t wd2 hf => ⟨fun e => (nomatch e), fun v0 v1 e => by cases e; exact ⟨fun _ => ⟨(by unfold cc_; dsimp only; omega), (by unfold cs_; dsimp only; omega), R0 hgg a _ (hInv (some (f, t)) (none) (some wd2) hf)⟩, fun _ _ e => (nomatch e)⟩⟩⟩)
          · exact s_opl_c001 hn hm1 hm hr hgg (fun h12 => absurd h12 (by omega)) (fun h3 => ⟨by omega, by omega, fun f t wd2 hf => ⟨fun e => (nomatch e), fun v0 v1 e => by cases e; exact ⟨fun _ => ⟨(by unfold cc_; dsimp only; omega), (by unfold cs_; dsimp only; omega), R1 hgg a _ (hInv (some (f, t)) (none) (some wd2) hf)⟩, fun _ _ e => (nomatch e)⟩⟩⟩)
          · exact absurd hG hgg
          · exact absurd hG hgg
      · by_cases h2 : Nat.gcd m r ≤ n ∧ Nat.gcd m r % m = r
        · refine ⟨4, 11158, by omega, by omega, ?_⟩
          unfold wpx_among
          dsimp only
          unfold wp_X8_among_c001
          refine amV hn hm1 hm hr (s_gcd hm (by omega) ?_)
          refine amB hn hm1 hm hr hg1 hg60 (fun hgg a => ?_) (fun hgg a => ?_) (fun hgg a => ?_) (fun hgg a => ?_)
          · exact absurd hgg hG
          · exact absurd hgg hG
          · exact absurd h2 a
          · exact ⟨by omega, by omega, by unfold wp_X8_knownPrimes_c0; exact s_init3 (fun f t hf => by rw [nI_l (by omega)]; exact s_isP5 hf (by omega) (fun q => ⟨fun c => absurd c (by decide), fun _ => ⟨(by unfold cc_; dsimp only; omega), (by unfold cs_; dsimp only; omega), RP hgg ⟨a, q⟩ _ (hInv (some (f, t)) (none) (some wd) hf)⟩⟩) (fun q => ⟨fun _ => ⟨(by unfold cc_; dsimp only; omega), (by unfold cs_; dsimp only; omega), RZ hgg (fun y => q y.2) _ (hInv (some (f, t)) (none) (some wd) hf)⟩, fun c => absurd rfl c⟩))⟩
        · refine ⟨0, 0, by omega, by omega, ?_⟩
          unfold wpx_among
          dsimp only
          unfold wp_X8_among_c001
          refine amV hn hm1 hm hr (s_gcd hm (by omega) ?_)
          refine amB hn hm1 hm hr hg1 hg60 (fun hgg a => ?_) (fun hgg a => ?_) (fun hgg a => ?_) (fun hgg a => ?_)
          · exact absurd hgg hG
          · exact absurd hgg hG
          · exact ⟨(by unfold cc_; dsimp only; omega), (by unfold cs_; dsimp only; omega), RZ hgg (fun y => a y.1) _ (hInv (none) (none) (some wd) trivial)⟩
          · exact absurd a h2
    · -- c010
      by_cases hG : Nat.gcd m r = 1
      · by_cases h2 : m = 1 ∨ m = 2
        · refine ⟨0, 0, by omega, by omega, ?_⟩
          unfold wpx_among
          dsimp only
          unfold wp_X8_among_c010
          refine amV hn hm1 hm hr (s_gcd hm (by omega) ?_)
          refine amB hn hm1 hm hr hg1 hg60 (fun hgg a => ?_) (fun hgg a => ?_) (fun hgg a => ?_) (fun hgg a => ?_)
          · exact s_opl_c010 hn hm1 hm hr hgg (fun h12 => fun lo2 hi2 => ⟨fun _ => ⟨fun _ => ⟨(by unfold cc_; dsimp only; omega), (by unfold cs_; dsimp only; omega), R0 hgg a _ (hInv (none) (some (lo2, hi2)) (none) trivial)⟩, fun _ e => (nomatch e)⟩, fun _ _ e => (nomatch e)⟩) (fun h3 => absurd h3 (by omega))
          · exact s_opl_c010 hn hm1 hm hr hgg (fun h12 => fun lo2 hi2 => ⟨fun _ => ⟨fun _ => ⟨(by unfold cc_; dsimp only; omega), (by unfold cs_; dsimp only; omega), R1 hgg a _ (hInv (none) (some (lo2, hi2)) (none) trivial)⟩, fun _ e => (nomatch e)⟩, fun _ _ e => (nomatch e)⟩) (fun h3 => absurd h3 (by omega))
          · exact absurd hG hgg
          · exact absurd hG hgg
        · refine ⟨7, 18973, by omega, by omega, ?_⟩
          unfold wpx_among
          dsimp only
          unfold wp_X8_among_c010
          refine amV hn hm1 hm hr (s_gcd hm (by omega) ?_)
          refine amB hn hm1 hm hr hg1 hg60 (fun hgg a => ?_) (fun hgg a => ?_) (fun hgg a => ?_) (fun hgg a => ?_)
          · exact s_opl_c010 hn hm1 hm hr hgg (fun h12 => absurd h12 (by omega)) (fun h3 => ⟨by omega, by omega, fun f t wd2 hf => ⟨fun e => (nomatch e), fun v0 v1 e => by cases e; exact ⟨fun e => (nomatch e), fun v0 e => by cases e; exact ⟨(by unfold cc_; dsimp only; omega), (by unfold cs_; dsimp only; omega), R0 hgg a _ (hInv (some (f, t)) (some (lo, hi)) (some wd2) hf)⟩⟩⟩⟩)
          · exact s_opl_c010 hn hm1 hm hr hgg (fun h12 => absurd h12 (by omega)) (fun h3 => ⟨by omega, by omega, fun f t wd2 hf => ⟨fun e => (nomatch e), fun v0 v1 e => by cases e; exact ⟨fun e => (nomatch e), fun v0 e => by cases e; exact ⟨(by unfold cc_; dsimp only; omega), (by unfold cs_; dsimp only; omega), R1 hgg a _ (hInv (some (f, t)) (some (lo, hi)) (some wd2) hf)⟩⟩⟩⟩)
          · exact absurd hG hgg
          · exact absurd hG hgg
      · by_cases h2 : Nat.gcd m r ≤ n ∧ Nat.gcd m r % m = r
        · refine ⟨4, 11158, by omega, by omega, ?_⟩
          unfold wpx_among
          dsimp only
          unfold wp_X8_among_c010
          refine amV hn hm1 hm hr (s_gcd hm (by omega) ?_)
          refine amB hn hm1 hm hr hg1 hg60 (fun hgg a => ?_) (fun hgg a => ?_) (fun hgg a => ?_) (fun hgg a => ?_)
          · exact absurd hgg hG
          · exact absurd hgg hG
          · exact absurd h2 a
          · exact ⟨by omega, by omega, by unfold wp_X8_knownPrimes_c0; exact s_init3 (fun f t hf => by rw [nI_l (by omega)]; exact s_isP5 hf (by omega) (fun q => ⟨fun c => absurd c (by decide), fun _ => ⟨(by unfold cc_; dsimp only; omega), (by unfold cs_; dsimp only; omega), RP hgg ⟨a, q⟩ _ (hInv (some (f, t)) (some (lo, hi)) (none) hf)⟩⟩) (fun q => ⟨fun _ => ⟨(by unfold cc_; dsimp only; omega), (by unfold cs_; dsimp only; omega), RZ hgg (fun y => q y.2) _ (hInv (some (f, t)) (some (lo, hi)) (none) hf)⟩, fun c => absurd rfl c⟩))⟩
        · refine ⟨0, 0, by omega, by omega, ?_⟩
          unfold wpx_among
          dsimp only
          unfold wp_X8_among_c010
          refine amV hn hm1 hm hr (s_gcd hm (by omega) ?_)
          refine amB hn hm1 hm hr hg1 hg60 (fun hgg a => ?_) (fun hgg a => ?_) (fun hgg a => ?_) (fun hgg a => ?_)
          · exact absurd hgg hG
          · exact absurd hgg hG
          · exact ⟨(by unfold cc_; dsimp only; omega), (by unfold cs_; dsimp only; omega), RZ hgg (fun y => a y.1) _ (hInv (none) (some (lo, hi)) (none) trivial)⟩
          · exact absurd a h2
    · -- c011
      by_cases hG : Nat.gcd m r = 1
      · by_cases h2 : m = 1 ∨ m = 2
        · refine ⟨0, 0, by omega, by omega, ?_⟩
          unfold wpx_among
          dsimp only
          unfold wp_X8_among_c011
          refine amV hn hm1 hm hr (s_gcd hm (by omega) ?_)
          refine amB hn hm1 hm hr hg1 hg60 (fun hgg a => ?_) (fun hgg a => ?_) (fun hgg a => ?_) (fun hgg a => ?_)
          · exact s_opl_c011 hn hm1 hm hr hgg (fun h12 => fun lo2 hi2 => ⟨fun _ => ⟨(by unfold cc_; dsimp only; omega), (by unfold cs_; dsimp only; omega), R0 hgg a _ (hInv (none) (some (lo2, hi2)) (some wd) trivial)⟩, fun _ _ e => (nomatch e)⟩) (fun h3 => absurd h3 (by omega))
          · exact s_opl_c011 hn hm1 hm hr hgg (fun h12 => fun lo2 hi2 => ⟨fun _ => ⟨(by unfold cc_; dsimp only; omega), (by unfold cs_; dsimp only; omega), R1 hgg a _ (hInv (none) (some (lo2, hi2)) (some wd) trivial)⟩, fun _ _ e => (nomatch e)⟩) (fun h3 => absurd h3 (by omega))
          · exact absurd hG hgg
          · exact absurd hG hgg
        · refine ⟨4, 11158, by omega, by omega, ?_⟩
          unfold wpx_among
          dsimp only
          unfold wp_X8_among_c011
          refine amV hn hm1 hm hr (s_gcd hm (by omega) ?_)
          refine amB hn hm1 hm hr hg1 hg60 (fun hgg a => ?_) (fun hgg a => ?_) (fun hgg a => ?_) (fun hgg a => ?_)
          · exact s_opl_c011 hn hm1 hm hr hgg (fun h12 => absurd h12 (by omega)) (fun h3 => ⟨by omega, by omega, fun f t wd2 hf => ⟨fun e => (nomatch e), fun v0 v1 e => by cases e; exact ⟨(by unfold cc_; dsimp only; omega), (by unfold cs_; dsimp only; omega), R0 hgg a _ (hInv (some (f, t)) (some (lo, hi)) (some wd2) hf)⟩⟩⟩)
          · exact s_opl_c011 hn hm1 hm hr hgg (fun h12 => absurd h12 (by omega)) (fun h3 => ⟨by omega, by omega, fun f t wd2 hf => ⟨fun e => (nomatch e), fun v0 v1 e => by cases e; exact ⟨(by unfold cc_; dsimp only; omega), (by unfold cs_; dsimp only; omega), R1 hgg a _ (hInv (some (f, t)) (some (lo, hi)) (some wd2) hf)⟩⟩⟩)
          · exact absurd hG hgg
          · exact absurd hG hgg
      · by_cases h2 : Nat.gcd m r ≤ n ∧ Nat.gcd m r % m = r
        · refine ⟨4, 11158, by omega, by omega, ?_⟩
          unfold wpx_among
          dsimp only
          unfold wp_X8_among_c011
          refine amV hn hm1 hm hr (s_gcd hm (by omega) ?_)
          refine amB hn hm1 hm hr hg1 hg60 (fun hgg a => ?_) (fun hgg a => ?_) (fun hgg a => ?_) (fun hgg a => ?_)
          · exact absurd hgg hG
          · exact absurd hgg hG
          · exact absurd h2 a
          · exact ⟨by omega, by omega, by unfold wp_X8_knownPrimes_c0; exact s_init3 (fun f t hf => by rw [nI_l (by omega)]; exact s_isP5 hf (by omega) (fun q => ⟨fun c => absurd c (by decide), fun _ => ⟨(by unfold cc_; dsimp only; omega), (by unfold cs_; dsimp only; omega), RP hgg ⟨a, q⟩ _ (hInv (some (f, t)) (some (lo, hi)) (some wd) hf)⟩⟩) (fun q => ⟨fun _ => ⟨(by unfold cc_; dsimp only; omega), (by unfold cs_; dsimp only; omega), RZ hgg (fun y => q y.2) _ (hInv (some (f, t)) (some (lo, hi)) (some wd) hf)⟩, fun c => absurd rfl c⟩))⟩
        · refine ⟨0, 0, by omega, by omega, ?_⟩
          unfold wpx_among
          dsimp only
          unfold wp_X8_among_c011
          refine amV hn hm1 hm hr (s_gcd hm (by omega) ?_)
          refine amB hn hm1 hm hr hg1 hg60 (fun hgg a => ?_) (fun hgg a => ?_) (fun hgg a => ?_) (fun hgg a => ?_)
          · exact absurd hgg hG
          · exact absurd hgg hG
          · exact ⟨(by unfold cc_; dsimp only; omega), (by unfold cs_; dsimp only; omega), RZ hgg (fun y => a y.1) _ (hInv (none) (some (lo, hi)) (some wd) trivial)⟩
          · exact absurd a h2
    · -- c100
      by_cases hG : Nat.gcd m r = 1
      · by_cases h2 : m = 1 ∨ m = 2
        · refine ⟨3, 2832, by omega, by omega, ?_⟩
          unfold wpx_among
          dsimp only
          unfold wp_X8_among_c100
          refine amV hn hm1 hm hr (s_gcd hm (by omega) ?_)
          refine amB hn hm1 hm hr hg1 hg60 (fun hgg a => ?_) (fun hgg a => ?_) (fun hgg a => ?_) (fun hgg a => ?_)
          · exact s_opl_c100 iP hn hm1 hm hr hgg (fun h12 => ⟨by omega, by omega, fun lo2 hi2 => ⟨fun e => (nomatch e), fun v0 v1 e => by cases e; exact ⟨fun _ => ⟨(by unfold cc_; dsimp only; omega), (by unfold cs_; dsimp only; omega), R0 hgg a _ (hInv (some (tb, tm)) (some (lo2, hi2)) (none) iP)⟩, fun _ e => (nomatch e)⟩⟩⟩) (fun h3 => absurd h3 (by omega))
          · exact s_opl_c100 iP hn hm1 hm hr hgg (fun h12 => ⟨by omega, by omega, fun lo2 hi2 => ⟨fun e => (nomatch e), fun v0 v1 e => by cases e; exact ⟨fun _ => ⟨(by unfold cc_; dsimp only; omega), (by unfold cs_; dsimp only; omega), R1 hgg a _ (hInv (some (tb, tm)) (some (lo2, hi2)) (none) iP)⟩, fun _ e => (nomatch e)⟩⟩⟩) (fun h3 => absurd h3 (by omega))
          · exact absurd hG hgg
          · exact absurd hG hgg
        · refine ⟨3, 7815, by omega, by omega, ?_⟩
          unfold wpx_among
          dsimp only
          unfold wp_X8_among_c100
          refine amV hn hm1 hm hr (s_gcd hm (by omega) ?_)
          refine amB hn hm1 hm hr hg1 hg60 (fun hgg a => ?_) (fun hgg a => ?_) (fun hgg a => ?_) (fun hgg a => ?_)
          · exact s_opl_c100 iP hn hm1 hm hr hgg (fun h12 => absurd h12 (by omega)) (fun h3 => ⟨by omega, by omega, fun wd2 => ⟨fun _ => ⟨fun e => (nomatch e), fun v0 e => by cases e; exact ⟨(by unfold cc_; dsimp only; omega), (by unfold cs_; dsimp only; omega), R0 hgg a _ (hInv (some (tb, tm)) (none) (some wd2) iP)⟩⟩, fun _ _ e => (nomatch e)⟩⟩)
          · exact s_opl_c100 iP hn hm1 hm hr hgg (fun h12 => absurd h12 (by omega)) (fun h3 => ⟨by omega, by omega, fun wd2 => ⟨fun _ => ⟨fun e => (nomatch e), fun v0 e => by cases e; exact ⟨(by unfold cc_; dsimp only; omega), (by unfold cs_; dsimp only; omega), R1 hgg a _ (hInv (some (tb, tm)) (none) (some wd2) iP)⟩⟩, fun _ _ e => (nomatch e)⟩⟩)
          · exact absurd hG hgg
          · exact absurd hG hgg
      · by_cases h2 : Nat.gcd m r ≤ n ∧ Nat.gcd m r % m = r
        · refine ⟨0, 0, by omega, by omega, ?_⟩
          unfold wpx_among
          dsimp only
          unfold wp_X8_among_c100
          refine amV hn hm1 hm hr (s_gcd hm (by omega) ?_)
          refine amB hn hm1 hm hr hg1 hg60 (fun hgg a => ?_) (fun hgg a => ?_) (fun hgg a => ?_) (fun hgg a => ?_)
          · exact absurd hgg hG
          · exact absurd hgg hG
          · exact absurd h2 a
          · exact (by unfold wp_X8_knownPrimes_c1; rw [nI_l (by omega)]; exact s_isP5 iP (by omega) (fun q => ⟨fun c => absurd c (by decide), fun _ => ⟨(by unfold cc_; dsimp only; omega), (by unfold cs_; dsimp only; omega), RP hgg ⟨a, q⟩ _ (hInv (some (tb, tm)) (none) (none) iP)⟩⟩) (fun q => ⟨fun _ => ⟨(by unfold cc_; dsimp only; omega), (by unfold cs_; dsimp only; omega), RZ hgg (fun y => q y.2) _ (hInv (some (tb, tm)) (none) (none) iP)⟩, fun c => absurd rfl c⟩))
        · refine ⟨0, 0, by omega, by omega, ?_⟩
          unfold wpx_among
          dsimp only
          unfold wp_X8_among_c100
          refine amV hn hm1 hm hr (s_gcd hm (by omega) ?_)
          refine amB hn hm1 hm hr hg1 hg60 (fun hgg a => ?_) (fun hgg a => ?_) (fun hgg a => ?_) (fun hgg a => ?_)
          · exact absurd hgg hG
          · exact absurd hgg hG
          · exact ⟨(by unfold cc_; dsimp only; omega), (by unfold cs_; dsimp only; omega), RZ hgg (fun y => a y.1) _ (hInv (some (tb, tm)) (none) (none) iP)⟩
          · exact absurd a h2
    · -- c101
      by_cases hG : Nat.gcd m r = 1
      · by_cases h2 : m = 1 ∨ m = 2
        · refine ⟨3, 2832, by omega, by omega, ?_⟩
          unfold wpx_among
          dsimp only
          unfold wp_X8_among_c101
          refine amV hn hm1 hm hr (s_gcd hm (by omega) ?_)
          refine amB hn hm1 hm hr hg1 hg60 (fun hgg a => ?_) (fun hgg a => ?_) (fun hgg a => ?_) (fun hgg a => ?_)
          · exact s_opl_c101 iP hn hm1 hm hr hgg (fun h12 => ⟨by omega, by omega, fun lo2 hi2 => ⟨fun e => (nomatch e), fun v0 v1 e => by cases e; exact ⟨(by unfold cc_; dsimp only; omega), (by unfold cs_; dsimp only; omega), R0 hgg a _ (hInv (some (tb, tm)) (some (lo2, hi2)) (some wd) iP)⟩⟩⟩) (fun h3 => absurd h3 (by omega))
          · exact s_opl_c101 iP hn hm1 hm hr hgg (fun h12 => ⟨by omega, by omega, fun lo2 hi2 => ⟨fun e => (nomatch e), fun v0 v1 e => by cases e; exact ⟨(by unfold cc_; dsimp only; omega), (by unfold cs_; dsimp only; omega), R1 hgg a _ (hInv (some (tb, tm)) (some (lo2, hi2)) (some wd) iP)⟩⟩⟩) (fun h3 => absurd h3 (by omega))
          · exact absurd hG hgg
          · exact absurd hG hgg
        · refine ⟨0, 0, by omega, by omega, ?_⟩
          unfold wpx_among
          dsimp only
          unfold wp_X8_among_c101
          refine amV hn hm1 hm hr (s_gcd hm (by omega) ?_)
          refine amB hn hm1 hm hr hg1 hg60 (fun hgg a => ?_) (fun hgg a => ?_) (fun hgg a => ?_) (fun hgg a => ?_)
          · exact s_opl_c101 iP hn hm1 hm hr hgg (fun h12 => absurd h12 (by omega)) (fun h3 => fun wd2 => ⟨fun _ => ⟨(by unfold cc_; dsimp only; omega), (by unfold cs_; dsimp only; omega), R0 hgg a _ (hInv (some (tb, tm)) (none) (some wd2) iP)⟩, fun _ _ e => (nomatch e)⟩)
          · exact s_opl_c101 iP hn hm1 hm hr hgg (fun h12 => absurd h12 (by omega)) (fun h3 => fun wd2 => ⟨fun _ => ⟨(by unfold cc_; dsimp only; omega), (by unfold cs_; dsimp only; omega), R1 hgg a _ (hInv (some (tb, tm)) (none) (some wd2) iP)⟩, fun _ _ e => (nomatch e)⟩)
          · exact absurd hG hgg
          · exact absurd hG hgg
      · by_cases h2 : Nat.gcd m r ≤ n ∧ Nat.gcd m r % m = r
        · refine ⟨0, 0, by omega, by omega, ?_⟩
          unfold wpx_among
          dsimp only
          unfold wp_X8_among_c101
          refine amV hn hm1 hm hr (s_gcd hm (by omega) ?_)
          refine amB hn hm1 hm hr hg1 hg60 (fun hgg a => ?_) (fun hgg a => ?_) (fun hgg a => ?_) (fun hgg a => ?_)
          · exact absurd hgg hG
          · exact absurd hgg hG
          · exact absurd h2 a
          · exact (by unfold wp_X8_knownPrimes_c1; rw [nI_l (by omega)]; exact s_isP5 iP (by omega) (fun q => ⟨fun c => absurd c (by decide), fun _ => ⟨(by unfold cc_; dsimp only; omega), (by unfold cs_; dsimp only; omega), RP hgg ⟨a, q⟩ _ (hInv (some (tb, tm)) (none) (some wd) iP)⟩⟩) (fun q => ⟨fun _ => ⟨(by unfold cc_; dsimp only; omega), (by unfold cs_; dsimp only; omega), RZ hgg (fun y => q y.2) _ (hInv (some (tb, tm)) (none) (some wd) iP)⟩, fun c => absurd rfl c⟩))
        · refine ⟨0, 0, by omega, by omega, ?_⟩
          unfold wpx_among
          dsimp only
          unfold wp_X8_among_c101
          refine amV hn hm1 hm hr (s_gcd hm (by omega) ?_)
          refine amB hn hm1 hm hr hg1 hg60 (fun hgg a => ?_) (fun hgg a => ?_) (fun hgg a => ?_) (fun hgg a => ?_)
          · exact absurd hgg hG
          · exact absurd hgg hG
          · exact ⟨(by unfold cc_; dsimp only; omega), (by unfold cs_; dsimp only; omega), RZ hgg (fun y => a y.1) _ (hInv (some (tb, tm)) (none) (some wd) iP)⟩
          · exact absurd a h2
    · -- c110
      by_cases hG : Nat.gcd m r = 1
      · by_cases h2 : m = 1 ∨ m = 2
        · refine ⟨0, 0, by omega, by omega, ?_⟩
          unfold wpx_among
          dsimp only
          unfold wp_X8_among_c110
          refine amV hn hm1 hm hr (s_gcd hm (by omega) ?_)
          refine amB hn hm1 hm hr hg1 hg60 (fun hgg a => ?_) (fun hgg a => ?_) (fun hgg a => ?_) (fun hgg a => ?_)
          · exact s_opl_c110 iP hn hm1 hm hr hgg (fun h12 => fun lo2 hi2 => ⟨fun _ => ⟨(by unfold cc_; dsimp only; omega), (by unfold cs_; dsimp only; omega), R0 hgg a _ (hInv (some (tb, tm)) (some (lo2, hi2)) (none) iP)⟩, fun _ e => (nomatch e)⟩) (fun h3 => absurd h3 (by omega))
          · exact s_opl_c110 iP hn hm1 hm hr hgg (fun h12 => fun lo2 hi2 => ⟨fun _ => ⟨(by unfold cc_; dsimp only; omega), (by unfold cs_; dsimp only; omega), R1 hgg a _ (hInv (some (tb, tm)) (some (lo2, hi2)) (none) iP)⟩, fun _ e => (nomatch e)⟩) (fun h3 => absurd h3 (by omega))
          · exact absurd hG hgg
          · exact absurd hG hgg
        · refine ⟨3, 7815, by omega, by omega, ?_⟩
          unfold wpx_among
          dsimp only
          unfold wp_X8_among_c110
          refine amV hn hm1 hm hr (s_gcd hm (by omega) ?_)
          refine amB hn hm1 hm hr hg1 hg60 (fun hgg a => ?_) (fun hgg a => ?_) (fun hgg a => ?_) (fun hgg a => ?_)
          · exact s_opl_c110 iP hn hm1 hm hr hgg (fun h12 => absurd h12 (by omega)) (fun h3 => ⟨by omega, by omega, fun wd2 => ⟨fun e => (nomatch e), fun v0 e => by cases e; exact ⟨(by unfold cc_; dsimp only; omega), (by unfold cs_; dsimp only; omega), R0 hgg a _ (hInv (some (tb, tm)) (some (lo, hi)) (some wd2) iP)⟩⟩⟩)
          · exact s_opl_c110 iP hn hm1 hm hr hgg (fun h12 => absurd h12 (by omega)) (fun h3 => ⟨by omega, by omega, fun wd2 => ⟨fun e => (nomatch e), fun v0 e => by cases e; exact ⟨(by unfold cc_; dsimp only; omega), (by unfold cs_; dsimp only; omega), R1 hgg a _ (hInv (some (tb, tm)) (some (lo, hi)) (some wd2) iP)⟩⟩⟩)
          · exact absurd hG hgg
          · exact absurd hG hgg
      · by_cases h2 : Nat.gcd m r ≤ n ∧ Nat.gcd m r % m = r
        · refine ⟨0, 0, by omega, by omega, ?_⟩
          unfold wpx_among
          dsimp only
          unfold wp_X8_among_c110
          refine amV hn hm1 hm hr (s_gcd hm (by omega) ?_)
          refine amB hn hm1 hm hr hg1 hg60 (fun hgg a => ?_) (fun hgg a => ?_) (fun hgg a => ?_) (fun hgg a => ?_)
          · exact absurd hgg hG
          · exact absurd hgg hG
          · exact absurd h2 a
          · exact (by unfold wp_X8_knownPrimes_c1; rw [nI_l (by omega)]; exact s_isP5 iP (by omega) (fun q => ⟨fun c => absurd c (by decide), fun _ => ⟨(by unfold cc_; dsimp only; omega), (by unfold cs_; dsimp only; omega), RP hgg ⟨a, q⟩ _ (hInv (some (tb, tm)) (some (lo, hi)) (none) iP)⟩⟩) (fun q => ⟨fun _ => ⟨(by unfold cc_; dsimp only; omega), (by unfold cs_; dsimp only; omega), RZ hgg (fun y => q y.2) _ (hInv (some (tb, tm)) (some (lo, hi)) (none) iP)⟩, fun c => absurd rfl c⟩))
        · refine ⟨0, 0, by omega, by omega, ?_⟩
          unfold wpx_among
          dsimp only
          unfold wp_X8_among_c110
          refine amV hn hm1 hm hr (s_gcd hm (by omega) ?_)
          refine amB hn hm1 hm hr hg1 hg60 (fun hgg a => ?_) (fun hgg a => ?_) (fun hgg a => ?_) (fun hgg a => ?_)
          · exact absurd hgg hG
          · exact absurd hgg hG
          · exact ⟨(by unfold cc_; dsimp only; omega), (by unfold cs_; dsimp only; omega), RZ hgg (fun y => a y.1) _ (hInv (some (tb, tm)) (some (lo, hi)) (none) iP)⟩
          · exact absurd a h2
    · -- c111
      by_cases hG : Nat.gcd m r = 1
      · by_cases h2 : m = 1 ∨ m = 2
        · refine ⟨0, 0, by omega, by omega, ?_⟩
          unfold wpx_among
          dsimp only
          refine ⟨rfl, rfl, ?_⟩
          unfold wp_X8_among_c111
          refine amV hn hm1 hm hr (s_gcd hm (by omega) ?_)
          refine amB hn hm1 hm hr hg1 hg60 (fun hgg a => ?_) (fun hgg a => ?_) (fun hgg a => ?_) (fun hgg a => ?_)
          · exact s_opl_c111 iP hn hm1 hm hr hgg (fun h12 => fun lo2 hi2 => ⟨(by unfold cc_; dsimp only; omega), (by unfold cs_; dsimp only; omega), R0 hgg a _ (hInv (some (tb, tm)) (some (lo2, hi2)) (some wd) iP)⟩) (fun h3 => absurd h3 (by omega))
          · exact s_opl_c111 iP hn hm1 hm hr hgg (fun h12 => fun lo2 hi2 => ⟨(by unfold cc_; dsimp only; omega), (by unfold cs_; dsimp only; omega), R1 hgg a _ (hInv (some (tb, tm)) (some (lo2, hi2)) (some wd) iP)⟩) (fun h3 => absurd h3 (by omega))
          · exact absurd hG hgg
          · exact absurd hG hgg
        · refine ⟨0, 0, by omega, by omega, ?_⟩
          unfold wpx_among
          dsimp only
          refine ⟨rfl, rfl, ?_⟩
          unfold wp_X8_among_c111
          refine amV hn hm1 hm hr (s_gcd hm (by omega) ?_)
          refine amB hn hm1 hm hr hg1 hg60 (fun hgg a => ?_) (fun hgg a => ?_) (fun hgg a => ?_) (fun hgg a => ?_)
          · exact s_opl_c111 iP hn hm1 hm hr hgg (fun h12 => absurd h12 (by omega)) (fun h3 => fun wd2 => ⟨(by unfold cc_; dsimp only; omega), (by unfold cs_; dsimp only; omega), R0 hgg a _ (hInv (some (tb, tm)) (some (lo, hi)) (some wd2) iP)⟩)
          · exact s_opl_c111 iP hn hm1 hm hr hgg (fun h12 => absurd h12 (by omega)) (fun h3 => fun wd2 => ⟨(by unfold cc_; dsimp only; omega), (by unfold cs_; dsimp only; omega), R1 hgg a _ (hInv (some (tb, tm)) (some (lo, hi)) (some wd2) iP)⟩)
          · exact absurd hG hgg
          · exact absurd hG hgg
      · by_cases h2 : Nat.gcd m r ≤ n ∧ Nat.gcd m r % m = r
        · refine ⟨0, 0, by omega, by omega, ?_⟩
          unfold wpx_among
          dsimp only
          refine ⟨rfl, rfl, ?_⟩
          unfold wp_X8_among_c111
          refine amV hn hm1 hm hr (s_gcd hm (by omega) ?_)
          refine amB hn hm1 hm hr hg1 hg60 (fun hgg a => ?_) (fun hgg a => ?_) (fun hgg a => ?_) (fun hgg a => ?_)
          · exact absurd hgg hG
          · exact absurd hgg hG
          · exact absurd h2 a
          · exact (by unfold wp_X8_knownPrimes_c1; rw [nI_l (by omega)]; exact s_isP5 iP (by omega) (fun q => ⟨fun c => absurd c (by decide), fun _ => ⟨(by unfold cc_; dsimp only; omega), (by unfold cs_; dsimp only; omega), RP hgg ⟨a, q⟩ _ (hInv (some (tb, tm)) (some (lo, hi)) (some wd) iP)⟩⟩) (fun q => ⟨fun _ => ⟨(by unfold cc_; dsimp only; omega), (by unfold cs_; dsimp only; omega), RZ hgg (fun y => q y.2) _ (hInv (some (tb, tm)) (some (lo, hi)) (some wd) iP)⟩, fun c => absurd rfl c⟩))
        · refine ⟨0, 0, by omega, by omega, ?_⟩
          unfold wpx_among
          dsimp only
          refine ⟨rfl, rfl, ?_⟩
          unfold wp_X8_among_c111
          refine amV hn hm1 hm hr (s_gcd hm (by omega) ?_)
          refine amB hn hm1 hm hr hg1 hg60 (fun hgg a => ?_) (fun hgg a => ?_) (fun hgg a => ?_) (fun hgg a => ?_)
          · exact absurd hgg hG
          · exact absurd hgg hG
          · exact ⟨(by unfold cc_; dsimp only; omega), (by unfold cs_; dsimp only; omega), RZ hgg (fun y => a y.1) _ (hInv (some (tb, tm)) (some (lo, hi)) (some wd) iP)⟩
          · exact absurd a h2

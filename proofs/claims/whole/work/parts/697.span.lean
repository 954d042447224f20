/-! the span: primes, gaps, twins -/
theorem lastP_1 {P : Nat → Prop} {i : Nat} (h : P i) : lastP P (i + 1) = i + 1 := by
  show @ite Nat (P i) (Classical.propDecidable _) (i + 1) (lastP P i) = _
  exact if_pos h
theorem lastP_0 {P : Nat → Prop} {i : Nat} (h : ¬ P i) : lastP P (i + 1) = lastP P i := by
  show @ite Nat (P i) (Classical.propDecidable _) (i + 1) (lastP P i) = _
  exact if_neg h
theorem lastP_le {P : Nat → Prop} : ∀ i, lastP P i ≤ i := by
  intro i
  induction i with
  | zero => exact Nat.le_refl 0
  | succ i ih =>
    by_cases h : P i
    · rw [lastP_1 h]; exact Nat.le_refl _
    · rw [lastP_0 h]; omega
theorem lastP_s {P : Nat → Prop} : ∀ i, (lastP P i ≠ 0 → P (lastP P i - 1)) ∧ ∀ j, lastP P i ≤ j → j < i → ¬ P j := by
  intro i
  induction i with
  | zero => exact ⟨fun h => absurd rfl h, fun j _ h => absurd h (Nat.not_lt_zero j)⟩
  | succ i ih =>
    by_cases h : P i
    · rw [lastP_1 h]
      exact ⟨fun _ => h, fun j a b => absurd a (by omega)⟩
    · rw [lastP_0 h]
      refine ⟨ih.1, fun j a b => ?_⟩
      by_cases e : j = i
      · rw [e]; exact h
      · exact ih.2 j a (by omega)
theorem gapP_0 {P : Nat → Prop} {i : Nat} (h : ¬ (P i ∧ lastP P i ≠ 0 ∧ gapP P i < i + 1 - lastP P i)) : gapP P (i + 1) = gapP P i := by
  show @ite Nat _ (Classical.propDecidable _) (i + 1 - lastP P i) (gapP P i) = _
  exact if_neg h
theorem gapP_1 {P : Nat → Prop} {i : Nat} (h : P i ∧ lastP P i ≠ 0 ∧ gapP P i < i + 1 - lastP P i) : gapP P (i + 1) = i + 1 - lastP P i := by
  show @ite Nat _ (Classical.propDecidable _) (i + 1 - lastP P i) (gapP P i) = _
  exact if_pos h
theorem gapP_le {P : Nat → Prop} : ∀ i, gapP P i ≤ i := by
  intro i
  induction i with
  | zero => exact Nat.le_refl 0
  | succ i ih =>
    by_cases h : P i ∧ lastP P i ≠ 0 ∧ gapP P i < i + 1 - lastP P i
    · rw [gapP_1 h]; omega
    · rw [gapP_0 h]; omega
theorem cntQ_1 {P : Nat → Prop} {i : Nat} (h : P i) : cntQ P (i + 1) = cntQ P i + 1 := by
  show cntQ P i + b01 (P i) = _
  rw [b01_1 h]
theorem cntQ_0 {P : Nat → Prop} {i : Nat} (h : ¬ P i) : cntQ P (i + 1) = cntQ P i := by
  show cntQ P i + b01 (P i) = _
  rw [b01_0 h]
  rfl
/-- twins, looked at from either of them -/
theorem twins_ {P : Nat → Prop} {m : Nat} : cntQ (fun i => P i ∧ 2 ≤ i ∧ P (i - 2)) m = cntQ (fun i => P i ∧ i + 2 < m ∧ P (i + 2)) m := by
  have key : ∀ j, cntQ (fun i => P i ∧ 2 ≤ i ∧ P (i - 2)) (j + 2) = cntQ (fun i => P i ∧ P (i + 2)) j := by
    intro j
    induction j with
    | zero =>
      rw [show 0 + 2 = 0 + 1 + 1 from rfl, cntQ_0 (by omega), cntQ_0 (by omega)]
      rfl
    | succ j ih =>
      show cntQ (fun i => P i ∧ 2 ≤ i ∧ P (i - 2)) (j + 2) + b01 (P (j + 2) ∧ 2 ≤ j + 2 ∧ P (j + 2 - 2)) = cntQ (fun i => P i ∧ P (i + 2)) j + b01 (P j ∧ P (j + 2))
      rw [ih]
      congr 1
      apply b01_iff
      rw [Nat.add_sub_cancel]
      exact ⟨fun ⟨a, _, b⟩ => ⟨b, a⟩, fun ⟨a, b⟩ => ⟨b, by omega, a⟩⟩
  rcases (by omega : m = 0 ∨ m = 1 ∨ 2 ≤ m) with e | e | e
  · rw [e]; rfl
  · rw [e]
    rw [show 1 = 0 + 1 from rfl, cntQ_0 (by omega), cntQ_0 (by omega)]
    rfl
  · obtain ⟨j, rfl⟩ : ∃ j, m = j + 2 := ⟨m - 2, by omega⟩
    rw [key j, cntQ_tail (P := fun i => P i ∧ i + 2 < j + 2 ∧ P (i + 2)) (m := j) (j + 2) (by omega) (fun i a b c => by have := c.2.1; omega)]
    exact cntQ_eq j (fun i h => ⟨fun ⟨a, b⟩ => ⟨a, by omega, b⟩, fun ⟨a, _, b⟩ => ⟨a, b⟩⟩)
theorem LP_p {n a : Nat} (h2 : 2 ≤ n) (h : LP_ n a) : a = n ↔ isP n := by
  rcases h with ⟨x, _⟩ | ⟨x, y, _⟩
  · omega
  · constructor
    · intro e; rw [← e]; exact x
    · intro e; exact isP_dvd x e y
theorem LP_le {n a : Nat} (h1 : 1 ≤ n) (h : LP_ n a) : 1 ≤ a ∧ a ≤ n := by
  rcases h with ⟨x, y⟩ | ⟨x, y, _⟩
  · omega
  · exact ⟨by have := x.1; omega, Nat.le_of_dvd (by omega) y⟩
theorem GP_le {n a : Nat} (h1 : 1 ≤ n) (h : GP_ n a) : 1 ≤ a ∧ a ≤ n := by
  rcases h with ⟨x, y⟩ | ⟨x, y, _⟩
  · omega
  · exact ⟨by have := x.1; omega, Nat.le_of_dvd (by omega) y⟩
theorem s_pAt {F m : Nat} (hF : 1 ≤ F) (hm : m ≤ 5000) (hFm : F + m ≤ 10000000001) {le : Nat → Int64} (hle : ∀ i, i < m → ∃ a, LP_ (F + i) a ∧ le i = lN a) {t : Nat} (ht : t ≤ 6000) {Q : Int32 → Prop} (h1 : t < m ∧ isP (F + t) → Q 1) (h0 : ¬ (t < m ∧ isP (F + t)) → Q 0) : wp_X9_isPrimeAt (lN F) (nI m) le (nI t) Q := by
  unfold wp_X9_isPrimeAt
  rcases Nat.lt_or_ge t m with q | q
  · obtain ⟨a, ha, ea⟩ := hle t q
    have hal := LP_le (by omega) ha
    rw [nI_clamp (by omega), nI_l (by omega), lN_add, ea, ← nI_l (n := t) (by omega)]
    refine s_inK hm q ⟨fun c => absurd c (by decide), fun _ => ⟨fun c => h0 (fun z => ?_), fun c => ⟨vp_in_nI (by omega) (by omega), fun d => h1 ⟨q, ?_⟩, fun d => h0 (fun z => ?_)⟩⟩⟩
    · have c' := (pk_lLE (a := F + t) (b := 1) (by omega) (by omega)).mp c
      have := z.2.1
      omega
    · have c' := mt (pk_lLE (a := F + t) (b := 1) (by omega) (by omega)).mpr c
      have d' := (pk_lEQ (by omega) (by omega)).mp d
      exact (LP_p (by omega) ha).mp d'
    · have d' := mt (pk_lEQ (a := a) (b := F + t) (by omega) (by omega)).mpr d
      exact d' ((LP_p z.2.1 ha).mpr z.2)
  · refine s_inKN hm (Or.inr ?_) ⟨fun _ => h0 (fun z => by omega), fun c => absurd rfl c⟩
    rw [tn (by omega)]
    omega
theorem meas6 {i : Nat} (hi : i ≤ 5000) : (6000 - (nI (i + 1)).toInt).toNat < (6000 - (nI i).toInt).toNat := by
  rw [tn (n := i + 1) (by omega), tn (n := i) (by omega)]
  omega
/-- i less the last one -/
theorem last_lt {L : Nat} (hL : L ≤ 5000) : nI L - (1 : Int32) < (0 : Int32) ↔ L = 0 := by
  rw [ilt, sub1_t (by omega)]
  show (L : Int) - 1 < 0 ↔ L = 0
  omega
theorem last_sub {L i : Nat} (h1 : L ≠ 0) (h2 : L ≤ i) : nI i - (nI L - (1 : Int32)) = nI (i + 1 - L) := by
  rw [show nI L - (1 : Int32) = nI (L - 1) from pk_sub (a := L) (b := 1) (by omega), pk_sub (by omega)]
  congr 1
  omega
theorem ad0 (x : Int32) : x + (0 : Int32) = x := Int32.add_zero x

def SpI_ (F m : Nat) (l7 l6 l5 l4 l3 l2 : Int32) : Prop := ∃ i, i ≤ m ∧ l7 = nI i ∧ l6 = nI (cntQ (fun i => ¬ SQ_ (F + i)) i) ∧ l5 = nI (cntQ (fun i => isP (F + i) ∧ i + 2 < m ∧ isP (F + (i + 2))) i) ∧ l4 = nI (gapP (fun i => isP (F + i)) i) ∧ l3 = nI (lastP (fun i => isP (F + i)) i) - 1 ∧ l2 = nI (cntQ (fun i => isP (F + i)) i)
theorem s_spanned9 {F m : Nat} (hF : 1 ≤ F) (hm : m ≤ 5000) (hFm : F + m ≤ 10000000001) {le : Nat → Int64} (hle : ∀ i, i < m → ∃ a, LP_ (F + i) a ∧ le i = lN a) {sq : Nat → Int32} (hsq : ∀ i, i < m → (sq i = 1 ∧ SQ_ (F + i)) ∨ (sq i = 0 ∧ ¬ SQ_ (F + i))) {p1 : Int32} {Q : Int32 → Prop} (h0 : p1 = 0 → Q (nI (cntQ (fun i => isP (F + i)) m))) (h1 : p1 = 1 → Q (nI (gapP (fun i => isP (F + i)) m))) (h2 : p1 = 2 → Q (nI (cntQ (fun i => isP (F + i) ∧ i + 2 < m ∧ isP (F + (i + 2))) m))) (h3 : p1 = 3 → Q (nI (cntQ (fun i => ¬ SQ_ (F + i)) m))) (h4 : p1 = 4 → Q (nI m)) (h5 : ¬ p1 = 0 → ¬ p1 = 1 → ¬ p1 = 2 → ¬ p1 = 3 → ¬ p1 = 4 → Q (-1)) : wp_X9_spanned 1 (lN F) (nI m) le sq p1 Q := by
  unfold wp_X9_spanned
  refine ⟨fun c => absurd c (by decide), fun _ => ?_⟩
  refine ⟨SpI_ F m, fun x _ _ _ _ _ => (6000 - x.toInt).toNat, ⟨0, Nat.zero_le _, rfl, rfl, rfl, rfl, (show (-1 : Int32) = nI 0 - 1 from by decide), rfl⟩, ?_⟩
  rintro l7 l6 l5 l4 l3 l2 ⟨i, hi, rfl, rfl, rfl, rfl, rfl, rfl⟩
  refine ⟨fun c => ?_, fun c => ?_⟩
  · have c' := (nI_leI (by omega) (by omega)).mp c
    have : i = m := by omega
    rw [this]
    exact ⟨h0, h1, h2, h3, h4, h5⟩
  · have c' := mt (nI_leI (a := m) (b := i) (by omega) (by omega)).mpr c
    have hLi := lastP_le (P := fun i => isP (F + i)) i
    have hgi := gapP_le (P := fun i => isP (F + i)) i
    have e1 : nI i + (1 : Int32) = nI (i + 1) := nI_1 i
    have e2 : nI i + (2 : Int32) = nI (i + 2) := nI_add i 2
    rw [nI_clamp (by omega), e1, e2]
    -- the free ones
    have fr1 : ¬ SQ_ (F + i) → ∀ x : Int32, x = nI (cntQ (fun i => ¬ SQ_ (F + i)) i) + 1 → x = nI (cntQ (fun i => ¬ SQ_ (F + i)) (i + 1)) := by
      intro q x e
      rw [e, cntQ_1 (P := fun i => ¬ SQ_ (F + i)) q]
      exact nI_1 _
    have fr0 : SQ_ (F + i) → ∀ x : Int32, x = nI (cntQ (fun i => ¬ SQ_ (F + i)) i) + 0 → x = nI (cntQ (fun i => ¬ SQ_ (F + i)) (i + 1)) := by
      intro q x e
      rw [e, cntQ_0 (P := fun i => ¬ SQ_ (F + i)) (fun z => z q)]
      exact ad0 _
    have nop : ∀ (x7 x6 : Int32), x7 = nI (i + 1) → x6 = nI (cntQ (fun i => ¬ SQ_ (F + i)) (i + 1)) → ¬ (i < m ∧ isP (F + i)) → SpI_ F m x7 x6 (nI (cntQ (fun i => isP (F + i) ∧ i + 2 < m ∧ isP (F + (i + 2))) i)) (nI (gapP (fun i => isP (F + i)) i)) (nI (lastP (fun i => isP (F + i)) i) - 1) (nI (cntQ (fun i => isP (F + i)) i)) ∧ (6000 - x7.toInt).toNat < (6000 - (nI i).toInt).toNat := by
      intro x7 x6 e7 e6 hn
      have hp : ¬ isP (F + i) := fun q => hn ⟨by omega, q⟩
      subst e7 e6
      refine ⟨⟨i + 1, by omega, rfl, rfl, ?_, ?_, ?_, ?_⟩, meas6 (by omega)⟩
      · rw [cntQ_0 (P := fun i => isP (F + i) ∧ i + 2 < m ∧ isP (F + (i + 2))) (fun z => hp z.1)]
      · rw [gapP_0 (P := fun i => isP (F + i)) (fun z => hp z.1)]
      · rw [lastP_0 (P := fun i => isP (F + i)) hp]
      · rw [cntQ_0 (P := fun i => isP (F + i)) hp]
    have nxt : ∀ (x7 x6 x5 x4 x2 : Int32), (i < m ∧ isP (F + i)) → x7 = nI (i + 1) → x6 = nI (cntQ (fun i => ¬ SQ_ (F + i)) (i + 1)) → ((i + 2 < m ∧ isP (F + (i + 2)) ∧ x5 = nI (cntQ (fun i => isP (F + i) ∧ i + 2 < m ∧ isP (F + (i + 2))) i) + 1) ∨ (¬ (i + 2 < m ∧ isP (F + (i + 2))) ∧ x5 = nI (cntQ (fun i => isP (F + i) ∧ i + 2 < m ∧ isP (F + (i + 2))) i) + 0)) → x4 = nI (gapP (fun i => isP (F + i)) (i + 1)) → x2 = nI (cntQ (fun i => isP (F + i)) i) + 1 → SpI_ F m x7 x6 x5 x4 (nI i) x2 ∧ (6000 - x7.toInt).toNat < (6000 - (nI i).toInt).toNat := by
      intro x7 x6 x5 x4 x2 hp e7 e6 e5 e4 e2
      subst e7 e6 e4 e2
      refine ⟨⟨i + 1, by omega, rfl, rfl, ?_, rfl, ?_, ?_⟩, meas6 (by omega)⟩
      · rcases e5 with ⟨a, b, e⟩ | ⟨a, e⟩
        · rw [e, cntQ_1 (P := fun i => isP (F + i) ∧ i + 2 < m ∧ isP (F + (i + 2))) ⟨hp.2, a, b⟩]
          exact nI_1 _
        · rw [e, cntQ_0 (P := fun i => isP (F + i) ∧ i + 2 < m ∧ isP (F + (i + 2))) (fun z => a z.2)]
          exact ad0 _
      · rw [lastP_1 (P := fun i => isP (F + i)) hp.2]
        exact (nI_pred i).symm
      · rw [cntQ_1 (P := fun i => isP (F + i)) hp.2]
        exact nI_1 _
    have g0 : lastP (fun i => isP (F + i)) i = 0 → nI (gapP (fun i => isP (F + i)) i) = nI (gapP (fun i => isP (F + i)) (i + 1)) := by
      intro q
      rw [gapP_0 (P := fun i => isP (F + i)) (fun z => z.2.1 q)]
    have g1 : ∀ L, lastP (fun i => isP (F + i)) i = L → L ≠ 0 → nI i - (nI L - (1 : Int32)) ≤ nI (gapP (fun i => isP (F + i)) i) → nI (gapP (fun i => isP (F + i)) i) = nI (gapP (fun i => isP (F + i)) (i + 1)) := by
      intro L eL q d
      rw [last_sub q (by omega)] at d
      have d' := (nI_leI (by omega) (by omega)).mp d
      rw [gapP_0 (P := fun i => isP (F + i)) (fun z => by have := z.2.2; omega)]
    have g2 : ∀ L, lastP (fun i => isP (F + i)) i = L → L ≠ 0 → isP (F + i) → ¬ nI i - (nI L - (1 : Int32)) ≤ nI (gapP (fun i => isP (F + i)) i) → ∀ x4 : Int32, x4 = nI i - (nI L - (1 : Int32)) → x4 = nI (gapP (fun i => isP (F + i)) (i + 1)) := by
      intro L eL q hp d x4 e
      rw [last_sub q (by omega)] at d e
      have d' := mt (nI_leI (a := i + 1 - L) (b := gapP (fun i => isP (F + i)) i) (by omega) (by omega)).mpr d
      rw [e, gapP_1 (P := fun i => isP (F + i)) ⟨hp, by omega, by omega⟩, eL]
    generalize hL : lastP (fun i => isP (F + i)) i = L at *
    have hlt := last_lt (L := L) (by omega)
    refine ⟨vp_in_nI (by omega) (by omega), fun z x6 e6 => ?_, fun z x6 e6 => ?_⟩
    · have hz : ¬ SQ_ (F + i) := by
        rcases hsq i (by omega) with ⟨a, _⟩ | ⟨_, b⟩
        · rw [a] at z; exact absurd z (by decide)
        · exact b
      replace e6 := fr1 hz x6 e6
      exact s_pAt hF hm hFm hle (by omega) (fun hp => ⟨fun c => absurd c (by decide), fun _ x2 e2 => ⟨fun y => s_pAt hF hm hFm hle (by omega) (fun ht => ⟨fun c => absurd c (by decide), fun _ x5 e5 x7 e7 => nxt x7 _ x5 _ x2 hp e7 e6 (Or.inl ⟨ht.1, ht.2, e5⟩) (g0 (hlt.mp y)) e2⟩) (fun ht => ⟨fun _ x5 e5 x7 e7 => nxt x7 _ x5 _ x2 hp e7 e6 (Or.inr ⟨ht, e5⟩) (g0 (hlt.mp y)) e2, fun c => absurd rfl c⟩), fun y => ⟨fun d => s_pAt hF hm hFm hle (by omega) (fun ht => ⟨fun c => absurd c (by decide), fun _ x5 e5 x7 e7 => nxt x7 _ x5 _ x2 hp e7 e6 (Or.inl ⟨ht.1, ht.2, e5⟩) (g1 L rfl (fun q => y (hlt.mpr q)) d) e2⟩) (fun ht => ⟨fun _ x5 e5 x7 e7 => nxt x7 _ x5 _ x2 hp e7 e6 (Or.inr ⟨ht, e5⟩) (g1 L rfl (fun q => y (hlt.mpr q)) d) e2, fun c => absurd rfl c⟩), fun d x4 e4 => s_pAt hF hm hFm hle (by omega) (fun ht => ⟨fun c => absurd c (by decide), fun _ x5 e5 x7 e7 => nxt x7 _ x5 _ x2 hp e7 e6 (Or.inl ⟨ht.1, ht.2, e5⟩) (g2 L rfl (fun q => y (hlt.mpr q)) hp.2 d x4 e4) e2⟩) (fun ht => ⟨fun _ x5 e5 x7 e7 => nxt x7 _ x5 _ x2 hp e7 e6 (Or.inr ⟨ht, e5⟩) (g2 L rfl (fun q => y (hlt.mpr q)) hp.2 d x4 e4) e2, fun c => absurd rfl c⟩)⟩⟩⟩) (fun hn => ⟨fun _ x7 e7 => nop x7 _ e7 e6 hn, fun c => absurd rfl c⟩)
    · have hz : SQ_ (F + i) := by
        rcases hsq i (by omega) with ⟨_, b⟩ | ⟨a, _⟩
        · exact b
        · exact absurd a z
      replace e6 := fr0 hz x6 e6
      exact s_pAt hF hm hFm hle (by omega) (fun hp => ⟨fun c => absurd c (by decide), fun _ x2 e2 => ⟨fun y => s_pAt hF hm hFm hle (by omega) (fun ht => ⟨fun c => absurd c (by decide), fun _ x5 e5 x7 e7 => nxt x7 _ x5 _ x2 hp e7 e6 (Or.inl ⟨ht.1, ht.2, e5⟩) (g0 (hlt.mp y)) e2⟩) (fun ht => ⟨fun _ x5 e5 x7 e7 => nxt x7 _ x5 _ x2 hp e7 e6 (Or.inr ⟨ht, e5⟩) (g0 (hlt.mp y)) e2, fun c => absurd rfl c⟩), fun y => ⟨fun d => s_pAt hF hm hFm hle (by omega) (fun ht => ⟨fun c => absurd c (by decide), fun _ x5 e5 x7 e7 => nxt x7 _ x5 _ x2 hp e7 e6 (Or.inl ⟨ht.1, ht.2, e5⟩) (g1 L rfl (fun q => y (hlt.mpr q)) d) e2⟩) (fun ht => ⟨fun _ x5 e5 x7 e7 => nxt x7 _ x5 _ x2 hp e7 e6 (Or.inr ⟨ht, e5⟩) (g1 L rfl (fun q => y (hlt.mpr q)) d) e2, fun c => absurd rfl c⟩), fun d x4 e4 => s_pAt hF hm hFm hle (by omega) (fun ht => ⟨fun c => absurd c (by decide), fun _ x5 e5 x7 e7 => nxt x7 _ x5 _ x2 hp e7 e6 (Or.inl ⟨ht.1, ht.2, e5⟩) (g2 L rfl (fun q => y (hlt.mpr q)) hp.2 d x4 e4) e2⟩) (fun ht => ⟨fun _ x5 e5 x7 e7 => nxt x7 _ x5 _ x2 hp e7 e6 (Or.inr ⟨ht, e5⟩) (g2 L rfl (fun q => y (hlt.mpr q)) hp.2 d x4 e4) e2, fun c => absurd rfl c⟩)⟩⟩⟩) (fun hn => ⟨fun _ x7 e7 => nop x7 _ e7 e6 hn, fun c => absurd rfl c⟩)
theorem s_spanned9N {fr : Int64} {mn : Int32} {le : Nat → Int64} {sq : Nat → Int32} {p1 : Int32} {Q : Int32 → Prop} (h4 : p1 = 4 → Q 0) (h5 : ¬ p1 = 4 → Q (-1)) : wp_X9_spanned 0 fr mn le sq p1 Q := by
  unfold wp_X9_spanned
  exact ⟨fun _ => ⟨h4, h5⟩, fun c => absurd rfl c⟩
theorem t_spanned : st_spanned Inv_ := by
  rintro ⟨oP, oS, oT, oU, oG, oR⟩ ⟨m0, m1, m2, m3, m4, m5, m6, m7, m8, m9, m10, m11, m12, m13, m14, m15, m16, m17, m18⟩ p1 hI
  obtain ⟨iP, iT, iN, iS, iQ, iR⟩ := id hI
  refine ⟨0, 0, by omega, by omega, ?_⟩
  unfold wpx_spanned
  rcases oS with _ | ⟨lv, gv, rv, wv, fr, mn, pc, gp, tw, sf⟩
  · obtain rfl : m3 = 0 := iS
    dsimp only
    refine ⟨rfl, rfl, ?_⟩
    unfold wp_X8_spanned_c0
    exact ⟨fun e => ⟨le00, le00, s_spanned9N (fun _ => ⟨rfl, hI⟩) (fun q => absurd e q)⟩, fun e => ⟨le00, le00, s_spanned9N (fun q => absurd q e) (fun _ => ⟨rfl, hI⟩)⟩⟩
  · obtain ⟨a, F, m, f1, f2, f3, f4, f5, f6, f7, f8, hl, hg, hs, r1, r2, r3, r4⟩ := iS
    have a : m3 = 1 := a
    have f5 : m4 = lN F := f5
    have f6 : m5 = nI m := f6
    subst a f5 f6 f7 f8 r1 r2 r3 r4
    have hl' : ∀ i, i < m → ∃ a, LP_ (F + i) a ∧ m6 i = lN a := fun i hi => by
      obtain ⟨a, x, _, y⟩ := hl i hi
      exact ⟨a, x, y⟩
    dsimp only
    refine ⟨rfl, rfl, ?_⟩
    unfold wp_X8_spanned_c1
    have dn : ∀ {a b : Int32}, p1 = a → a ≠ b → ∀ {P : Prop}, p1 = b → P := fun e q _ e' => absurd (e.symm.trans e') q
    exact ⟨fun e => ⟨le00, le00, s_spanned9 f1 f3 f4 hl' hs (fun _ => ⟨rfl, hI⟩) (dn e (by decide)) (dn e (by decide)) (dn e (by decide)) (dn e (by decide)) (fun q => absurd e q)⟩, fun e => ⟨le00, le00, s_spanned9 f1 f3 f4 hl' hs (dn e (by decide)) (fun _ => ⟨rfl, hI⟩) (dn e (by decide)) (dn e (by decide)) (dn e (by decide)) (fun _ q => absurd e q)⟩, fun e => ⟨le00, le00, s_spanned9 f1 f3 f4 hl' hs (dn e (by decide)) (dn e (by decide)) (fun _ => ⟨rfl, hI⟩) (dn e (by decide)) (dn e (by decide)) (fun _ _ q => absurd e q)⟩, fun e => ⟨le00, le00, s_spanned9 f1 f3 f4 hl' hs (dn e (by decide)) (dn e (by decide)) (dn e (by decide)) (fun _ => ⟨rfl, hI⟩) (dn e (by decide)) (fun _ _ _ q => absurd e q)⟩, fun e => ⟨le00, le00, s_spanned9 f1 f3 f4 hl' hs (dn e (by decide)) (dn e (by decide)) (dn e (by decide)) (dn e (by decide)) (fun _ => ⟨rfl, hI⟩) (fun _ _ _ _ q => absurd e q)⟩, fun n0 n1 n2 n3 n4 => ⟨le00, le00, s_spanned9 f1 f3 f4 hl' hs (fun q => absurd q n0) (fun q => absurd q n1) (fun q => absurd q n2) (fun q => absurd q n3) (fun q => absurd q n4) (fun _ _ _ _ _ => ⟨rfl, hI⟩)⟩⟩
/-! smooth and rough -/
theorem s_smoothBy {F m : Nat} (hm : m ≤ 5000) {gv : Nat → Int64} {b : Int64} {Q : Int32 → Prop} (h : Q (nI (cntQ (fun i => ¬ b < gv i) m))) : wp_X6_smoothBy gv (nI m) b Q := by
  unfold wp_X6_smoothBy
  refine ⟨fun x s => ∃ i, i ≤ m ∧ x = nI i ∧ s = nI (cntQ (fun i => ¬ b < gv i) i), fun x _ => (6000 - x.toInt).toNat, ⟨0, Nat.zero_le _, rfl, rfl⟩, ?_⟩
  rintro x s ⟨i, hi, rfl, rfl⟩
  refine ⟨fun c => ?_, fun c => ?_⟩
  · have c' := (nI_leI (by omega) (by omega)).mp c
    have : i = m := by omega
    rw [this]; exact h
  · have c' := mt (nI_leI (a := m) (b := i) (by omega) (by omega)).mpr c
    rw [nI_clamp (by omega), show nI i + (1 : Int32) = nI (i + 1) from nI_1 i]
    refine ⟨vp_in_nI (by omega) (by omega), fun z x3 e3 x4 e4 => ?_, fun z x3 e3 x4 e4 => ?_⟩
    · subst e3 e4
      refine ⟨⟨i + 1, by omega, rfl, ?_⟩, meas6 (by omega)⟩
      rw [cntQ_0 (P := fun i => ¬ b < gv i) (fun q => q z)]
      exact ad0 _
    · subst e3 e4
      refine ⟨⟨i + 1, by omega, rfl, ?_⟩, meas6 (by omega)⟩
      rw [cntQ_1 (P := fun i => ¬ b < gv i) z]
      exact nI_1 _
theorem l1_iff {F i : Nat} (hi : F + i ≤ 20000000000) : lN (F + i) = (1 : Int64) ↔ F + i = 1 := pk_lEQ (a := F + i) (b := 1) (by omega) (by omega)
theorem s_roughBy {F m : Nat} (hm : m ≤ 5000) (hF : F ≤ 10000000000) {lv : Nat → Int64} {b : Int64} {Q : Int32 → Prop} (h : Q (nI (cntQ (fun i => F + i = 1 ∨ ¬ lv i ≤ b) m))) : wp_X6_roughBy lv (lN F) (nI m) b Q := by
  unfold wp_X6_roughBy
  refine ⟨fun x s => ∃ i, i ≤ m ∧ x = nI i ∧ s = nI (cntQ (fun i => F + i = 1 ∨ ¬ lv i ≤ b) i), fun x _ => (6000 - x.toInt).toNat, ⟨0, Nat.zero_le _, rfl, rfl⟩, ?_⟩
  rintro x s ⟨i, hi, rfl, rfl⟩
  refine ⟨fun c => ?_, fun c => ?_⟩
  · have c' := (nI_leI (by omega) (by omega)).mp c
    have : i = m := by omega
    rw [this]; exact h
  · have c' := mt (nI_leI (a := m) (b := i) (by omega) (by omega)).mpr c
    rw [nI_clamp (by omega), show nI i + (1 : Int32) = nI (i + 1) from nI_1 i, nI_l (by omega), lN_add]
    have hone := l1_iff (F := F) (i := i) (by omega)
    refine ⟨fun y x3 e3 x4 e4 => ?_, fun y => ⟨vp_in_nI (by omega) (by omega), fun z x3 e3 x4 e4 => ?_, fun z x3 e3 x4 e4 => ?_⟩⟩
    · subst e3 e4
      refine ⟨⟨i + 1, by omega, rfl, ?_⟩, meas6 (by omega)⟩
      rw [cntQ_1 (P := fun i => F + i = 1 ∨ ¬ lv i ≤ b) (Or.inl (hone.mp y))]
      exact nI_1 _
    · subst e3 e4
      refine ⟨⟨i + 1, by omega, rfl, ?_⟩, meas6 (by omega)⟩
      rw [cntQ_0 (P := fun i => F + i = 1 ∨ ¬ lv i ≤ b) (fun q => q.elim (fun q => y (hone.mpr q)) (fun q => q z))]
      exact ad0 _
    · subst e3 e4
      refine ⟨⟨i + 1, by omega, rfl, ?_⟩, meas6 (by omega)⟩
      rw [cntQ_1 (P := fun i => F + i = 1 ∨ ¬ lv i ≤ b) (Or.inr z)]
      exact nI_1 _
theorem s_smooth9 {F m : Nat} (hm : m ≤ 5000) (hF : F ≤ 10000000000) {lv gv : Nat → Int64} {b : Nat} (hb1 : 1 ≤ b) (hb2 : b ≤ 10000000000) {p2 : Int32} {Q : Int32 → Prop} (h0 : p2 = 0 → Q (nI (cntQ (fun i => F + i = 1 ∨ ¬ lN b < gv i) m))) (h1 : ¬ p2 = 0 → Q (nI (cntQ (fun i => F + i = 1 ∨ ¬ lv i ≤ lN b) m))) : wp_X9_smooth 1 (lN F) (nI m) lv gv (lN b) p2 Q := by
  unfold wp_X9_smooth
  refine ⟨fun c => absurd c (by decide), fun _ => s_in10 hb1 hb2 ⟨fun c => absurd c (by decide), fun _ => ?_⟩⟩
  refine ⟨fun x s => ∃ i, i ≤ m ∧ x = nI i ∧ (p2 = 0 → s = nI (cntQ (fun i => F + i = 1 ∨ ¬ lN b < gv i) i)) ∧ (¬ p2 = 0 → s = nI (cntQ (fun i => F + i = 1 ∨ ¬ lv i ≤ lN b) i)), fun x _ => (6000 - x.toInt).toNat, ⟨0, Nat.zero_le _, rfl, fun _ => rfl, fun _ => rfl⟩, ?_⟩
  rintro x s ⟨i, hi, rfl, s0, s1⟩
  refine ⟨fun c => ?_, fun c => ?_⟩
  · have c' := (nI_leI (by omega) (by omega)).mp c
    have : i = m := by omega
    subst this
    by_cases q : p2 = 0
    · rw [s0 q]; exact h0 q
    · rw [s1 q]; exact h1 q
  · have c' := mt (nI_leI (a := m) (b := i) (by omega) (by omega)).mpr c
    rw [nI_clamp (by omega), show nI i + (1 : Int32) = nI (i + 1) from nI_1 i, nI_l (by omega), lN_add]
    have hone := l1_iff (F := F) (i := i) (by omega)
    have vi : vp_in (nI i) 5000 := vp_in_nI (by omega) (by omega)
    refine ⟨fun y => ⟨fun c => absurd c (by decide), fun _ x4 e4 x5 e5 => ?_⟩, fun y => ⟨fun _ => ⟨fun q => ⟨vi, fun z x4 e4 x5 e5 => ?_, fun z x4 e4 x5 e5 => ?_⟩, fun q => ⟨vi, fun z x4 e4 x5 e5 => ?_, fun z x4 e4 x5 e5 => ?_⟩⟩, fun c => absurd rfl c⟩⟩
    · subst e4 e5
      refine ⟨⟨i + 1, by omega, rfl, fun q => ?_, fun q => ?_⟩, meas6 (by omega)⟩
      · rw [s0 q, cntQ_1 (P := fun i => F + i = 1 ∨ ¬ lN b < gv i) (Or.inl (hone.mp y))]
        exact nI_1 _
      · rw [s1 q, cntQ_1 (P := fun i => F + i = 1 ∨ ¬ lv i ≤ lN b) (Or.inl (hone.mp y))]
        exact nI_1 _
    · subst e4 e5
      refine ⟨⟨i + 1, by omega, rfl, fun _ => ?_, fun q2 => absurd q q2⟩, meas6 (by omega)⟩
      rw [s0 q, cntQ_0 (P := fun i => F + i = 1 ∨ ¬ lN b < gv i) (fun r => r.elim (fun r => y (hone.mpr r)) (fun r => r z))]
      exact ad0 _
    · subst e4 e5
      refine ⟨⟨i + 1, by omega, rfl, fun _ => ?_, fun q2 => absurd q q2⟩, meas6 (by omega)⟩
      rw [s0 q, cntQ_1 (P := fun i => F + i = 1 ∨ ¬ lN b < gv i) (Or.inr z)]
      exact nI_1 _
    · subst e4 e5
      refine ⟨⟨i + 1, by omega, rfl, fun q2 => absurd q2 q, fun _ => ?_⟩, meas6 (by omega)⟩
      rw [s1 q, cntQ_0 (P := fun i => F + i = 1 ∨ ¬ lv i ≤ lN b) (fun r => r.elim (fun r => y (hone.mpr r)) (fun r => r z))]
      exact ad0 _
    · subst e4 e5
      refine ⟨⟨i + 1, by omega, rfl, fun q2 => absurd q2 q, fun _ => ?_⟩, meas6 (by omega)⟩
      rw [s1 q, cntQ_1 (P := fun i => F + i = 1 ∨ ¬ lv i ≤ lN b) (Or.inr z)]
      exact nI_1 _
theorem t_smooth : st_smooth Inv_ := by
  rintro ⟨oP, oS, oT, oU, oG, oR⟩ ⟨m0, m1, m2, m3, m4, m5, m6, m7, m8, m9, m10, m11, m12, m13, m14, m15, m16, m17, m18⟩ p1 p2 hI
  obtain ⟨iP, iT, iN, iS, iQ, iR⟩ := id hI
  refine ⟨0, 0, by omega, by omega, ?_⟩
  unfold wpx_smooth
  rcases oS with _ | ⟨lv, gv, rv, wv, fr, mn, pc, gp, tw, sf⟩
  · obtain rfl : m3 = 0 := iS
    dsimp only
    refine ⟨rfl, rfl, ?_⟩
    unfold wp_X8_smooth_c0 wp_X9_smooth
    exact ⟨le00, le00, fun _ => ⟨rfl, hI⟩, fun c => absurd rfl c⟩
  · obtain ⟨a, F, m, f1, f2, f3, f4, f5, f6, f7, f8, hl, hg, hs, r1, r2, r3, r4⟩ := iS
    have a : m3 = 1 := a
    have f5 : m4 = lN F := f5
    have f6 : m5 = nI m := f6
    subst a f5 f6 f7 f8
    dsimp only
    refine ⟨rfl, rfl, ?_⟩
    unfold wp_X8_smooth_c1
    rcases l_cases p1 with hp | ⟨b, h1, hn, rfl⟩
    · refine s_isInN hp ⟨fun _ => ⟨le00, le00, ?_⟩, fun c => absurd rfl c⟩
      unfold wp_X9_smooth
      exact ⟨fun c => absurd c (by decide), fun _ => s_in10N hp ⟨fun _ => ⟨rfl, hI⟩, fun c => absurd rfl c⟩⟩
    · refine s_isIn h1 hn ⟨fun c => absurd c (by decide), fun _ => ⟨fun q => s_smoothBy (F := F) f3 ⟨le00, le00, s_smooth9 f3 (by omega) h1 hn (fun _ => ⟨?_, hI⟩) (fun q2 => absurd q q2)⟩, fun q => s_roughBy f3 (by omega) ⟨le00, le00, s_smooth9 f3 (by omega) h1 hn (fun q2 => absurd q2 q) (fun _ => ⟨?_, hI⟩)⟩⟩⟩
      · congr 1
        refine cntQ_eq m (fun i hi => ?_)
        obtain ⟨g, g1, g2, g3⟩ := hg i hi
        have g3 : m7 i = lN g := g3
        rw [g2, g3]
        have hgl := GP_le (by omega) g1
        refine ⟨fun q => Or.inr q, fun q => q.elim (fun e z => ?_) id⟩
        have := (pk_lLT (by omega) (by omega)).mp z
        omega
      · congr 1
        refine cntQ_eq m (fun i hi => ?_)
        obtain ⟨g, g1, g2, g3⟩ := hl i hi
        have g3 : m6 i = lN g := g3
        rw [g2, g3]

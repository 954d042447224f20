/-! the span is sieved -/
theorem s_measure {F m : Nat} (hF : 1 ≤ F) (hm : m ≤ 5000) (hFm : F + m ≤ 10000000001) {lv : Nat → Int64} (hlv : ∀ i, i < m → ∃ a, LP_ (F + i) a ∧ lv i = lN a) {wv : Nat → Int64} (hw : ∀ k, k < 5056 → (mk_ wv k ↔ k < m ∧ SQ_ (F + k))) {a b c d : Int32} {Q : Int32 → Int32 → Int32 → Int32 → Prop} (h : Q (nI (cntQ (fun i => isP (F + i)) m)) (nI (gapP (fun i => isP (F + i)) m)) (nI (cntQ (fun i => isP (F + i) ∧ i + 2 < m ∧ isP (F + (i + 2))) m)) (nI (cntQ (fun i => ¬ SQ_ (F + i)) m))) : wp_X6_measure lv wv (lN F) (nI m) a b c d Q := by
  unfold wp_X6_measure
  refine s_tally (by omega) (fun y ey => ?_)
  have ecnt : cntQ (mk_ wv) (64 * 79) = cntQ (fun k => SQ_ (F + k)) m := by
    rw [cntQ_tail (P := mk_ wv) (m := m) (64 * 79) (by omega) (fun i a b z => by have := ((hw i (by omega)).mp z).1; omega)]
    exact cntQ_eq m (fun i hi => (hw i (by omega)).trans ⟨fun z => z.2, fun z => ⟨hi, z⟩⟩)
  have hnot := cntQ_not (P := fun k => SQ_ (F + k)) m
  have hcle := cntQ_le (fun k => SQ_ (F + k)) m
  rw [ecnt, pk_sub hcle, show m - cntQ (fun k => SQ_ (F + k)) m = cntQ (fun i => ¬ SQ_ (F + i)) m from by omega] at ey
  subst ey
  refine ⟨fun l2 l1 pc gp tw => ∃ i, i ≤ m ∧ l2 = nI i ∧ l1 = nI (lastP (fun i => isP (F + i)) i) - 1 ∧ pc = nI (cntQ (fun i => isP (F + i)) i) ∧ gp = nI (gapP (fun i => isP (F + i)) i) ∧ tw = nI (cntQ (fun i => isP (F + i) ∧ 2 ≤ i ∧ isP (F + (i - 2))) i), fun x _ _ _ _ => (6000 - x.toInt).toNat, ⟨0, Nat.zero_le _, rfl, (show (-1 : Int32) = nI 0 - 1 from by decide), rfl, rfl, rfl⟩, ?_⟩
  rintro l2 l1 pc gp tw ⟨i, hi, rfl, rfl, rfl, rfl, rfl⟩
  refine ⟨fun c => ?_, fun c => ?_⟩
  · have c' := (nI_leI (by omega) (by omega)).mp c
    have : i = m := by omega
    rw [this, twins_ (P := fun i => isP (F + i)) (m := m)]
    exact h
  · have c' := mt (nI_leI (a := m) (b := i) (by omega) (by omega)).mpr c
    obtain ⟨al, ha, ea⟩ := hlv i (by omega)
    have hal := LP_le (by omega) ha
    have hLi := lastP_le (P := fun i => isP (F + i)) i
    have hgi := gapP_le (P := fun i => isP (F + i)) i
    have hLs := lastP_s (P := fun i => isP (F + i)) i
    rw [nI_clamp (by omega), show nI i + (1 : Int32) = nI (i + 1) from nI_1 i, nI_l (by omega), lN_add, ea]
    have hone := l1_iff (F := F) (i := i) (by omega)
    have nop : ¬ isP (F + i) → ∀ x2 : Int32, x2 = nI (i + 1) → (∃ j, j ≤ m ∧ x2 = nI j ∧ nI (lastP (fun i => isP (F + i)) i) - 1 = nI (lastP (fun i => isP (F + i)) j) - 1 ∧ nI (cntQ (fun i => isP (F + i)) i) = nI (cntQ (fun i => isP (F + i)) j) ∧ nI (gapP (fun i => isP (F + i)) i) = nI (gapP (fun i => isP (F + i)) j) ∧ nI (cntQ (fun i => isP (F + i) ∧ 2 ≤ i ∧ isP (F + (i - 2))) i) = nI (cntQ (fun i => isP (F + i) ∧ 2 ≤ i ∧ isP (F + (i - 2))) j)) ∧ (6000 - x2.toInt).toNat < (6000 - (nI i).toInt).toNat := by
      intro hp x2 e2
      subst e2
      refine ⟨⟨i + 1, by omega, rfl, ?_, ?_, ?_, ?_⟩, meas6 (by omega)⟩
      · rw [lastP_0 (P := fun i => isP (F + i)) hp]
      · rw [cntQ_0 (P := fun i => isP (F + i)) hp]
      · rw [gapP_0 (P := fun i => isP (F + i)) (fun z => hp z.1)]
      · rw [cntQ_0 (P := fun i => isP (F + i) ∧ 2 ≤ i ∧ isP (F + (i - 2))) (fun z => hp z.1)]
    refine ⟨fun y x2 e2 => nop (fun q => ?_) x2 e2, fun y => ⟨vp_in_nI (by omega) (by omega), fun z y9 e9 => ?_, fun z x2 e2 => nop (fun q => ?_) x2 e2⟩⟩
    · have := hone.mp y
      have := q.1
      omega
    · have z' := (pk_lEQ (by omega) (by omega)).mp z
      have hp : isP (F + i) := (LP_p (by have := mt hone.mpr y; omega) ha).mp z'
      have hlt := last_lt (L := lastP (fun i => isP (F + i)) i) (by omega)
      have nxt : ∀ (x2 g t : Int32), x2 = nI (i + 1) → g = nI (gapP (fun i => isP (F + i)) (i + 1)) → t = nI (cntQ (fun i => isP (F + i) ∧ 2 ≤ i ∧ isP (F + (i - 2))) (i + 1)) → (∃ j, j ≤ m ∧ x2 = nI j ∧ nI i = nI (lastP (fun i => isP (F + i)) j) - 1 ∧ y9 = nI (cntQ (fun i => isP (F + i)) j) ∧ g = nI (gapP (fun i => isP (F + i)) j) ∧ t = nI (cntQ (fun i => isP (F + i) ∧ 2 ≤ i ∧ isP (F + (i - 2))) j)) ∧ (6000 - x2.toInt).toNat < (6000 - (nI i).toInt).toNat := by
        intro x2 g t e2 eg et
        subst e2
        refine ⟨⟨i + 1, by omega, rfl, ?_, ?_, eg, et⟩, meas6 (by omega)⟩
        · rw [lastP_1 (P := fun i => isP (F + i)) hp]
          exact (nI_pred i).symm
        · rw [e9, cntQ_1 (P := fun i => isP (F + i)) hp]
          exact nI_1 _
      have htw : (2 ≤ i ∧ isP (F + (i - 2))) ↔ (lastP (fun i => isP (F + i)) i ≠ 0 ∧ i + 1 - lastP (fun i => isP (F + i)) i = 2) := by
        constructor
        · rintro ⟨w1, w2⟩
          have w3 : ¬ isP (F + (i - 1)) := by
            intro w
            have a1 := w2.1
            by_cases e : F + (i - 2) = 2
            · exact isP_even (n := F + i) (by omega) (by omega) hp
            · have b1 := isP_odd w2 e
              have b2 := isP_odd w (by omega)
              omega
          obtain ⟨j, rfl⟩ : ∃ j, i = j + 1 + 1 := ⟨i - 2, by omega⟩
          rw [show j + 1 + 1 - 2 = j from rfl] at w2
          rw [show j + 1 + 1 - 1 = j + 1 from rfl] at w3
          rw [lastP_0 (P := fun i => isP (F + i)) w3, lastP_1 (P := fun i => isP (F + i)) w2]
          exact ⟨by omega, by omega⟩
        · rintro ⟨w1, w2⟩
          have := hLs.1 w1
          refine ⟨by omega, ?_⟩
          have e : lastP (fun i => isP (F + i)) i - 1 = i - 2 := by omega
          rw [e] at this
          exact this
      refine ⟨fun v x2 e2 => nxt x2 _ _ e2 ?_ ?_, fun v y12 e12 => ?_⟩
      · rw [gapP_0 (P := fun i => isP (F + i)) (fun q => q.2.1 (hlt.mp v))]
      · rw [cntQ_0 (P := fun i => isP (F + i) ∧ 2 ≤ i ∧ isP (F + (i - 2))) (fun q => (htw.mp q.2).1 (hlt.mp v))]
      · have hL0 : lastP (fun i => isP (F + i)) i ≠ 0 := fun q => v (hlt.mpr q)
        rw [last_sub hL0 hLi] at e12 ⊢
        have eg : y12 = nI (gapP (fun i => isP (F + i)) (i + 1)) := by
          rw [e12]
          by_cases q : nI (gapP (fun i => isP (F + i)) i) < nI (i + 1 - lastP (fun i => isP (F + i)) i)
          · have q' := (nI_ltI (by omega) (by omega)).mp q
            rw [if_pos q, gapP_1 (P := fun i => isP (F + i)) ⟨hp, hL0, q'⟩]
          · have q' := mt (nI_ltI (a := gapP (fun i => isP (F + i)) i) (b := i + 1 - lastP (fun i => isP (F + i)) i) (by omega) (by omega)).mpr q
            rw [if_neg q, gapP_0 (P := fun i => isP (F + i)) (fun r => q' r.2.2)]
        have e2iff : nI (i + 1 - lastP (fun i => isP (F + i)) i) = (2 : Int32) ↔ i + 1 - lastP (fun i => isP (F + i)) i = 2 := nI_eq (a := i + 1 - lastP (fun i => isP (F + i)) i) (b := 2) (by omega) (by omega)
        refine ⟨fun q y16 e16 x2 e2 => nxt x2 y12 y16 e2 eg ?_, fun q y14 e14 x2 e2 => nxt x2 y12 y14 e2 eg ?_⟩
        · rw [e16, cntQ_1 (P := fun i => isP (F + i) ∧ 2 ≤ i ∧ isP (F + (i - 2))) ⟨hp, htw.mpr ⟨hL0, e2iff.mp q⟩⟩]
          exact nI_1 _
        · rw [e14, cntQ_0 (P := fun i => isP (F + i) ∧ 2 ≤ i ∧ isP (F + (i - 2))) (fun r => q (e2iff.mpr (htw.mp r.2).2))]
          exact ad0 _
    · have z' := mt (pk_lEQ (a := al) (b := F + i) (by omega) (by omega)).mpr z
      exact z' ((LP_p q.1 ha).mpr q)
/-- one number of the span, as far as the primes below number x have been looked at -/
def St_ (F x j : Nat) (lv gv rv wv : Nat → Int64) : Prop := (∃ l, Li_ 0 (F + j) x l ∧ lv j = lN l) ∧ (∃ g, Gi_ 0 (F + j) x g ∧ gv j = lN g) ∧ rv j = lN (R_ (F + j) x) ∧ (mk_ wv j ↔ Si_ (F + j) x)
theorem St_no {F x j p : Nat} (hF : 1 ≤ F) (hx : x < NP_) (hp : isP p) (hpx : cntP p = x) (hd : ¬ p ∣ F + j) {lv gv rv wv : Nat → Int64} (h : St_ F x j lv gv rv wv) : St_ F (x + 1) j lv gv rv wv := by
  obtain ⟨⟨l, a, b⟩, ⟨g, c, d⟩, e, f⟩ := h
  have hR : ¬ p ∣ R_ (F + j) x := fun q => hd ((R_dvd (by omega) (Nat.le_of_lt hx) hp (by omega)).mp q)
  refine ⟨⟨l, L_no hp hpx hd a, b⟩, ⟨g, G_no hp hpx hd c, d⟩, ?_, ?_⟩
  · rw [R_step (T := 0) (r := R_ (F + j) x) hp hpx (by rw [Nat.pow_zero, Nat.one_mul]) hR]
    exact e
  · rw [S_s hp hpx, f]
    exact ⟨fun q => Or.inl q, fun q => q.elim id (fun r => absurd (Nat.dvd_trans ⟨p, rfl⟩ r) hd)⟩
theorem St_eq {F x j : Nat} {lv gv rv wv lv' gv' rv' wv' : Nat → Int64} (h : St_ F x j lv gv rv wv) (a : lv' j = lv j) (b : gv' j = gv j) (c : rv' j = rv j) (d : mk_ wv' j ↔ mk_ wv j) : St_ F x j lv' gv' rv' wv' := by
  obtain ⟨⟨l, e, f⟩, ⟨g, i, k⟩, m, n⟩ := h
  exact ⟨⟨l, e, a.trans f⟩, ⟨g, i, b.trans k⟩, c.trans m, d.trans n⟩
theorem s_divOne {m i p r : Nat} (hm : m ≤ 5000) (hi : i < m) (hp : 2 ≤ p) (hp1 : p ≤ 100000) (hr : 1 ≤ r) (hr1 : r ≤ 10000000000) (hpr : p ∣ r) {lv gv rv wv : Nat → Int64} (hrv : rv i = lN r) {Q : (Nat → Int64) → (Nat → Int64) → (Nat → Int64) → (Nat → Int64) → Prop} (h : ∀ lv' wv' T r', (lv i = 0 → lv' = vp_updL lv i (lN p)) → (¬ lv i = 0 → lv' = lv) → r = p ^ T * r' → ¬ p ∣ r' → 1 ≤ T → (∀ k, mk_ wv' k ↔ mk_ wv k ∨ (k = i ∧ 2 ≤ T)) → Q lv' (vp_updL gv i (lN p)) (vp_updL rv i (lN r')) wv') : wp_X6_divideOne lv gv rv wv (nI m) (nI i) (lN p) Q := by
  unfold wp_X6_divideOne
  have vi : vp_in (nI i) 5000 := vp_in_nI (by omega) (by omega)
  have hp0 : ¬ lN p = (0 : Int64) := fun z => by
    have := (pk_lEQ (a := p) (b := 0) (by omega) (by omega)).mp z
    omega
  rw [nI_clamp (by omega), hrv]
  have hdv : lN r / lN p = lN (r / p) := pk_lDiv (by omega) (by omega) (by omega)
  have er : r = p ^ 1 * (r / p) := by rw [Nat.pow_one]; exact (Nat.mul_div_cancel' hpr).symm
  refine ⟨fun c => absurd c (nI_pos (by omega)), fun _ => ⟨fun c => ?_, fun _ => ⟨fun _ => ⟨vi, fun y => ⟨vi, vi, vi, hp0, fun x4 e4 => ?_⟩, fun y => ⟨vi, vi, hp0, fun x4 e4 => ?_⟩⟩, fun c => ?_⟩⟩⟩
  · have := (nI_leI (by omega) (by omega)).mp c
    omega
  rotate_right
  · exact absurd ((pk_lLE (a := 2) (b := p) (by omega) (by omega)).mpr hp) c
  all_goals
    rw [hdv] at e4
    subst e4
    refine ⟨fun x z w => ∃ T r', 1 ≤ T ∧ r = p ^ T * r' ∧ x = nI (T - 1) ∧ z = lN r' ∧ ∀ k, mk_ w k ↔ mk_ wv k ∨ (k = i ∧ 2 ≤ T), fun x _ _ => (700 - x.toInt).toNat, ⟨1, r / p, by omega, er, rfl, rfl, fun k => ⟨fun q => Or.inl q, fun q => q.elim id (fun ⟨_, z⟩ => absurd z (by omega))⟩⟩, ?_⟩
    rintro x z w ⟨T, r', hT1, hT, rfl, rfl, hw⟩
    have hr1' : 1 ≤ r' := by
      rcases Nat.eq_zero_or_pos r' with q | q
      · rw [q, Nat.mul_zero] at hT; omega
      · exact q
    have hT34 := pow34 hp hT hr1' hr1
    have hrr : r' ≤ r := by
      have := Nat.mul_le_mul_right r' (show 1 ≤ p ^ T from Nat.pow_pos (by omega))
      omega
    have hml := Nat.mod_lt r' (show 0 < p by omega)
    rw [pk_lRem (by omega) (by omega) (by omega), pk_lDiv (by omega) (by omega) (by omega)]
    refine ⟨fun d => ?_, fun _ => ⟨hp0, fun d => ?_, fun d => ⟨vi, ?_⟩⟩⟩
    · have := (nI_leI (a := 34) (b := T - 1) (by omega) (by omega)).mp d
      omega
    · have d' := (pk_lEQ (a := r' % p) (b := 0) (by omega) (by omega)).mp d
      refine s_mark (by omega) (by omega) (fun w' hw' => ⟨hp0, fun x4 e4 x6 e6 => ?_⟩)
      rw [show nI (T - 1) + (1 : Int32) = nI (T - 1 + 1) from nI_1 _, show T - 1 + 1 = T from by omega] at e6
      subst e4 e6
      have e := Nat.div_add_mod r' p
      rw [d', Nat.add_zero] at e
      refine ⟨⟨T + 1, r' / p, by omega, ?_, rfl, rfl, fun k => ?_⟩, ?_⟩
      · rw [Nat.pow_succ, Nat.mul_assoc, e]; exact hT
      · rw [hw' k, hw k]
        constructor
        · rintro ((q | q) | q)
          · exact Or.inl q
          · exact Or.inr ⟨q.1, by omega⟩
          · exact Or.inr ⟨q, by omega⟩
        · rintro (q | q)
          · exact Or.inl (Or.inl q)
          · exact Or.inr q.1
      · show (700 - (nI T).toInt).toNat < (700 - (nI (T - 1)).toInt).toNat
        rw [tn (by omega), tn (by omega)]
        omega
    · have d' := mt (pk_lEQ (a := r' % p) (b := 0) (by omega) (by omega)).mpr d
      have hnr : ¬ p ∣ r' := fun q => d' (Nat.mod_eq_zero_of_dvd q)
      first
        | exact h _ w T r' (fun _ => rfl) (fun q => absurd y q) hT hnr hT1 hw
        | exact h _ w T r' (fun q => absurd q y) (fun _ => rfl) hT hnr hT1 hw
theorem s_divAll {F m p x : Nat} (hF : 1 ≤ F) (hm : m ≤ 5000) (hFm : F + m ≤ 10000000001) (hp : isP p) (hp1 : p ≤ 100000) (hx : x < NP_) (hpx : cntP p = x) {lv gv rv wv : Nat → Int64} (hst : ∀ j, j < m → St_ F x j lv gv rv wv) (hmk : ∀ k, m ≤ k → k < 5056 → ¬ mk_ wv k) {Q : (Nat → Int64) → (Nat → Int64) → (Nat → Int64) → (Nat → Int64) → Prop} (h : ∀ lv' gv' rv' wv', (∀ j, j < m → St_ F (x + 1) j lv' gv' rv' wv') → (∀ k, m ≤ k → k < 5056 → ¬ mk_ wv' k) → Q lv' gv' rv' wv') : wp_X6_divideAll lv gv rv wv (lN F) (nI m) (lN p) Q := by
  have hp2 := hp.1
  unfold wp_X6_divideAll
  have hp0 : ¬ lN p = (0 : Int64) := fun z => by
    have := (pk_lEQ (a := p) (b := 0) (by omega) (by omega)).mp z
    omega
  have hml := Nat.mod_lt F (show 0 < p by omega)
  have hdm := Nat.div_add_mod F p
  have ndv : ∀ c j, p ∣ F + c → c < j → j < c + p → ¬ p ∣ F + j := by
    intro c j h1 h2 h3 h4
    have h5 := Nat.dvd_sub h4 h1
    have h6 := Nat.le_of_dvd (by omega) h5
    omega
  have body : ∀ (z : Int64) (c0 : Nat), z = lN c0 → c0 ≤ p → p ∣ F + c0 → (∀ j, j < c0 → ¬ p ∣ F + j) → (∃ (I : Int64 → (Nat → Int64) → (Nat → Int64) → (Nat → Int64) → (Nat → Int64) → Prop) (μ : Int64 → (Nat → Int64) → (Nat → Int64) → (Nat → Int64) → (Nat → Int64) → Nat), I z lv gv rv wv ∧ ∀ (y : Int64) (a b d e : Nat → Int64), I y a b d e → (((nI m).toInt64 ≤ y → Q a b d e) ∧ (¬ (nI m).toInt64 ≤ y → wp_X6_divideOne a b d e (nI m) (y.toInt32) (lN p) (fun o1 o2 o3 o4 => (∀ x5 : Int64, x5 = (y + lN p) → (I x5 o1 o2 o3 o4 ∧ μ x5 o1 o2 o3 o4 < μ y a b d e)))))) := by
    intro z c0 hz hc0 hd0 hn0
    refine ⟨fun y a b d e => ∃ c, c ≤ 200000 ∧ y = lN c ∧ p ∣ F + c ∧ (∀ j, j < m → j < c → St_ F (x + 1) j a b d e) ∧ (∀ j, j < m → c ≤ j → St_ F x j a b d e) ∧ (∀ k, m ≤ k → k < 5056 → ¬ mk_ e k), fun y _ _ _ _ => (400000 - y.toInt).toNat, ⟨c0, by omega, hz, hd0, fun j j1 j2 => St_no hF hx hp hpx (hn0 j j2) (hst j j1), fun j j1 _ => hst j j1, hmk⟩, ?_⟩
    rintro y a b d e ⟨c, hc, rfl, hdc, s1, s2, s3⟩
    rw [nI_l (by omega)]
    refine ⟨fun q => h a b d e (fun j hj => s1 j hj ?_) s3, fun q => ?_⟩
    · have q' := (pk_lLE (a := m) (b := c) (by omega) (by omega)).mp q
      omega
    · have q' := mt (pk_lLE (a := m) (b := c) (by omega) (by omega)).mpr q
      rw [lN_i]
      obtain ⟨⟨l, hl, el⟩, ⟨g, hg, eg⟩, er, ew⟩ := s2 c (by omega) (Nat.le_refl c)
      have hn1 : 1 ≤ F + c := by omega
      have hR1 := (R_spl hn1 x (Nat.le_of_lt hx)).1
      have hRn := R_le hn1 (Nat.le_of_lt hx)
      have hlb : l ≤ 10000000000 := by
        rcases hl with ⟨q, _⟩ | ⟨_, q, _⟩
        · omega
        · have := Nat.le_of_dvd (by omega) q
          omega
      have hl0 : a c = 0 ↔ l = 0 := by
        rw [el]
        exact pk_lEQ (a := l) (b := 0) (by omega) (by omega)
      refine s_divOne (r := R_ (F + c) x) hm (by omega) hp2 hp1 hR1 (by omega) ((R_dvd hn1 (Nat.le_of_lt hx) hp (by omega)).mpr hdc) er (fun lv' wv' T r' k1 k2 hT hnr hT1 hw x5 e5 => ?_)
      rw [lN_add] at e5
      subst e5
      have hlv : ∀ j, j ≠ c → lv' j = a j := by
        intro j hj
        by_cases q : a c = 0
        · rw [k1 q, upL_ne hj]
        · rw [k2 q]
      have hwv : ∀ j, j ≠ c → (mk_ wv' j ↔ mk_ e j) := by
        intro j hj
        rw [hw j]
        exact ⟨fun q => q.elim id (fun r => absurd r.1 hj), fun q => Or.inl q⟩
      refine ⟨⟨c + p, by omega, rfl, ?_, fun j j1 j2 => ?_, fun j j1 j2 => ?_, fun k k1 k2 q => ?_⟩, ?_⟩
      · rw [← Nat.add_assoc]
        exact Nat.dvd_add hdc (Nat.dvd_refl p)
      · by_cases q : j = c
        · subst q
          refine ⟨?_, ⟨p, G_set hp hpx hdc, upL_same⟩, ?_, ?_⟩
          · by_cases q : a j = 0
            · exact ⟨p, L_set (by omega) hp hpx hdc (hl0.mp q) hl, by rw [k1 q, upL_same]⟩
            · exact ⟨l, L_keep (fun r => q (hl0.mpr r)) hl, by rw [k2 q]; exact el⟩
          · rw [upL_same, R_step hp hpx hT hnr]
          · rw [hw j, ew, S_s hp hpx, ← T_2 hn1 hx hp hpx hT hnr]
            exact ⟨fun q => q.elim Or.inl (fun r => Or.inr r.2), fun q => q.elim Or.inl (fun r => Or.inr ⟨rfl, r⟩)⟩
        · rcases Nat.lt_or_ge j c with r | r
          · exact St_eq (s1 j j1 r) (hlv j q) (upL_ne q) (upL_ne q) (hwv j q)
          · exact St_no hF hx hp hpx (ndv c j hdc (by omega) j2) (St_eq (s2 j j1 r) (hlv j q) (upL_ne q) (upL_ne q) (hwv j q))
      · have q : j ≠ c := by omega
        exact St_eq (s2 j j1 (by omega)) (hlv j q) (upL_ne q) (upL_ne q) (hwv j q)
      · exact s3 k k1 k2 ((hwv k (by omega)).mp q)
      · show (400000 - (lN (c + p)).toInt).toNat < (400000 - (lN c).toInt).toNat
        rw [tl (by omega), tl (by omega)]
        omega
  refine ⟨fun _ => ⟨hp0, fun x3 e3 => ?_⟩, fun c => absurd ((pk_lLE (a := 2) (b := p) (by omega) (by omega)).mpr hp2) c⟩
  rw [pk_lRem (by omega) (by omega) (by omega)] at e3
  subst e3
  refine ⟨fun z => ?_, fun z x5 e5 => ?_⟩
  · have z' := (pk_lEQ (a := F % p) (b := 0) (by omega) (by omega)).mp z
    exact body _ 0 rfl (by omega) (by rw [Nat.add_zero]; exact Nat.dvd_of_mod_eq_zero z') (fun j hj => absurd hj (Nat.not_lt_zero j))
  · have z' := mt (pk_lEQ (a := F % p) (b := 0) (by omega) (by omega)).mpr z
    rw [lN_sub (by omega)] at e5
    refine body x5 (p - F % p) e5 (by omega) ⟨F / p + 1, ?_⟩ (fun j hj hd => ?_)
    · rw [Nat.mul_add, Nat.mul_one]
      omega
    · have e : F + j = p * (F / p) + (F % p + j) := by omega
      rw [e] at hd
      have h2 := (Nat.dvd_add_right ⟨F / p, rfl⟩).mp hd
      have h3 := Nat.le_of_dvd (by omega) h2
      omega
theorem s_takeR {F m x : Nat} (hF : 1 ≤ F) (hm : m ≤ 5000) (hFm : F + m ≤ 10000000001) (hx : x ≤ NP_) (hsp : ∀ j, j < m → Sp_ (F + j) x) {lv gv rv wv : Nat → Int64} (hst : ∀ j, j < m → St_ F x j lv gv rv wv) {Q : (Nat → Int64) → (Nat → Int64) → Prop} (h : ∀ lv' gv', (∀ j, j < m → ∃ a, LP_ (F + j) a ∧ lv' j = lN a) → (∀ j, j < m → ∃ g, GP_ (F + j) g ∧ gv' j = lN g) → Q lv' gv') : wp_X6_takeRests lv gv rv (nI m) Q := by
  unfold wp_X6_takeRests
  refine ⟨fun y a b => ∃ i, i ≤ m ∧ y = nI i ∧ (∀ j, j < i → ∃ l, LP_ (F + j) l ∧ a j = lN l) ∧ (∀ j, j < i → ∃ g, GP_ (F + j) g ∧ b j = lN g) ∧ ∀ j, i ≤ j → a j = lv j ∧ b j = gv j, fun y _ _ => (6000 - y.toInt).toNat, ⟨0, Nat.zero_le _, rfl, fun j hj => absurd hj (Nat.not_lt_zero j), fun j hj => absurd hj (Nat.not_lt_zero j), fun j _ => ⟨rfl, rfl⟩⟩, ?_⟩
  rintro y a b ⟨i, hi, rfl, s1, s2, s3⟩
  refine ⟨fun c => ?_, fun c => ?_⟩
  · have c' := (nI_leI (by omega) (by omega)).mp c
    exact h a b (fun j hj => s1 j (by omega)) (fun j hj => s2 j (by omega))
  · have c' := mt (nI_leI (a := m) (b := i) (by omega) (by omega)).mpr c
    obtain ⟨⟨l, hl, el⟩, ⟨g, hg, eg⟩, er, ew⟩ := hst i (by omega)
    have hn1 : 1 ≤ F + i := by omega
    have hR1 := (R_spl hn1 x hx).1
    have hRn := R_le hn1 hx
    have hRp := Sp_R hn1 (by omega) hx (hsp i (by omega))
    have hlb : l ≤ 10000000000 := by
      rcases hl with ⟨q, _⟩ | ⟨_, q, _⟩
      · omega
      · have := Nat.le_of_dvd (by omega) q
        omega
    have hgb : g ≤ 10000000000 := by
      rcases hg with ⟨q, _⟩ | ⟨_, q, _⟩
      · omega
      · have := Nat.le_of_dvd (by omega) q
        omega
    have vi : vp_in (nI i) 5000 := vp_in_nI (by omega) (by omega)
    have hal := (s3 i (Nat.le_refl i)).1.trans el
    have hbg := (s3 i (Nat.le_refl i)).2.trans eg
    rw [nI_clamp (by omega), hal, hbg, er, show nI i + (1 : Int32) = nI (i + 1) from nI_1 i]
    have el0 : lN l = (0 : Int64) ↔ l = 0 := pk_lEQ (a := l) (b := 0) (by omega) (by omega)
    have eg0 : lN g = (0 : Int64) ↔ g = 0 := pk_lEQ (a := g) (b := 0) (by omega) (by omega)
    have eR1 : (1 : Int64) < lN (R_ (F + i) x) ↔ 1 < R_ (F + i) x := pk_lLT (a := 1) (b := R_ (F + i) x) (by omega) (by omega)
    have nxt : ∀ (x1 : Int32) (a' b' : Nat → Int64), x1 = nI (i + 1) → (∃ l, LP_ (F + i) l ∧ a' i = lN l) → (∃ g, GP_ (F + i) g ∧ b' i = lN g) → (∀ j, j ≠ i → a' j = a j) → (∀ j, j ≠ i → b' j = b j) → ((∃ i, i ≤ m ∧ x1 = nI i ∧ (∀ j, j < i → ∃ l, LP_ (F + j) l ∧ a' j = lN l) ∧ (∀ j, j < i → ∃ g, GP_ (F + j) g ∧ b' j = lN g) ∧ ∀ j, i ≤ j → a' j = lv j ∧ b' j = gv j) ∧ (6000 - x1.toInt).toNat < (6000 - (nI i).toInt).toNat) := by
      intro x1 a' b' e1 ha hb na nb
      subst e1
      refine ⟨⟨i + 1, by omega, rfl, fun j hj => ?_, fun j hj => ?_, fun j hj => ?_⟩, meas6 (by omega)⟩
      · by_cases q : j = i
        · subst q; exact ha
        · rw [na j q]; exact s1 j (by omega)
      · by_cases q : j = i
        · subst q; exact hb
        · rw [nb j q]; exact s2 j (by omega)
      · rw [na j (by omega), nb j (by omega)]
        exact s3 j (by omega)
    have L1 : lN l = (0 : Int64) → ∀ y : Int64, y = lN (R_ (F + i) x) → ∃ l, LP_ (F + i) l ∧ vp_updL a i y i = lN l := fun q y e => ⟨_, L_end1 (by omega) hn1 hx hRp (el0.mp q) hl, by rw [upL_same, e]⟩
    have L2 : ¬ lN l = (0 : Int64) → ∃ l, LP_ (F + i) l ∧ a i = lN l := fun q => ⟨l, L_end2 (fun r => q (el0.mpr r)) hl, hal⟩
    have G1 : (1 : Int64) < lN (R_ (F + i) x) → ∀ y : Int64, y = lN (R_ (F + i) x) → ∃ g, GP_ (F + i) g ∧ vp_updL b i y i = lN g := fun q y e => ⟨_, G_end1 hn1 hx (hRp.resolve_left (by have := eR1.mp q; omega)), by rw [upL_same, e]⟩
    have G2 : ¬ (1 : Int64) < lN (R_ (F + i) x) → lN g = (0 : Int64) → ∀ y : Int64, y = lN (R_ (F + i) x) → ∃ g, GP_ (F + i) g ∧ vp_updL b i y i = lN g := fun q r y e => by
      have hR : R_ (F + i) x = 1 := by have := mt eR1.mpr q; omega
      exact ⟨R_ (F + i) x, Or.inl ⟨G_end3 (by omega) hn1 hx hR (eg0.mp r) hg, hR⟩, by rw [upL_same, e]⟩
    have G3 : ¬ (1 : Int64) < lN (R_ (F + i) x) → ¬ lN g = (0 : Int64) → ∃ g, GP_ (F + i) g ∧ b i = lN g := fun q r => by
      have hR : R_ (F + i) x = 1 := by have := mt eR1.mpr q; omega
      exact ⟨g, G_end2 hn1 hx hR (fun z => r (eg0.mpr z)) hg, hbg⟩
    exact ⟨vi, fun q => ⟨vi, fun y1 ey1 => ⟨vi, vi, fun z => ⟨vi, fun y2 ey2 => ⟨vi, fun x1 e1 => nxt x1 _ _ e1 (L1 q y1 ey1) (G1 z y2 ey2) (fun j hj => upL_ne hj) (fun j hj => upL_ne hj)⟩⟩, fun z => ⟨vi, fun w => ⟨vi, fun y2 ey2 => ⟨vi, fun x1 e1 => nxt x1 _ _ e1 (L1 q y1 ey1) (G2 z w y2 ey2) (fun j hj => upL_ne hj) (fun j hj => upL_ne hj)⟩⟩, fun w x1 e1 => nxt x1 _ _ e1 (L1 q y1 ey1) (G3 z w) (fun j hj => upL_ne hj) (fun _ _ => rfl)⟩⟩⟩, fun q => ⟨vi, fun z => ⟨vi, fun y2 ey2 => ⟨vi, fun x1 e1 => nxt x1 _ _ e1 (L2 q) (G1 z y2 ey2) (fun _ _ => rfl) (fun j hj => upL_ne hj)⟩⟩, fun z => ⟨vi, fun w => ⟨vi, fun y2 ey2 => ⟨vi, fun x1 e1 => nxt x1 _ _ e1 (L2 q) (G2 z w y2 ey2) (fun _ _ => rfl) (fun j hj => upL_ne hj)⟩⟩, fun w x1 e1 => nxt x1 _ _ e1 (L2 q) (G3 z w) (fun _ _ => rfl) (fun _ _ => rfl)⟩⟩⟩
theorem s_sieve {f : Nat → Int32} {tm : Int32} (ht : tab_ f tm) {F m : Nat} (hF : 1 ≤ F) (h1m : 1 ≤ m) (hm : m ≤ 5000) (hFm : F + m ≤ 10000000001) {lv gv rv wv : Nat → Int64} {fr : Int64} {mn pc gp tw sf : Int32} {Q : Int64 → Int32 → Int32 → Int32 → Int32 → Int32 → (Nat → Int64) → (Nat → Int64) → (Nat → Int64) → (Nat → Int64) → Prop} (h : ∀ lv' gv' rv' wv', (∀ j, j < m → ∃ a, LP_ (F + j) a ∧ lv' j = lN a) → (∀ j, j < m → ∃ g, GP_ (F + j) g ∧ gv' j = lN g) → Q (lN F) (nI m) (nI (cntQ (fun i => isP (F + i)) m)) (nI (gapP (fun i => isP (F + i)) m)) (nI (cntQ (fun i => isP (F + i) ∧ i + 2 < m ∧ isP (F + (i + 2))) m)) (nI (cntQ (fun i => ¬ SQ_ (F + i)) m)) lv' gv' rv' wv') : wp_X6_sieve lv gv rv wv fr mn pc gp tw sf f tm (lN F) (nI m) Q := by
  have hb := NP_le
  unfold wp_X6_sieve
  intro y1 e1
  have ey : y1 = nI m := by
    have a1 : ¬ (5000 : Int32) < nI m := fun q => by
      have := (nI_ltI (a := 5000) (b := m) (by omega) (by omega)).mp q
      omega
    have a2 : (0 : Int32) < nI m := (nI_ltI (a := 0) (b := m) (by omega) (by omega)).mpr h1m
    rw [e1, if_neg a1, if_pos a2]
  clear e1
  subst ey
  refine s_wipe (by omega) (fun w0 hw0 => ?_)
  refine ⟨fun y a b d => ∃ i, i ≤ m ∧ y = nI i ∧ ∀ j, j < i → a j = 0 ∧ b j = 0 ∧ d j = lN (F + j), fun y _ _ _ => (6000 - y.toInt).toNat, ⟨0, Nat.zero_le _, rfl, fun j hj => absurd hj (Nat.not_lt_zero j)⟩, ?_⟩
  rintro y a b d ⟨i, hi, rfl, hz⟩
  refine ⟨fun c x5 e5 => ?_, fun c => ?_⟩
  · have c' := (nI_leI (by omega) (by omega)).mp c
    have him : i = m := by omega
    subst him
    rw [nI_l (by omega), lN_add, show (1 : Int64) = lN 1 from rfl, lN_sub (by omega)] at e5
    subst e5
    have fin : ∀ (x : Nat) (a b d e : Nat → Int64), x ≤ NP_ → (∀ j, j < i → Sp_ (F + j) x) → (∀ j, j < i → St_ F x j a b d e) → (∀ k, i ≤ k → k < 5056 → ¬ mk_ e k) → wp_X6_takeRests a b d (nI i) (fun o_8 o_9 => wp_X6_measure o_8 e (lN F) (nI i) pc gp tw sf (fun o_10 o_11 o_12 o_13 => Q (lN F) (nI i) o_10 o_11 o_12 o_13 o_8 o_9 d e)) := by
      intro x a b d e hx hsp hst hmk
      refine s_takeR hF hm hFm hx hsp hst (fun lv' gv' hl hg => ?_)
      refine s_measure hF hm hFm hl (fun k hk => ?_) (h lv' gv' d e hl hg)
      rcases Nat.lt_or_ge k i with q | q
      · rw [(hst k q).2.2.2, S_end (by omega) hx (Sp_R (by omega) (by omega) hx (hsp k q))]
        exact ⟨fun z => ⟨q, z⟩, fun z => z.2⟩
      · exact ⟨fun z => absurd z (hmk k q hk), fun z => absurd z.1 (by omega)⟩
    refine ⟨fun y a b d e => ∃ x, x ≤ NP_ ∧ y = nI x ∧ (∀ j, j < i → St_ F x j a b d e) ∧ (∀ k, i ≤ k → k < 5056 → ¬ mk_ e k), fun y _ _ _ _ => (10000 - y.toInt).toNat, ⟨0, Nat.zero_le _, rfl, fun j hj => ?_, fun k _ hk => hw0 k (by omega)⟩, ?_⟩
    · obtain ⟨z1, z2, z3⟩ := hz j hj
      exact ⟨⟨0, L_0 0 _, z1⟩, ⟨0, G_0 0 _, z2⟩, z3, ⟨fun q => absurd q (hw0 j (by omega)), fun q => absurd q (S_0 _)⟩⟩
    · rintro y a b d e ⟨x, hx, rfl, hst, hmk⟩
      refine ⟨fun c => fin x a b d e hx (fun j hj => Or.inl ?_) hst hmk, fun c => ?_⟩
      · rw [ht.1] at c
        have := (nI_leI (by omega) (by omega)).mp c
        omega
      · rw [ht.1] at c
        have c' := mt (nI_leI (a := NP_) (b := x) (by omega) (by omega)).mpr c
        refine s_nth ht (by omega) (fun p hp hp1 hpx x8 e8 => ?_)
        have hp2 := hp.1
        have hpp := Nat.mul_le_mul hp1 hp1
        rw [nI_l (by omega)] at e8
        subst e8
        rw [lN_mul]
        refine ⟨fun q => ?_, fun _ => ⟨fun q => ?_, fun q => fin x a b d e hx (fun j hj => Or.inr ⟨p, hp, hp1, hpx, ?_⟩) hst hmk⟩⟩
        · have := (pk_lLT (a := p) (b := 2) (by omega) (by omega)).mp q
          omega
        · refine s_divAll hF hm hFm hp hp1 (by omega) hpx hst hmk (fun a' b' d' e' hst' hmk' x7 e7 => ?_)
          rw [show nI x + (1 : Int32) = nI (x + 1) from nI_1 x] at e7
          subst e7
          exact ⟨⟨x + 1, by omega, rfl, hst', hmk'⟩, meas10k (by omega)⟩
        · have q' := mt (pk_lLE (a := p * p) (b := F + i - 1) (by omega) (by omega)).mpr q
          have := R_le (n := F + j) (by omega) hx
          omega
  · have c' := mt (nI_leI (a := m) (b := i) (by omega) (by omega)).mpr c
    have vi : vp_in (nI i) 5000 := vp_in_nI (by omega) (by omega)
    rw [nI_clamp (by omega), show nI i + (1 : Int32) = nI (i + 1) from nI_1 i, nI_l (by omega), lN_add]
    refine ⟨vi, vi, fun y37 e37 => ⟨vi, fun x5 e5 => ?_⟩⟩
    subst e37 e5
    refine ⟨⟨i + 1, by omega, rfl, fun j hj => ?_⟩, meas6 (by omega)⟩
    by_cases q : j = i
    · subst q
      exact ⟨upL_same, upL_same, upL_same⟩
    · rw [upL_ne q, upL_ne q, upL_ne q]
      exact hz j (by omega)
/-! the reference's span -/
theorem nar0 : vp_nar .boolean (0 : Int32) = 0 := by decide
theorem s_span9 {f : Nat → Int32} {tm : Int32} (ht : tab_ f tm) {F m : Nat} (hF : 1 ≤ F) (h1m : 1 ≤ m) (hm : m ≤ 5000) (hFm : F + m ≤ 10000000001) {hs : Int32} {fr : Int64} {mn : Int32} {le ge : Nat → Int64} {sq : Nat → Int32} {pm : Int32} {pp : Nat → Int64} {pw : Nat → Int32} {fl fg : Int64} {fs : Int32} {Q : Int32 → Int32 → Int64 → Int32 → Int32 → Int64 → Int64 → Int32 → (Nat → Int64) → (Nat → Int64) → (Nat → Int32) → (Nat → Int64) → (Nat → Int32) → Prop} (h : ∀ fl fg fs le' ge' sq', (∀ j, j < m → ∃ a, LP_ (F + j) a ∧ le' j = lN a) → (∀ j, j < m → ∃ g, GP_ (F + j) g ∧ ge' j = lN g) → (∀ j, j < m → (sq' j = 1 ∧ SQ_ (F + j)) ∨ (sq' j = 0 ∧ ¬ SQ_ (F + j))) → Q (nI (cntQ (fun i => isP (F + i)) m)) 1 (lN F) (nI m) pm fl fg fs le' ge' sq' pp pw) : wp_X9_span tm f hs fr mn le ge sq pm pp pw fl fg fs (lN F) (nI m) Q := by
  unfold wp_X9_span
  have em := tn (n := m) (by omega)
  refine s_in (fun _ _ => ⟨fun c => absurd c (by decide), fun _ => ?_⟩) (fun a => ?_)
  rotate_left
  · rw [i2l_t, em] at a
    have a' : (m : Int) < 1 ∨ (5000 : Int) < (m : Int) := a
    omega
  refine s_in10 hF (by omega) ⟨fun c => absurd c (by decide), fun _ => ⟨fun _ => ?_, fun c => ?_⟩⟩
  rotate_left
  · exfalso
    apply c
    rw [nI_l (by omega), lN_add, show (1 : Int64) = lN 1 from rfl, lN_sub (by omega)]
    exact (pk_lLE (a := F + m - 1) (b := 10000000000) (by omega) (by omega)).mpr (by omega)
  refine ⟨fun y c1 c2 c3 c4 a b d p w => ∃ i, i ≤ m ∧ y = nI i ∧ c1 = pm ∧ p = pp ∧ w = pw ∧ (∀ j, j < i → ∃ l, LP_ (F + j) l ∧ a j = lN l) ∧ (∀ j, j < i → ∃ g, GP_ (F + j) g ∧ b j = lN g) ∧ (∀ j, j < i → (d j = 1 ∧ SQ_ (F + j)) ∨ (d j = 0 ∧ ¬ SQ_ (F + j))), fun y _ _ _ _ _ _ _ _ _ => (6000 - y.toInt).toNat, ⟨0, Nat.zero_le _, rfl, rfl, rfl, rfl, fun j hj => absurd hj (Nat.not_lt_zero j), fun j hj => absurd hj (Nat.not_lt_zero j), fun j hj => absurd hj (Nat.not_lt_zero j)⟩, ?_⟩
  rintro y c1 c2 c3 c4 a b d p w ⟨i, hi, rfl, rfl, rfl, rfl, s1, s2, s3⟩
  refine ⟨fun c => ?_, fun c => ?_⟩
  · have c' := (nI_leI (by omega) (by omega)).mp c
    have him : i = m := by omega
    subst him
    exact s_spanned9 hF hm hFm s1 s3 (fun _ => h c2 c3 c4 a b d s1 s2 s3) (fun q => absurd q (by decide)) (fun q => absurd q (by decide)) (fun q => absurd q (by decide)) (fun q => absurd q (by decide)) (fun q => absurd rfl q)
  · have c' := mt (nI_leI (a := m) (b := i) (by omega) (by omega)).mpr c
    have vi : vp_in (nI i) 5000 := vp_in_nI (by omega) (by omega)
    rw [nI_clamp (by omega), show nI i + (1 : Int32) = nI (i + 1) from nI_1 i, nI_l (by omega), lN_add]
    refine s_parts9 ht (by omega) (by omega) (fun _ l g s hl hg hs' => ⟨vi, vi, vi, fun x4 e4 => ?_⟩) (fun q => absurd rfl q)
    subst e4
    refine ⟨⟨i + 1, by omega, rfl, rfl, rfl, rfl, fun j hj => ?_, fun j hj => ?_, fun j hj => ?_⟩, meas6 (by omega)⟩
    · by_cases q : j = i
      · subst q; exact ⟨l, hl, upL_same⟩
      · rw [upL_ne q]; exact s1 j (by omega)
    · by_cases q : j = i
      · subst q; exact ⟨g, hg, upL_same⟩
      · rw [upL_ne q]; exact s2 j (by omega)
    · by_cases q : j = i
      · subst q
        rw [up_s]
        rcases hs' with ⟨r1, r2⟩ | ⟨r1, r2⟩
        · exact Or.inl ⟨by rw [r1, nar1], r2⟩
        · exact Or.inr ⟨by rw [r1, nar0], r2⟩
      · rw [up_n q]; exact s3 j (by omega)
theorem sv_cases (p1 : Int64) (p2 : Int32) : (p2.toInt < 1 ∨ 5000 < p2.toInt ∨ p1.toInt < 1 ∨ 10000000001 < p1.toInt + p2.toInt) ∨ ∃ F m : Nat, 1 ≤ F ∧ 1 ≤ m ∧ m ≤ 5000 ∧ F + m ≤ 10000000001 ∧ p1 = lN F ∧ p2 = nI m := by
  by_cases q : p2.toInt < 1 ∨ 5000 < p2.toInt ∨ p1.toInt < 1 ∨ 10000000001 < p1.toInt + p2.toInt
  · exact Or.inl q
  · obtain ⟨F, a, b, c⟩ := l_nat (a := p1) (by omega)
    obtain ⟨m, d, e, g⟩ := i_nat (a := p2) (by omega)
    exact Or.inr ⟨F, m, by omega, by omega, by omega, by omega, b, e⟩
theorem s_span9N {f : Nat → Int32} {tm : Int32} {hs : Int32} {fr : Int64} {mn : Int32} {le ge : Nat → Int64} {sq : Nat → Int32} {pm : Int32} {pp : Nat → Int64} {pw : Nat → Int32} {fl fg : Int64} {fs : Int32} {p1 : Int64} {p2 : Int32} (hq : p2.toInt < 1 ∨ 5000 < p2.toInt ∨ p1.toInt < 1 ∨ 10000000001 < p1.toInt + p2.toInt) {Q : Int32 → Int32 → Int64 → Int32 → Int32 → Int64 → Int64 → Int32 → (Nat → Int64) → (Nat → Int64) → (Nat → Int32) → (Nat → Int64) → (Nat → Int32) → Prop} (h : Q (-1) hs fr mn pm fl fg fs le ge sq pp pw) : wp_X9_span tm f hs fr mn le ge sq pm pp pw fl fg fs p1 p2 Q := by
  unfold wp_X9_span
  refine s_in (fun a b => ⟨fun c => absurd c (by decide), fun _ => ?_⟩) (fun _ => ⟨fun _ => h, fun c => absurd rfl c⟩)
  refine s_in (fun a2 b2 => ⟨fun c => absurd c (by decide), fun _ => ⟨fun c => ?_, fun _ => h⟩⟩) (fun _ => ⟨fun _ => h, fun c => absurd rfl c⟩)
  exfalso
  rw [i2l_t] at a b
  have a' : (1 : Int) ≤ p2.toInt := a
  have b' : p2.toInt ≤ (5000 : Int) := b
  have a2' : (1 : Int) ≤ p1.toInt := a2
  have b2' : p1.toInt ≤ (10000000000 : Int) := b2
  obtain ⟨F, x1, x2, x3⟩ := l_nat (a := p1) (by omega)
  obtain ⟨m, y1, y2, y3⟩ := i_nat (a := p2) (by omega)
  rw [x2, y2, nI_l (by omega), lN_add, show (1 : Int64) = lN 1 from rfl, lN_sub (by omega)] at c
  have c' := (pk_lLE (a := F + m - 1) (b := 10000000000) (by omega) (by omega)).mp c
  omega
theorem spN {p1 : Int64} {p2 : Int32} (hq : p2.toInt < 1 ∨ 5000 < p2.toInt ∨ p1.toInt < 1 ∨ 10000000001 < p1.toInt + p2.toInt) {N Y : Prop} (hN : N) : ((p2 < (1 : Int32) → N) ∧ (¬ p2 < (1 : Int32) → (((5000 : Int32) < p2 → N) ∧ (¬ (5000 : Int32) < p2 → ((p1 < (1 : Int64) → N) ∧ (¬ p1 < (1 : Int64) → ((p1 ≤ (((10000000000 : Int64) - p2.toInt64) + (1 : Int64)) → Y) ∧ (¬ p1 ≤ (((10000000000 : Int64) - p2.toInt64) + (1 : Int64)) → N)))))))) := by
  refine ⟨fun _ => hN, fun c1 => ⟨fun _ => hN, fun c2 => ⟨fun _ => hN, fun c3 => ⟨fun c4 => ?_, fun _ => hN⟩⟩⟩⟩
  exfalso
  have d1 : ¬ p2.toInt < 1 := fun q => c1 (ilt.mpr q)
  have d2 : ¬ (5000 : Int) < p2.toInt := fun q => c2 (ilt.mpr q)
  have d3 : ¬ p1.toInt < 1 := fun q => c3 (llt.mpr q)
  obtain ⟨F, x1, x2, x3⟩ := l_nat (a := p1) (by omega)
  obtain ⟨m, y1, y2, y3⟩ := i_nat (a := p2) (by omega)
  rw [x2, y2, nI_l (by omega), show (10000000000 : Int64) = lN 10000000000 from rfl, lN_sub (by omega), lN_1] at c4
  have c' := (pk_lLE (a := F) (b := 10000000000 - m + 1) (by omega) (by omega)).mp c4
  omega
theorem spY {F m : Nat} (hF : 1 ≤ F) (h1m : 1 ≤ m) (hm : m ≤ 5000) (hFm : F + m ≤ 10000000001) {N Y : Prop} (hY : Y) : ((nI m < (1 : Int32) → N) ∧ (¬ nI m < (1 : Int32) → (((5000 : Int32) < nI m → N) ∧ (¬ (5000 : Int32) < nI m → ((lN F < (1 : Int64) → N) ∧ (¬ lN F < (1 : Int64) → ((lN F ≤ (((10000000000 : Int64) - (nI m).toInt64) + (1 : Int64)) → Y) ∧ (¬ lN F ≤ (((10000000000 : Int64) - (nI m).toInt64) + (1 : Int64)) → N)))))))) := by
  refine ⟨fun c => ?_, fun _ => ⟨fun c => ?_, fun _ => ⟨fun c => ?_, fun _ => ⟨fun _ => hY, fun c => ?_⟩⟩⟩⟩
  · have := (nI_ltI (a := m) (b := 1) (by omega) (by omega)).mp c
    omega
  · have := (nI_ltI (a := 5000) (b := m) (by omega) (by omega)).mp c
    omega
  · have := (pk_lLT (a := F) (b := 1) (by omega) (by omega)).mp c
    omega
  · exfalso
    apply c
    rw [nI_l (by omega), show (10000000000 : Int64) = lN 10000000000 from rfl, lN_sub (by omega), lN_1]
    exact (pk_lLE (a := F) (b := 10000000000 - m + 1) (by omega) (by omega)).mpr (by omega)
theorem RS_mk {F m : Nat} (hF : 1 ≤ F) (h1m : 1 ≤ m) (hm : m ≤ 5000) (hFm : F + m ≤ 10000000001) {lv gv rv wv le ge : Nat → Int64} {sq : Nat → Int32} (a : ∀ j, j < m → ∃ a, LP_ (F + j) a ∧ lv j = lN a) (b : ∀ j, j < m → ∃ g, GP_ (F + j) g ∧ gv j = lN g) (a' : ∀ j, j < m → ∃ a, LP_ (F + j) a ∧ le j = lN a) (b' : ∀ j, j < m → ∃ g, GP_ (F + j) g ∧ ge j = lN g) (c : ∀ j, j < m → (sq j = 1 ∧ SQ_ (F + j)) ∨ (sq j = 0 ∧ ¬ SQ_ (F + j))) : RS_ (some (lv, gv, rv, wv, lN F, nI m, nI (cntQ (fun i => isP (F + i)) m), nI (gapP (fun i => isP (F + i)) m), nI (cntQ (fun i => isP (F + i) ∧ i + 2 < m ∧ isP (F + (i + 2))) m), nI (cntQ (fun i => ¬ SQ_ (F + i)) m))) 1 (lN F) (nI m) le ge sq := by
  refine ⟨rfl, F, m, hF, h1m, hm, hFm, rfl, rfl, rfl, rfl, fun i hi => ?_, fun i hi => ?_, c, rfl, rfl, rfl, rfl⟩
  · obtain ⟨x, x1, x2⟩ := a i hi
    obtain ⟨y, y1, y2⟩ := a' i hi
    exact ⟨x, x1, x2, by rw [y2, LP_uq y1 x1]⟩
  · obtain ⟨x, x1, x2⟩ := b i hi
    obtain ⟨y, y1, y2⟩ := b' i hi
    exact ⟨x, x1, x2, by rw [y2, GP_uq y1 x1]⟩
theorem cc_S {oP : Option CP_} {w w' : CS_} {oT : Option CT_} {oU : Option CU_} {oG : Option CG_} {oR : Option CR_} : cc_ (oP, some w, oT, oU, oG, oR) + 0 ≤ cc_ (oP, some w', oT, oU, oG, oR) := Nat.le_of_eq (Nat.add_zero _)
theorem cs_S {oP : Option CP_} {w w' : CS_} {oT : Option CT_} {oU : Option CU_} {oG : Option CG_} {oR : Option CR_} : cs_ (oP, some w, oT, oU, oG, oR) + 0 ≤ cs_ (oP, some w', oT, oU, oG, oR) := Nat.le_of_eq (Nat.add_zero _)
theorem cc_SN {oP : Option CP_} {w : CS_} {oT : Option CT_} {oU : Option CU_} {oG : Option CG_} {oR : Option CR_} : cc_ (oP, none, oT, oU, oG, oR) + 6 ≤ cc_ (oP, some w, oT, oU, oG, oR) := by
  unfold cc_
  dsimp only
  omega
theorem cs_SN {oP : Option CP_} {w : CS_} {oT : Option CT_} {oU : Option CU_} {oG : Option CG_} {oR : Option CR_} : cs_ (oP, none, oT, oU, oG, oR) + 15090 ≤ cs_ (oP, some w, oT, oU, oG, oR) := by
  unfold cs_
  dsimp only
  omega
theorem cc_PS {v : CP_} {w w' : CS_} {oT : Option CT_} {oU : Option CU_} {oG : Option CG_} {oR : Option CR_} : cc_ (none, some w, oT, oU, oG, oR) + 4 ≤ cc_ (some v, some w', oT, oU, oG, oR) := by
  unfold cc_
  dsimp only
  omega
theorem cs_PS {v : CP_} {w w' : CS_} {oT : Option CT_} {oU : Option CU_} {oG : Option CG_} {oR : Option CR_} : cs_ (none, some w, oT, oU, oG, oR) + 11158 ≤ cs_ (some v, some w', oT, oU, oG, oR) := by
  unfold cs_
  dsimp only
  omega
theorem cc_PSN {v : CP_} {w : CS_} {oT : Option CT_} {oU : Option CU_} {oG : Option CG_} {oR : Option CR_} : cc_ (none, none, oT, oU, oG, oR) + 10 ≤ cc_ (some v, some w, oT, oU, oG, oR) := by
  unfold cc_
  dsimp only
  omega
theorem cs_PSN {v : CP_} {w : CS_} {oT : Option CT_} {oU : Option CU_} {oG : Option CG_} {oR : Option CR_} : cs_ (none, none, oT, oU, oG, oR) + 26248 ≤ cs_ (some v, some w, oT, oU, oG, oR) := by
  unfold cs_
  dsimp only
  omega
theorem s_init6 {Q : (Nat → Int64) → (Nat → Int64) → (Nat → Int64) → (Nat → Int64) → Int64 → Int32 → Int32 → Int32 → Int32 → Int32 → Prop} (h : Q (fun _ => 0) (fun _ => 0) (fun _ => 0) (fun _ => 0) (1 : Int64) (0 : Int32) (0 : Int32) (0 : Int32) (0 : Int32) (0 : Int32)) : wp_X6_init Q := by
  unfold wp_X6_init wp_X0_init
  exact ⟨fun _ => ⟨by decide, by decide, by decide, h⟩, fun c => absurd (by decide) c⟩
theorem t_span : st_span Inv_ := by
  rintro ⟨oP, oS, oT, oU, oG, oR⟩ ⟨m0, m1, m2, m3, m4, m5, m6, m7, m8, m9, m10, m11, m12, m13, m14, m15, m16, m17, m18⟩ p1 p2 hI
  obtain ⟨iP, iT, iN, iS, iQ, iR⟩ := id hI
  rcases sv_cases p1 p2 with hq | ⟨F, m, hF, h1m, hm, hFm, rfl, rfl⟩
  · refine ⟨0, 0, by omega, by omega, ?_⟩
    unfold wpx_span
    rcases oP with _ | ⟨tb, mn⟩ <;> rcases oS with _ | ⟨lv, gv, rv, wv, fr, mn', pc, gp, tw, sf⟩ <;> dsimp only
    · exact spN hq ⟨le00, le00, s_span9N hq ⟨rfl, hI⟩⟩
    · exact spN hq ⟨le00, le00, s_span9N hq ⟨rfl, hI⟩⟩
    · exact spN hq ⟨le00, le00, s_span9N hq ⟨rfl, hI⟩⟩
    · exact ⟨rfl, rfl, spN hq ⟨le00, le00, s_span9N hq ⟨rfl, hI⟩⟩⟩
  · rcases oP with _ | ⟨tb, mn⟩ <;> rcases oS with _ | ⟨lv, gv, rv, wv, fr, mn', pc, gp, tw, sf⟩
    · refine ⟨10, 26248, by omega, by omega, ?_⟩
      unfold wpx_span
      dsimp only
      unfold wp_X8_span_c00 wp_X8_knownPrimes_c0
      refine spY hF h1m hm hFm ⟨by omega, by omega, by omega, by omega, s_init6 ⟨by omega, by omega, ?_⟩⟩
      exact s_init3 (fun f tm hf => s_sieve hf hF h1m hm hFm (fun lv' gv' rv' wv' a b => ⟨cc_PSN, cs_PSN, s_span9 iT hF h1m hm hFm (fun fl fg fs le' ge' sq' a' b' c => ⟨rfl, hf, iT, iN, RS_mk hF h1m hm hFm a b a' b' c, iQ, iR⟩)⟩))
    · refine ⟨4, 11158, by omega, by omega, ?_⟩
      unfold wpx_span
      dsimp only
      unfold wp_X8_span_c01 wp_X8_knownPrimes_c0
      refine spY hF h1m hm hFm ⟨by omega, by omega, ?_⟩
      exact s_init3 (fun f tm hf => s_sieve hf hF h1m hm hFm (fun lv' gv' rv' wv' a b => ⟨cc_PS, cs_PS, s_span9 iT hF h1m hm hFm (fun fl fg fs le' ge' sq' a' b' c => ⟨rfl, hf, iT, iN, RS_mk hF h1m hm hFm a b a' b' c, iQ, iR⟩)⟩))
    · refine ⟨6, 15090, by omega, by omega, ?_⟩
      unfold wpx_span
      dsimp only
      unfold wp_X8_span_c10 wp_X8_knownPrimes_c1
      refine spY hF h1m hm hFm ⟨by omega, by omega, by omega, by omega, s_init6 ?_⟩
      exact s_sieve iP hF h1m hm hFm (fun lv' gv' rv' wv' a b => ⟨cc_SN, cs_SN, s_span9 iT hF h1m hm hFm (fun fl fg fs le' ge' sq' a' b' c => ⟨rfl, iP, iT, iN, RS_mk hF h1m hm hFm a b a' b' c, iQ, iR⟩)⟩)
    · refine ⟨0, 0, by omega, by omega, ?_⟩
      unfold wpx_span
      dsimp only
      refine ⟨rfl, rfl, ?_⟩
      unfold wp_X8_span_c11 wp_X8_knownPrimes_c1
      refine spY hF h1m hm hFm ?_
      exact s_sieve iP hF h1m hm hFm (fun lv' gv' rv' wv' a b => ⟨cc_S, cs_S, s_span9 iT hF h1m hm hFm (fun fl fg fs le' ge' sq' a' b' c => ⟨rfl, iP, iT, iN, RS_mk hF h1m hm hFm a b a' b' c, iQ, iR⟩)⟩)

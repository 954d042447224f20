/-! TURNED BACK -/
def tv_ (A w : Nat → Int64) (n d : Nat) : Int64 := if n % d = 0 then A (n / d) * w d else 0
/-- the row that is turned back: by its own lesser numbers -/
def tr_ (A w : Nat → Int64) (f : Int64) (n : Nat) : Prop := w n = if n = 1 then f else (-(sm_ (tv_ A w n) (n - 1))) * f
theorem tr_uq {A A' w w' : Nat → Int64} {f : Int64} (hA : ∀ j, 1 ≤ j → j ≤ 600 → A j = A' j) (h : ∀ n, 1 ≤ n → n ≤ 600 → tr_ A w f n) (h' : ∀ n, 1 ≤ n → n ≤ 600 → tr_ A' w' f n) : ∀ n, 1 ≤ n → n ≤ 600 → w n = w' n := by
  intro n
  induction n using Nat.strongRecOn with
  | ind n ih =>
    intro h1 h2
    rw [show w n = _ from h n h1 h2, show w' n = _ from h' n h1 h2]
    by_cases q : n = 1
    · rw [if_pos q, if_pos q]
    · rw [if_neg q, if_neg q]
      have e : sm_ (tv_ A w n) (n - 1) = sm_ (tv_ A' w' n) (n - 1) := by
        refine sm_eq (n - 1) (fun j a b => ?_)
        unfold tv_
        by_cases z : n % j = 0
        · have z1 := Nat.div_le_self n j
          have z2 : 1 ≤ n / j := (Nat.le_div_iff_mul_le (by omega)).mpr (by omega)
          rw [if_pos z, if_pos z, hA _ z2 (by omega), ih j (by omega) a (by omega)]
        · rw [if_neg z, if_neg z]
      rw [e]
theorem tr_cg {A F G : Nat → Int64} {f : Int64} {m : Nat} (h : ∀ j, 1 ≤ j → j ≤ m → G j = F j) (h1 : 1 ≤ m) (hF : tr_ A F f m) : tr_ A G f m := by
  show G m = _
  rw [h m h1 (Nat.le_refl m), show F m = _ from hF]
  by_cases q : m = 1
  · rw [if_pos q, if_pos q]
  · have e : sm_ (tv_ A F m) (m - 1) = sm_ (tv_ A G m) (m - 1) := by
      refine sm_eq (m - 1) (fun j a b => ?_)
      unfold tv_
      rw [h j a (by omega)]
    rw [if_neg q, if_neg q, e]
theorem s_fillTurn {v : Nat → Int64} {k a : Nat} (hk : k < 16) (ha : a < k) (hz : ∀ n, 1 ≤ n → n ≤ 600 → v (600 * k + n - 1) = 0) {Q : (Nat → Int64) → Prop} (h : ∀ v' w, rw_ v v' k w → (∀ n, 1 ≤ n → n ≤ 600 → tr_ (fun j => v (600 * a + j - 1)) w (v (600 * a + 1 - 1)) n) → Q v') : wp_X5_fillTurned v (nI k) (nI a) Q := by
  unfold wp_X5_fillTurned
  refine s_look (n := 1) (by omega) (by omega) (by omega) ?_
  refine s_put (n := 1) hk (by omega) (by omega) ?_
  generalize hA : (fun j => v (600 * a + j - 1)) = A at h
  have eA : ∀ j, A j = v (600 * a + j - 1) := fun j => by rw [← hA]
  generalize hf : v (600 * a + 1 - 1) = fst at h
  refine ⟨fun x f => ∃ n : Nat, n ≤ 600 ∧ x = nI (n + 1) ∧ (∀ m, 1 ≤ m → m ≤ n → tr_ A (fun j => f (600 * k + j - 1)) fst m) ∧ (∀ m, n < m → m ≤ 600 → f (600 * k + m - 1) = if m = 1 then -1 else sm_ (tv_ A (fun j => f (600 * k + j - 1)) m) n) ∧ ∀ i, (i < 600 * k ∨ 600 * k + 600 ≤ i) → f i = v i, fun x _ => (700 - x.toInt).toNat, ⟨0, by omega, rfl, fun m a b => absurd b (by omega), fun m a b => ?_, fun i hi => ?_⟩, ?_⟩
  · by_cases q : m = 1
    · rw [if_pos q, q, upL_same]
    · rw [if_neg q, upL_ne (by omega), hz m a b]; rfl
  · exact upL_ne (by omega)
  rintro x f ⟨n, hn, rfl, h1, h2, h3⟩
  have en := tn (n := n + 1) (by omega)
  refine ⟨fun c => ?_, fun c => ?_⟩
  · have c' : (600 : Int) < (nI (n + 1)).toInt := ilt.mp c
    have : n = 600 := by omega
    subst this
    exact h f (fun j => f (600 * k + j - 1)) ⟨fun m _ _ => rfl, h3⟩ h1
  · have c' : ¬ (600 : Int) < (nI (n + 1)).toInt := fun q => c (ilt.mpr q)
    refine s_look hk (by omega) (by omega) (fun own ho => ?_)
    refine s_put hk (by omega) (by omega) ?_
    have h2N := h2 (n + 1) (by omega) (by omega)
    refine ⟨fun x g => ∃ e : Nat, 1 ≤ e ∧ e ≤ 600 ∧ x = nI (e + 1) ∧ (∀ m, 1 ≤ m → m ≤ n → g (600 * k + m - 1) = f (600 * k + m - 1)) ∧ g (600 * k + (n + 1) - 1) = own ∧ (∀ m, n + 1 < m → m ≤ 600 → g (600 * k + m - 1) = f (600 * k + m - 1) + (if m % (n + 1) = 0 ∧ m / (n + 1) ≤ e then own * A (m / (n + 1)) else 0)) ∧ ∀ i, (i < 600 * k ∨ 600 * k + 600 ≤ i) → g i = v i, fun x _ => (700 - x.toInt).toNat, ⟨1, by omega, by omega, rfl, fun m a b => upL_ne (by omega), upL_same, fun m a b => ?_, fun i hi => ?_⟩, ?_⟩
    · rw [upL_ne (by omega), if_neg, Int64.add_zero]
      rintro ⟨q1, q2⟩
      have := Nat.div_add_mod m (n + 1)
      have q3 := Nat.mul_le_mul_left (n + 1) q2
      omega
    · rw [upL_ne (by omega)]; exact h3 i hi
    · rintro x g ⟨e, he1, he, rfl, g1, g2, g3, g4⟩
      have hq600 := Nat.div_le_self 600 (n + 1)
      have hdiv : (600 : Int32) / nI (n + 1) = nI (600 / (n + 1)) := by
        rw [show (600 : Int32) = nI 600 from rfl, pk_div (by omega) (by omega) (by omega)]
      refine ⟨nI_ne0 (by omega) (by omega), ?_⟩
      rw [hdiv]
      refine ⟨fun c2 x5 e5 => ?_, fun c2 => ?_⟩
      · have c2' := (nI_ltI (by omega) (by omega)).mp c2
        rw [show nI (n + 1) + (1 : Int32) = nI (n + 1 + 1) from nI_1 (n + 1)] at e5
        subst e5
        have hS : ∀ m, sm_ (tv_ A (fun j => g (600 * k + j - 1)) m) n = sm_ (tv_ A (fun j => f (600 * k + j - 1)) m) n := fun m => sm_eq n (fun j a b => by
          show (if m % j = 0 then A (m / j) * g (600 * k + j - 1) else 0) = (if m % j = 0 then A (m / j) * f (600 * k + j - 1) else 0)
          rw [g1 j a b])
        refine ⟨⟨n + 1, by omega, rfl, fun m m1 m2 => ?_, fun m m1 m2 => ?_, g4⟩, meas7 (by omega)⟩
        · by_cases q : m = n + 1
          · subst q
            show g (600 * k + (n + 1) - 1) = if n + 1 = 1 then fst else (-(sm_ (tv_ A (fun j => g (600 * k + j - 1)) (n + 1)) n)) * fst
            rw [g2, hS, ho, h2N]
            by_cases z : n + 1 = 1
            · rw [if_pos z, if_pos z, Int64.neg_mul, Int64.mul_neg, Int64.neg_neg, Int64.mul_one]
            · rw [if_neg z, if_neg z, Int64.neg_mul, Int64.neg_mul, Int64.mul_comm]
          · exact tr_cg (fun j a b => g1 j a (by omega)) m1 (h1 m m1 (by omega))
        · rw [g3 m m1 m2, h2 m (by omega) m2, if_neg (show ¬ m = 1 by omega), if_neg (show ¬ m = 1 by omega)]
          show _ = sm_ (tv_ A (fun j => g (600 * k + j - 1)) m) n + (if m % (n + 1) = 0 then A (m / (n + 1)) * g (600 * k + (n + 1) - 1) else 0)
          rw [hS, g2]
          have hle : m / (n + 1) ≤ e := by
            have := Nat.div_le_div_right (c := n + 1) m2
            omega
          by_cases q : m % (n + 1) = 0
          · rw [if_pos ⟨q, hle⟩, if_pos q, Int64.mul_comm]
          · rw [if_neg (fun w => q w.1), if_neg q]
      · have c2' := mt (nI_ltI (a := 600 / (n + 1)) (b := e + 1) (by omega) (by omega)).mpr c2
        have hm0 : (n + 1) * (e + 1) ≤ 600 := by
          have q1 := Nat.mul_le_mul_left (n + 1) (show e + 1 ≤ 600 / (n + 1) by omega)
          have q2 := Nat.mul_div_le 600 (n + 1)
          omega
        have hm1 : n + 1 < (n + 1) * (e + 1) := by
          have := Nat.mul_le_mul_left (n + 1) (show 2 ≤ e + 1 by omega)
          omega
        have he6 : e + 1 ≤ 600 := by omega
        refine s_look (by omega) (by omega) he6 ?_
        rw [g4 _ (by omega), ← eA (e + 1), pk_mul]
        refine s_incr hk (by omega) hm0 (fun x8 e8 => ?_)
        rw [show nI (e + 1) + (1 : Int32) = nI (e + 1 + 1) from nI_1 (e + 1)] at e8
        subst e8
        refine ⟨⟨e + 1, by omega, by omega, rfl, fun m m1 m2 => ?_, ?_, fun m m1 m2 => ?_, fun i hi => ?_⟩, meas7 (by omega)⟩
        · rw [upL_ne (by omega)]; exact g1 m m1 m2
        · rw [upL_ne (by omega)]; exact g2
        · by_cases q : m = (n + 1) * (e + 1)
          · have q1 : m % (n + 1) = 0 := by rw [q]; exact Nat.mul_mod_right _ _
            have q2 : m / (n + 1) = e + 1 := by rw [q]; exact Nat.mul_div_cancel_left _ (by omega)
            rw [← q, upL_same, g3 m m1 m2, if_neg (by omega), if_pos (by omega), q2, Int64.add_zero]
          · rw [upL_ne (by omega), g3 m m1 m2]
            congr 1
            by_cases w : m % (n + 1) = 0 ∧ m / (n + 1) ≤ e
            · rw [if_pos w, if_pos (by omega)]
            · rw [if_neg w, if_neg]
              rintro ⟨w1, w2⟩
              have w3 := Nat.div_add_mod m (n + 1)
              have w4 : m / (n + 1) = e + 1 := by omega
              rw [w1, w4, Nat.add_zero] at w3
              omega
        · rw [upL_ne (by omega)]; exact g4 i hi
theorem s_turn9 {row : Nat → Int64} {k a : Nat} (hk : k ≤ 16) (ha : a < k) {Q : Int32 → Int32 → (Nat → Int64) → Prop} (h0 : row (601 * a + 1) ≠ 1 → row (601 * a + 1) ≠ -1 → Q (-1) (nI k) row) (hf : k = 16 → Q (-1) (nI k) row) (hg : k < 16 → (row (601 * a + 1) = 1 ∨ row (601 * a + 1) = -1) → ∀ row' w, rw9_ row row' k w → (∀ n, 1 ≤ n → n ≤ 600 → tr_ (fun j => row (601 * a + j)) w (row (601 * a + 1)) n) → Q (nI k) (nI (k + 1)) row') : wp_X9_turned (nI k) row (nI a) Q := by
  unfold wp_X9_turned
  refine s_isRow hk (fun r hr e => ⟨fun c => absurd c (by decide), fun _ => ?_⟩) (fun q => absurd rfl (q a ha))
  have ix1 : ((601 : Int32) * nI a) + (1 : Int32) = nI (601 * a + 1) := ix601 (r := a) (n := 1)
  have ixk1 : ((601 : Int32) * nI k) + (1 : Int32) = nI (601 * k + 1) := ix601 (r := k) (n := 1)
  rw [ix1, nI_clamp (by omega)]
  refine ⟨vp_in_nI (by omega) (by omega), fun fst e2 => ?_⟩
  rw [← e2] at h0 hg
  clear e2
  generalize hA : (fun j => row (601 * a + j)) = A at hg
  have eA : ∀ j, A j = row (601 * a + j) := fun j => by rw [← hA]
  refine ⟨fun c1 => ⟨fun c => hf ((k_ne16 hk).mp c), fun c x4 e4 => ?_⟩, fun c1 => ⟨fun c3 => ⟨fun c => hf ((k_ne16 hk).mp c), fun c x4 e4 => ?_⟩, fun c3 => h0 c1 c3⟩⟩
  all_goals
    have hor : fst = 1 ∨ fst = -1 := by first | exact Or.inl c1 | exact Or.inr c3
    have hk2 : k < 16 := by
      have := mt (k_ne16 hk).mpr c
      omega
    replace hg := hg hk2 hor
    subst e4
    rw [ixk1, nI_clamp (by omega)]
    refine ⟨vp_in_nI (by omega) (by omega), fun x f => ∃ n : Nat, 1 ≤ n ∧ n ≤ 600 ∧ x = nI (n + 1) ∧ (∀ m, 1 ≤ m → m ≤ n → tr_ A (fun j => f (601 * k + j)) fst m) ∧ ∀ i, i < 601 * k → f i = row i, fun x _ => (700 - x.toInt).toNat, ⟨1, by omega, by omega, rfl, fun m a b => ?_, fun i hi => upL_ne (by omega)⟩, ?_⟩
    · have : m = 1 := by omega
      subst this
      show vp_updL row (601 * k + 1) fst (601 * k + 1) = if 1 = 1 then fst else _
      rw [if_pos rfl, upL_same]
    · rintro x f ⟨n, hn1, hn, rfl, h1, h2⟩
      have en := tn (n := n + 1) (by omega)
      refine ⟨fun c2 y hy => ?_, fun c2 => ?_⟩
      · have c' : (600 : Int) < (nI (n + 1)).toInt := ilt.mp c2
        rw [show nI k + (1 : Int32) = nI (k + 1) from nI_1 k] at hy
        subst hy
        rw [show nI (k + 1) - (1 : Int32) = nI k from nI_pred k]
        exact hg f (fun j => f (601 * k + j)) ⟨fun _ _ _ => rfl, h2⟩ (fun m m1 m2 => h1 m m1 (by omega))
      · have c' : ¬ (600 : Int) < (nI (n + 1)).toInt := fun q => c2 (ilt.mpr q)
        refine ⟨fun x s => ∃ j : Nat, j ≤ n ∧ x = nI (j + 1) ∧ s = sm_ (tv_ A (fun j => f (601 * k + j)) (n + 1)) j, fun x _ => (700 - x.toInt).toNat, ⟨0, by omega, rfl, rfl⟩, ?_⟩
        rintro x s ⟨j, hj, rfl, rfl⟩
        refine ⟨fun c3 y hy => ?_, fun c3 => ?_⟩
        · have c3' := (nI_leI (by omega) (by omega)).mp c3
          have : j = n := by omega
          subst this
          rw [ix601, nI_clamp (by omega)]
          refine ⟨vp_in_nI (by omega) (by omega), fun x3 e3 => ?_⟩
          rw [show nI (j + 1) + (1 : Int32) = nI (j + 1 + 1) from nI_1 (j + 1)] at e3
          subst e3
          have hS : sm_ (tv_ A (fun i => vp_updL f (601 * k + (j + 1)) y (601 * k + i)) (j + 1)) j = sm_ (tv_ A (fun i => f (601 * k + i)) (j + 1)) j := sm_eq j (fun i a b => by
            show (if (j + 1) % i = 0 then A ((j + 1) / i) * vp_updL f (601 * k + (j + 1)) y (601 * k + i) else 0) = (if (j + 1) % i = 0 then A ((j + 1) / i) * f (601 * k + i) else 0)
            rw [upL_ne (by omega)])
          refine ⟨⟨j + 1, by omega, by omega, rfl, fun m m1 m2 => ?_, fun i hi => ?_⟩, meas7 (by omega)⟩
          · by_cases q : m = j + 1
            · subst q
              show vp_updL f (601 * k + (j + 1)) y (601 * k + (j + 1)) = if j + 1 = 1 then fst else (-(sm_ (tv_ A (fun i => vp_updL f (601 * k + (j + 1)) y (601 * k + i)) (j + 1)) j)) * fst
              rw [upL_same, if_neg (by omega), hS, hy]
            · exact tr_cg (fun i a b => upL_ne (by omega)) m1 (h1 m m1 (by omega))
          · rw [upL_ne (by omega)]; exact h2 i hi
        · have c3' := mt (nI_leI (a := n + 1) (b := j + 1) (by omega) (by omega)).mpr c3
          refine ⟨nI_ne0 (by omega) (by omega), ?_⟩
          have hq := Nat.div_le_self (n + 1) (j + 1)
          have hr := Nat.mod_lt (n + 1) (show 0 < j + 1 by omega)
          rw [pk_rem (by omega) (by omega) (by omega), pk_div (by omega) (by omega) (by omega), ix601, ix601, nI_clamp (by omega), nI_clamp (by omega), show (0 : Int32) = nI 0 from rfl]
          refine ⟨fun c4 => ⟨nI_ne0 (by omega) (by omega), vp_in_nI (by omega) (by omega), vp_in_nI (by omega) (by omega), fun x4 e4 x6 e6 => ?_⟩, fun c4 x4 e4 x6 e6 => ?_⟩
          · have c4' := (nI_eq (by omega) (by omega)).mp c4
            rw [h2 (601 * a + (n + 1) / (j + 1)) (by omega), ← eA] at e4
            rw [show nI (j + 1) + (1 : Int32) = nI (j + 1 + 1) from nI_1 (j + 1)] at e6
            subst e4 e6
            refine ⟨⟨j + 1, by omega, rfl, ?_⟩, meas7 (by omega)⟩
            show _ = sm_ (tv_ A (fun i => f (601 * k + i)) (n + 1)) j + (if (n + 1) % (j + 1) = 0 then A ((n + 1) / (j + 1)) * f (601 * k + (j + 1)) else 0)
            rw [if_pos c4']
          · have c4' := mt (nI_eq (a := (n + 1) % (j + 1)) (b := 0) (by omega) (by omega)).mpr c4
            rw [show nI (j + 1) + (1 : Int32) = nI (j + 1 + 1) from nI_1 (j + 1)] at e6
            subst e4 e6
            refine ⟨⟨j + 1, by omega, rfl, ?_⟩, meas7 (by omega)⟩
            show _ = sm_ (tv_ A (fun i => f (601 * k + i)) (n + 1)) j + (if (n + 1) % (j + 1) = 0 then A ((n + 1) / (j + 1)) * f (601 * k + (j + 1)) else 0)
            rw [if_neg c4']
theorem t_turned {Inv : XC_ → MC_ → Prop} (hr : HR Inv) (hu : UR Inv) : st_turned Inv := by
  rintro ⟨oP, oS, oT, oU, oG, oR⟩ ⟨m0, m1, m2, m3, m4, m5, m6, m7, m8, m9, m10, m11, m12, m13, m14, m15, m16, m17, m18⟩ p1 hI
  refine ⟨0, 0, by omega, by omega, ?_⟩
  have hR := hr _ _ hI
  rcases oR with _ | ⟨v, mm⟩
  · obtain rfl : m14 = nI 0 := hR
    unfold wpx_turned
    dsimp only
    refine ⟨rfl, rfl, ?_⟩
    unfold wp_X8_turned_c0 wp_X8_hasRow_c0
    refine ⟨fun _ => ⟨le00, le00, ?_⟩, fun c => absurd rfl c⟩
    unfold wp_X9_turned
    exact s_isRow (k := 0) (by omega) (fun r h _ => absurd h (Nat.not_lt_zero r)) (fun _ => ⟨fun _ => ⟨fun c => absurd c (by decide), fun _ => ⟨fun c => absurd c (by decide), fun _ => ⟨rfl, hI⟩⟩⟩, fun c => absurd rfl c⟩)
  · obtain ⟨k, hk, e1, e2, hv⟩ := hR
    dsimp only at e1 e2 hv
    subst e1 e2
    have hv : ∀ r n : Nat, r < k → 1 ≤ n → n ≤ 600 → v (600 * r + n - 1) = m15 (601 * r + n) := hv
    unfold wpx_turned
    dsimp only
    refine ⟨rfl, rfl, ?_⟩
    unfold wp_X8_turned_c1
    refine s_hasRow hk (fun a ha ea => ⟨fun c => absurd c (by decide), fun _ => ?_⟩) (fun hn => ⟨fun _ => ⟨cc_R, cs_R, ?_⟩, fun c => absurd rfl c⟩)
    · subst ea
      have hva := hv a 1 ha (by omega) (by omega)
      unfold wp_X5_canTurn
      refine s_look (n := 1) (by omega) (by omega) (by omega) ?_
      refine ⟨fun c1 => ⟨fun c => absurd c (by decide), fun _ => ?_⟩, fun c1 => ⟨fun c2 => ⟨fun c => absurd c (by decide), fun _ => ?_⟩, fun c2 => ⟨fun _ => ⟨cc_R, cs_R, s_turn9 hk ha (fun _ _ => ⟨rfl, hI⟩) (fun _ => ⟨rfl, hI⟩) (fun _ q => (q.elim (fun q => absurd (hva.trans q) c1) (fun q => absurd (hva.trans q) c2)))⟩, fun c => absurd rfl c⟩⟩⟩
      all_goals
        have hor : v (600 * a + 1 - 1) = 1 ∨ v (600 * a + 1 - 1) = -1 := by first | exact Or.inl c1 | exact Or.inr c2
        unfold wp_X8_newRow_c1
        refine s_addZeros hk (fun c => ⟨fun _ => ⟨cc_R, cs_R, ?_⟩, fun d => absurd rfl d⟩) (fun c v' hz => ⟨fun d => absurd d (m1_ne hk), fun _ => ?_⟩)
        · exact s_turn9 hk ha (fun _ _ => ⟨rfl, hI⟩) (fun _ => ⟨rfl, hI⟩) (fun d => absurd d (by omega))
        · have hva' : ∀ r n : Nat, r < k → 1 ≤ n → n ≤ 600 → v' (600 * r + n - 1) = v (600 * r + n - 1) := fun r n x y z => hz.2 _ (by omega)
          refine s_fillTurn c ha hz.1 (fun v2 w h2 h2t => ⟨cc_R, cs_R, ?_⟩)
          refine s_turn9 hk ha (fun q1 q2 => ?_) (fun d => absurd d (by omega)) (fun _ _ row' w' h3 h3t => ⟨rfl, hu _ _ _ _ _ _ _ _ _ _ _ _ _ _ _ _ _ _ _ _ _ _ _ _ _ _ _ _ hI (RR_add c (v := v') (w := w) (fun r n x y z => (hva' r n x y z).trans (hv r n x y z)) h2 ⟨fun n n1 n2 => ?_, h3.2⟩)⟩)
          · exfalso
            rcases hor with q | q
            · exact q1 (hva.symm.trans q)
            · exact q2 (hva.symm.trans q)
          · rw [h3.1 n n1 n2]
            rw [show v' (600 * a + 1 - 1) = m15 (601 * a + 1) from (hva' a 1 ha (by omega) (by omega)).trans hva] at h2t
            exact (tr_uq (fun j x y => (hva' a j ha x y).trans (hv a j ha x y)) h2t h3t n n1 n2).symm
    · unfold wp_X9_turned
      exact s_isRow hk (fun r h e => absurd e (hn r h)) (fun _ => ⟨fun _ => ⟨fun c => absurd c (by decide), fun _ => ⟨fun c => absurd c (by decide), fun _ => ⟨rfl, hI⟩⟩⟩, fun c => absurd rfl c⟩)

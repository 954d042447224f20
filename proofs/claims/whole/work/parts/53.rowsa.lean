/-! rows: the small calls -/
def HR (Inv : XC_ → MC_ → Prop) : Prop := ∀ X M, Inv X M → RR_ X.2.2.2.2.2 (m_rows M) (m_row M)
def UR (Inv : XC_ → MC_ → Prop) : Prop := ∀ oP oS oT oU oG oR oR2 m0 m1 m2 m3 m4 m5 m6 m7 m8 m9 m10 m11 m12 m13 m14 m15 m16 m17 m18 rows row, Inv (oP, oS, oT, oU, oG, oR) (m0, m1, m2, m3, m4, m5, m6, m7, m8, m9, m10, m11, m12, m13, m14, m15, m16, m17, m18) → RR_ oR2 rows row → Inv (oP, oS, oT, oU, oG, oR2) (m0, m1, m2, m3, m4, m5, m6, m7, m8, m9, m10, m11, m12, m13, rows, row, m16, m17, m18)
theorem s_isRow {k : Nat} (hk : k ≤ 16) {p : Int32} {Q : Int32 → Prop} (h1 : ∀ r : Nat, r < k → p = nI r → Q 1) (h0 : (∀ r : Nat, r < k → p ≠ nI r) → Q 0) : wp_X9_isRow (nI k) p Q := by
  unfold wp_X9_isRow
  have e : ((nI k - (1 : Int32)).toInt64).toInt = (k : Int) - 1 := by rw [i2l_t]; exact sub1_t (by omega)
  refine s_in (fun a b => ⟨by decide, ?_⟩) (fun a => ⟨by decide, ?_⟩)
  · rw [i2l_t] at a b
    rw [e] at b
    have a' : 0 ≤ p.toInt := a
    obtain ⟨n, hn, e1, e2⟩ := i_nat a'
    exact h1 n (by omega) e1
  · rw [i2l_t] at a
    rw [e] at a
    refine h0 (fun r hr e1 => ?_)
    have e2 : p.toInt = (r : Int) := by rw [e1]; exact tn (by omega)
    have a' : p.toInt < 0 ∨ (k : Int) - 1 < p.toInt := a
    omega
theorem s_hasRow {k : Nat} (hk : k ≤ 16) {p : Int32} {Q : Int32 → Prop} (h1 : ∀ r : Nat, r < k → p = nI r → Q 1) (h0 : (∀ r : Nat, r < k → p ≠ nI r) → Q 0) : wp_X8_hasRow_c1 (nI k) p Q := by
  unfold wp_X8_hasRow_c1
  refine ⟨fun c => h0 (fun r hr e1 => ?_), fun c => ⟨fun d => h0 (fun r hr e1 => ?_), fun d => ?_⟩⟩
  · have e2 : p.toInt = (r : Int) := by rw [e1]; exact tn (by omega)
    have c' : p.toInt < 0 := ilt.mp c
    omega
  · have e2 : p.toInt = (r : Int) := by rw [e1]; exact tn (by omega)
    have d' := ile.mp d
    rw [tn (by omega)] at d'
    omega
  · have c' : ¬ p.toInt < 0 := fun q => c (ilt.mpr q)
    have d' := mt ile.mpr d
    rw [tn (by omega)] at d'
    obtain ⟨n, hn, e1, e2⟩ := i_nat (a := p) (by omega)
    exact h1 n (by omega) e1
theorem ix600 {r n : Nat} (h1 : 1 ≤ n) : ((nI r * (600 : Int32)) + nI n) - (1 : Int32) = nI (600 * r + n - 1) := by
  rw [show (600 : Int32) = nI 600 from rfl, pk_mul, nI_add, show (1 : Int32) = nI 1 from rfl, pk_sub (by omega), Nat.mul_comm]
theorem ix601 {r n : Nat} : ((601 : Int32) * nI r) + nI n = nI (601 * r + n) := by
  rw [show (601 : Int32) = nI 601 from rfl, pk_mul, nI_add]
theorem s_place {r n : Nat} (hr : r < 16) (h1 : 1 ≤ n) (h2 : n ≤ 600) {Q : Int32 → Prop} (h : Q 1) : wp_X5_isPlace (nI r) (nI n) Q := by
  unfold wp_X5_isPlace
  have er := tn (n := r) (by omega)
  have en := tn (n := n) (by omega)
  refine ⟨fun c => ?_, fun _ => ⟨fun c => ?_, fun _ => ⟨fun c => ?_, fun _ => ⟨fun c => ?_, fun _ => h⟩⟩⟩⟩
  · have c' : (nI r).toInt < 0 := ilt.mp c
    omega
  · have c' : (16 : Int) ≤ (nI r).toInt := ile.mp c
    omega
  · have c' : (nI n).toInt < 1 := ilt.mp c
    omega
  · have c' : (600 : Int) < (nI n).toInt := ilt.mp c
    omega
theorem s_placeN {p n : Int32} (hn : n.toInt < 1 ∨ 600 < n.toInt) {Q : Int32 → Prop} (h : Q 0) : wp_X5_isPlace p n Q := by
  unfold wp_X5_isPlace
  refine ⟨fun _ => h, fun _ => ⟨fun _ => h, fun _ => ⟨fun _ => h, fun c => ⟨fun _ => h, fun d => ?_⟩⟩⟩⟩
  have c' : ¬ n.toInt < 1 := fun q => c (ilt.mpr q)
  have d' : ¬ (600 : Int) < n.toInt := fun q => d (ilt.mpr q)
  omega
theorem s_look {v : Nat → Int64} {r n : Nat} (hr : r < 16) (h1 : 1 ≤ n) (h2 : n ≤ 600) {Q : Int64 → Prop} (h : Q (v (600 * r + n - 1))) : wp_X5_look v (nI r) (nI n) Q := by
  unfold wp_X5_look
  refine s_place hr h1 h2 ⟨fun c => absurd c (by decide), fun _ => ?_⟩
  rw [ix600 h1]
  refine ⟨vp_in_nI (by omega) (by omega), ?_⟩
  rw [nI_clamp (by omega)]
  exact h
theorem s_lookN {v : Nat → Int64} {p n : Int32} (hn : n.toInt < 1 ∨ 600 < n.toInt) {Q : Int64 → Prop} (h : Q 0) : wp_X5_look v p n Q := by
  unfold wp_X5_look
  exact s_placeN hn ⟨fun _ => h, fun c => absurd rfl c⟩
theorem s_put {v : Nat → Int64} {r n : Nat} (hr : r < 16) (h1 : 1 ≤ n) (h2 : n ≤ 600) {x : Int64} {Q : (Nat → Int64) → Prop} (h : Q (vp_updL v (600 * r + n - 1) x)) : wp_X5_put v (nI r) (nI n) x Q := by
  unfold wp_X5_put
  refine s_place hr h1 h2 ⟨fun c => absurd c (by decide), fun _ => ?_⟩
  rw [ix600 h1]
  refine ⟨vp_in_nI (by omega) (by omega), ?_⟩
  rw [nI_clamp (by omega)]
  exact h
theorem s_row {row : Nat → Int64} {r n : Nat} (hr : r < 16) (h2 : n ≤ 600) {P : Int64 → Prop} (h : P (row (601 * r + n))) : vp_in (((601 : Int32) * nI r) + nI n) 9616 ∧ P (row (((601 : Int32) * nI r) + nI n).toNatClampNeg) := by
  rw [ix601]
  refine ⟨vp_in_nI (by omega) (by omega), ?_⟩
  rw [nI_clamp (by omega)]
  exact h
theorem le00 {a : Nat} : a + 0 ≤ a := Nat.le_refl a
theorem cc_R {oP : Option CP_} {oS : Option CS_} {oT : Option CT_} {oU : Option CU_} {oG : Option CG_} {w w' : CR_} : cc_ (oP, oS, oT, oU, oG, some w) + 0 ≤ cc_ (oP, oS, oT, oU, oG, some w') := Nat.le_of_eq (Nat.add_zero _)
theorem cs_R {oP : Option CP_} {oS : Option CS_} {oT : Option CT_} {oU : Option CU_} {oG : Option CG_} {w w' : CR_} : cs_ (oP, oS, oT, oU, oG, some w) + 0 ≤ cs_ (oP, oS, oT, oU, oG, some w') := Nat.le_of_eq (Nat.add_zero _)
theorem cc_RN {oP : Option CP_} {oS : Option CS_} {oT : Option CT_} {oU : Option CU_} {oG : Option CG_} {w : CR_} : cc_ (oP, oS, oT, oU, oG, none) + 2 ≤ cc_ (oP, oS, oT, oU, oG, some w) := by
  unfold cc_
  dsimp only
  omega
theorem cs_RN {oP : Option CP_} {oS : Option CS_} {oT : Option CT_} {oU : Option CU_} {oG : Option CG_} {w : CR_} : cs_ (oP, oS, oT, oU, oG, none) + 9602 ≤ cs_ (oP, oS, oT, oU, oG, some w) := by
  unfold cs_
  dsimp only
  omega
theorem t_clear {Inv : XC_ → MC_ → Prop} (hu : UR Inv) : st_clear Inv := by
  rintro ⟨oP, oS, oT, oU, oG, oR⟩ ⟨m0, m1, m2, m3, m4, m5, m6, m7, m8, m9, m10, m11, m12, m13, m14, m15, m16, m17, m18⟩ hI
  refine ⟨0, 0, by omega, by omega, ?_⟩
  rcases oR with _ | ⟨v, mm⟩
  · unfold wpx_clear
    dsimp only
    refine ⟨rfl, rfl, ?_⟩
    unfold wp_X8_clear_c0 wp_X9_clear
    exact ⟨le00, le00, hu _ _ _ _ _ _ _ _ _ _ _ _ _ _ _ _ _ _ _ _ _ _ _ _ _ _ _ _ hI (show RR_ none 0 m15 from rfl)⟩
  · unfold wpx_clear
    dsimp only
    refine ⟨rfl, rfl, ?_⟩
    unfold wp_X8_clear_c1 wp_X9_clear
    exact ⟨cc_R, cs_R, hu _ _ _ _ _ _ _ _ _ _ _ _ _ _ _ _ _ _ _ _ _ _ _ _ _ _ _ _ hI (show RR_ (some (v, 0)) 0 m15 from ⟨0, by omega, rfl, rfl, fun r n h => absurd h (Nat.not_lt_zero r)⟩)⟩
theorem t_at {Inv : XC_ → MC_ → Prop} (hr : HR Inv) : st_at Inv := by
  rintro ⟨oP, oS, oT, oU, oG, oR⟩ ⟨m0, m1, m2, m3, m4, m5, m6, m7, m8, m9, m10, m11, m12, m13, m14, m15, m16, m17, m18⟩ p1 p2 hI
  refine ⟨0, 0, by omega, by omega, ?_⟩
  have hR := hr _ _ hI
  rcases oR with _ | ⟨v, mm⟩
  · obtain rfl : m14 = nI 0 := hR
    unfold wpx_at
    dsimp only
    refine ⟨rfl, rfl, ?_⟩
    unfold wp_X8_at_c0 wp_X8_hasRow_c0
    refine ⟨fun _ => ⟨le00, le00, ?_⟩, fun c => absurd rfl c⟩
    unfold wp_X9_at
    exact s_isRow (k := 0) (by omega) (fun r h _ => absurd h (Nat.not_lt_zero r)) (fun _ => ⟨fun _ => ⟨rfl, hI⟩, fun c => absurd rfl c⟩)
  · obtain ⟨k, hk, e1, e2, hv⟩ := hR
    dsimp only at e1 e2 hv
    subst e1 e2
    unfold wpx_at
    dsimp only
    refine ⟨rfl, rfl, ?_⟩
    unfold wp_X8_at_c1
    refine s_hasRow hk (fun r h e => ⟨fun c => absurd c (by decide), fun _ => ?_⟩) (fun hn => ⟨fun _ => ⟨le00, le00, ?_⟩, fun c => absurd rfl c⟩)
    · subst e
      rcases (by omega : (1 ≤ p2.toInt ∧ p2.toInt ≤ 600) ∨ (p2.toInt < 1 ∨ 600 < p2.toInt)) with q | q
      · obtain ⟨n, hn, e1, e2⟩ := i_nat (a := p2) (by omega)
        subst e1
        refine s_look (by omega) (by omega) (by omega) ⟨le00, le00, ?_⟩
        unfold wp_X9_at
        refine s_isRow hk (fun r2 h2 e => ⟨fun c => absurd c (by decide), fun _ => ?_⟩) (fun hn2 => absurd rfl (hn2 r h))
        refine s_in (fun _ _ => ⟨fun c => absurd c (by decide), fun _ => ?_⟩) (fun a => ?_)
        · rw [ix601, nI_clamp (by omega)]
          exact ⟨vp_in_nI (by omega) (by omega), hv r n h (by omega) (by omega), hI⟩
        · rw [i2l_t] at a
          have a' : (nI n).toInt < 1 ∨ (600 : Int) < (nI n).toInt := a
          omega
      · refine s_lookN q ⟨le00, le00, ?_⟩
        unfold wp_X9_at
        refine s_isRow hk (fun r2 h2 e => ⟨fun c => absurd c (by decide), fun _ => ?_⟩) (fun hn2 => absurd rfl (hn2 r h))
        refine s_in (fun a b => ?_) (fun a => ⟨fun _ => ⟨rfl, hI⟩, fun c => absurd rfl c⟩)
        rw [i2l_t] at a b
        have a' : (1 : Int) ≤ p2.toInt := a
        have b' : p2.toInt ≤ (600 : Int) := b
        omega
    · unfold wp_X9_at
      exact s_isRow hk (fun r h e => absurd e (hn r h)) (fun _ => ⟨fun _ => ⟨rfl, hI⟩, fun c => absurd rfl c⟩)

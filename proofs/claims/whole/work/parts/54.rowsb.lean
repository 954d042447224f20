theorem upL_same {f : Nat → Int64} {k : Nat} {x : Int64} : vp_updL f k x k = x := pk_uLs
theorem upL_ne {f : Nat → Int64} {k j : Nat} {x : Int64} (h : j ≠ k) : vp_updL f k x j = f j := pk_uLn h
theorem t_tell {Inv : XC_ → MC_ → Prop} (hr : HR Inv) (hu : UR Inv) : st_tell Inv := by
  rintro ⟨oP, oS, oT, oU, oG, oR⟩ ⟨m0, m1, m2, m3, m4, m5, m6, m7, m8, m9, m10, m11, m12, m13, m14, m15, m16, m17, m18⟩ p1 p2 p3 hI
  refine ⟨0, 0, by omega, by omega, ?_⟩
  have hR := hr _ _ hI
  rcases oR with _ | ⟨v, mm⟩
  · obtain rfl : m14 = nI 0 := hR
    unfold wpx_tell
    dsimp only
    refine ⟨rfl, rfl, ?_⟩
    unfold wp_X8_tell_c0 wp_X8_hasRow_c0
    refine ⟨fun _ => ⟨le00, le00, ?_⟩, fun c => absurd rfl c⟩
    unfold wp_X9_tell
    exact s_isRow (k := 0) (by omega) (fun r h _ => absurd h (Nat.not_lt_zero r)) (fun _ => ⟨fun _ => ⟨rfl, hI⟩, fun c => absurd rfl c⟩)
  · obtain ⟨k, hk, e1, e2, hv⟩ := id hR
    dsimp only at e1 e2 hv
    subst e1 e2
    unfold wpx_tell
    dsimp only
    refine ⟨rfl, rfl, ?_⟩
    unfold wp_X8_tell_c1
    refine s_hasRow hk (fun r h e => ⟨fun c => absurd c (by decide), fun _ => ?_⟩) (fun hn => ⟨fun _ => ⟨le00, le00, ?_⟩, fun c => absurd rfl c⟩)
    · subst e
      have hno : (p2.toInt < 1 ∨ 600 < p2.toInt) → wp_X9_tell (nI k) m15 (nI r) p2 p3 (fun r2 o0 => (0 : Int32) = r2 ∧ Inv (oP, oS, oT, oU, oG, some (v, nI k)) (m0, m1, m2, m3, m4, m5, m6, m7, m8, m9, m10, m11, m12, m13, nI k, o0, m16, m17, m18)) := by
        intro q
        unfold wp_X9_tell
        refine s_isRow hk (fun r2 h2 e => ⟨fun c => absurd c (by decide), fun _ => ?_⟩) (fun hn2 => absurd rfl (hn2 r h))
        refine s_in (fun a b => ?_) (fun a => ⟨fun _ => ⟨rfl, hI⟩, fun c => absurd rfl c⟩)
        rw [i2l_t] at a b
        have a' : (1 : Int) ≤ p2.toInt := a
        have b' : p2.toInt ≤ (600 : Int) := b
        omega
      refine ⟨fun c => ⟨le00, le00, ?_⟩, fun c => ⟨fun d => ?_, fun d => ⟨le00, le00, ?_⟩⟩⟩
      · have c' : p2.toInt < 1 := ilt.mp c
        exact hno (Or.inl c')
      · have c' : ¬ p2.toInt < 1 := fun q => c (ilt.mpr q)
        have d' : p2.toInt ≤ 600 := ile.mp d
        obtain ⟨n, hn, e1, e2⟩ := i_nat (a := p2) (by omega)
        subst e1
        refine s_put (by omega) (by omega) (by omega) ⟨cc_R, cs_R, ?_⟩
        unfold wp_X9_tell
        refine s_isRow hk (fun r2 h2 e => ⟨fun c => absurd c (by decide), fun _ => ?_⟩) (fun hn2 => absurd rfl (hn2 r h))
        refine s_in (fun _ _ => ⟨fun c => absurd c (by decide), fun _ => ?_⟩) (fun a => ?_)
        · rw [ix601]
          refine ⟨vp_in_nI (by omega) (by omega), ?_⟩
          rw [nI_clamp (by omega)]
          refine ⟨rfl, hu _ _ _ _ _ _ _ _ _ _ _ _ _ _ _ _ _ _ _ _ _ _ _ _ _ _ _ _ hI ⟨k, hk, rfl, rfl, fun r2 n2 h2 h3 h4 => ?_⟩⟩
          show vp_updL v (600 * r + n - 1) p3 (600 * r2 + n2 - 1) = vp_updL m15 (601 * r + n) p3 (601 * r2 + n2)
          by_cases e : r2 = r ∧ n2 = n
          · rw [e.1, e.2, upL_same, upL_same]
          · rw [upL_ne (by omega), upL_ne (by omega)]
            exact hv r2 n2 h2 h3 h4
        · rw [i2l_t] at a
          have a' : (nI n).toInt < 1 ∨ (600 : Int) < (nI n).toInt := a
          omega
      · have d' : ¬ p2.toInt ≤ 600 := fun q => d (ile.mpr q)
        exact hno (Or.inr (by omega))
    · unfold wp_X9_tell
      exact s_isRow hk (fun r h e => absurd e (hn r h)) (fun _ => ⟨fun _ => ⟨rfl, hI⟩, fun c => absurd rfl c⟩)
/-- the first place at which two rows part, in any telling -/
theorem s_firstD {v : Nat → Int64} {a b : Nat} (ha : a < 16) (hb : b < 16) {Q : Int32 → Prop} (h0 : (∀ n, 1 ≤ n → n ≤ 600 → v (600 * a + n - 1) = v (600 * b + n - 1)) → Q 0) (h1 : ∀ n, 1 ≤ n → n ≤ 600 → (∀ j, 1 ≤ j → j < n → v (600 * a + j - 1) = v (600 * b + j - 1)) → v (600 * a + n - 1) ≠ v (600 * b + n - 1) → Q (nI n)) : wp_X5_firstDifference v (nI a) (nI b) Q := by
  unfold wp_X5_firstDifference
  refine ⟨fun x => ∃ n : Nat, 1 ≤ n ∧ n ≤ 601 ∧ x = nI n ∧ ∀ j, 1 ≤ j → j < n → v (600 * a + j - 1) = v (600 * b + j - 1), fun x => (601 - x.toInt).toNat, ⟨1, by omega, by omega, rfl, fun j h1 h2 => absurd h2 (by omega)⟩, ?_⟩
  rintro x ⟨n, hn1, hn2, rfl, hj⟩
  have en := tn (n := n) (by omega)
  refine ⟨fun c => h0 (fun j h1 h2 => hj j h1 ?_), fun c => ?_⟩
  · have c' : (600 : Int) < (nI n).toInt := ilt.mp c
    omega
  · have c' : ¬ (600 : Int) < (nI n).toInt := fun q => c (ilt.mpr q)
    refine s_look ha hn1 (by omega) (s_look hb hn1 (by omega) ⟨fun e x hx => ?_, fun e => h1 n hn1 (by omega) hj e⟩)
    rw [show nI n + (1 : Int32) = nI (n + 1) from nI_1 n] at hx
    subst hx
    refine ⟨⟨n + 1, by omega, by omega, rfl, fun j h1 h2 => ?_⟩, ?_⟩
    · by_cases q : j = n
      · rw [q]; exact e
      · exact hj j h1 (by omega)
    · show (601 - (nI (n + 1)).toInt).toNat < (601 - (nI n).toInt).toNat
      rw [tn (n := n + 1) (by omega), en]
      omega
theorem t_same {Inv : XC_ → MC_ → Prop} (hr : HR Inv) : st_same Inv := by
  rintro ⟨oP, oS, oT, oU, oG, oR⟩ ⟨m0, m1, m2, m3, m4, m5, m6, m7, m8, m9, m10, m11, m12, m13, m14, m15, m16, m17, m18⟩ p1 p2 hI
  refine ⟨0, 0, by omega, by omega, ?_⟩
  have hR := hr _ _ hI
  rcases oR with _ | ⟨v, mm⟩
  · obtain rfl : m14 = nI 0 := hR
    unfold wpx_same
    dsimp only
    refine ⟨rfl, rfl, ?_⟩
    unfold wp_X8_same_c0 wp_X8_hasRow_c0
    refine ⟨fun _ => ⟨le00, le00, ?_⟩, fun c => absurd rfl c⟩
    unfold wp_X9_same
    exact s_isRow (k := 0) (by omega) (fun r h _ => absurd h (Nat.not_lt_zero r)) (fun _ => ⟨fun _ => ⟨rfl, hI⟩, fun c => absurd rfl c⟩)
  · obtain ⟨k, hk, e1, e2, hv⟩ := hR
    dsimp only at e1 e2 hv
    subst e1 e2
    have hv : ∀ r n : Nat, r < k → 1 ≤ n → n ≤ 600 → v (600 * r + n - 1) = m15 (601 * r + n) := hv
    unfold wpx_same
    dsimp only
    refine ⟨rfl, rfl, ?_⟩
    unfold wp_X8_same_c1
    refine s_hasRow hk (fun r h e => ⟨fun c => absurd c (by decide), fun _ => ?_⟩) (fun hn => ⟨fun _ => ⟨le00, le00, ?_⟩, fun c => absurd rfl c⟩)
    · subst e
      refine s_hasRow hk (fun t h2 e => ⟨fun c => absurd c (by decide), fun _ => ?_⟩) (fun hn => ⟨fun _ => ⟨le00, le00, ?_⟩, fun c => absurd rfl c⟩)
      · subst e
        have key : ∀ (P : Int32 → Prop), ((∀ n, 1 ≤ n → n ≤ 600 → v (600 * r + n - 1) = v (600 * t + n - 1)) → P 0) → (∀ n, 1 ≤ n → n ≤ 600 → (∀ j, 1 ≤ j → j < n → v (600 * r + j - 1) = v (600 * t + j - 1)) → v (600 * r + n - 1) ≠ v (600 * t + n - 1) → P (nI n)) → wp_X9_same (nI k) m15 (nI r) (nI t) P := by
          intro P q0 q1
          unfold wp_X9_same
          refine s_isRow hk (fun r2 _ e => ⟨fun c => absurd c (by decide), fun _ => ?_⟩) (fun hn2 => absurd rfl (hn2 r h))
          refine s_isRow hk (fun r2 _ e => ⟨fun c => absurd c (by decide), fun _ => ?_⟩) (fun hn2 => absurd rfl (hn2 t h2))
          refine ⟨fun x => ∃ n : Nat, 1 ≤ n ∧ n ≤ 601 ∧ x = nI n ∧ ∀ j, 1 ≤ j → j < n → v (600 * r + j - 1) = v (600 * t + j - 1), fun x => (601 - x.toInt).toNat, ⟨1, by omega, by omega, rfl, fun j h1 h2 => absurd h2 (by omega)⟩, ?_⟩
          rintro x ⟨n, hn1, hn2, rfl, hj⟩
          have en := tn (n := n) (by omega)
          refine ⟨fun c => q0 (fun j h1 h2 => hj j h1 ?_), fun c => ?_⟩
          · have c' : (600 : Int) < (nI n).toInt := ilt.mp c
            omega
          · have c' : ¬ (600 : Int) < (nI n).toInt := fun q => c (ilt.mpr q)
            rw [ix601, ix601, nI_clamp (by omega), nI_clamp (by omega), ← hv r n h hn1 (by omega), ← hv t n h2 hn1 (by omega)]
            refine ⟨vp_in_nI (by omega) (by omega), vp_in_nI (by omega) (by omega), fun e x hx => ?_, fun e => q1 n hn1 (by omega) hj e⟩
            rw [show nI n + (1 : Int32) = nI (n + 1) from nI_1 n] at hx
            subst hx
            refine ⟨⟨n + 1, by omega, by omega, rfl, fun j h1 h2 => ?_⟩, ?_⟩
            · by_cases q : j = n
              · rw [q]; exact e
              · exact hj j h1 (by omega)
            · show (601 - (nI (n + 1)).toInt).toNat < (601 - (nI n).toInt).toNat
              rw [tn (n := n + 1) (by omega), en]
              omega
        refine s_firstD (by omega) (by omega) (fun hall => ⟨le00, le00, ?_⟩) (fun n n1 n2 hj hne => ⟨le00, le00, ?_⟩)
        · exact key _ (fun _ => ⟨rfl, hI⟩) (fun n a b _ d => absurd (hall n a b) d)
        · refine key _ (fun hall => absurd (hall n n1 n2) hne) (fun n' a b hj' d => ⟨?_, hI⟩)
          rcases Nat.lt_trichotomy n n' with q | q | q
          · exact absurd (hj' n n1 q) hne
          · rw [q]
          · exact absurd (hj n' a q) d
      · unfold wp_X9_same
        refine s_isRow hk (fun r2 _ e => ⟨fun c => absurd c (by decide), fun _ => ?_⟩) (fun hn2 => absurd rfl (hn2 r h))
        exact s_isRow hk (fun r h e => absurd e (hn r h)) (fun _ => ⟨fun _ => ⟨rfl, hI⟩, fun c => absurd rfl c⟩)
    · unfold wp_X9_same
      exact s_isRow hk (fun r h e => absurd e (hn r h)) (fun _ => ⟨fun _ => ⟨rfl, hI⟩, fun c => absurd rfl c⟩)

def wp_X9_parted (a0_hasPart : Int32) (a0_parted : Int64) (a0_partMany : Int32) (a0_partPrime : Nat → Int64) (a0_partPower : Nat → Int32) (p1 : Int32) (Q : Int64 → Prop) : Prop :=
  ((a0_hasPart = (0 : Int32) → Q (0 : Int64)) ∧ (¬ a0_hasPart = (0 : Int32) → (∃ (I_29_1 : Int32 → Int64 → Int64 → Int64 → Int64 → Int64 → Prop) (m_29_1 : Int32 → Int64 → Int64 → Int64 → Int64 → Int64 → Nat), I_29_1 (0 : Int32) (1 : Int64) (1 : Int64) a0_parted (1 : Int64) (1 : Int64) ∧ ∀ (l12_29_1 : Int32) (l10_29_1 : Int64) (l8_29_1 : Int64) (l6_29_1 : Int64) (l4_29_1 : Int64) (l2_29_1 : Int64), I_29_1 l12_29_1 l10_29_1 l8_29_1 l6_29_1 l4_29_1 l2_29_1 → ((a0_partMany ≤ l12_29_1 → ((p1 = (0 : Int32) → Q a0_parted) ∧ (p1 = (1 : Int32) → Q l2_29_1) ∧ (p1 = (2 : Int32) → Q l4_29_1) ∧ (p1 = (3 : Int32) → Q l6_29_1) ∧ (p1 = (4 : Int32) → Q l8_29_1) ∧ (p1 = (5 : Int32) → Q l10_29_1) ∧ (¬ p1 = (0 : Int32) → ¬ p1 = (1 : Int32) → ¬ p1 = (2 : Int32) → ¬ p1 = (3 : Int32) → ¬ p1 = (4 : Int32) → ¬ p1 = (5 : Int32) → Q (0 : Int64)))) ∧ (¬ a0_partMany ≤ l12_29_1 → (vp_in l12_29_1 16 ∧ (∀ x13_11 : Int64, x13_11 = (a0_partPrime l12_29_1.toNatClampNeg) → (vp_in l12_29_1 16 ∧ (∀ x2_13 : Int64, x2_13 = (l2_29_1 * ((a0_partPower l12_29_1.toNatClampNeg).toInt64 + (1 : Int64))) → (∃ (I_66_13 : Int32 → Int64 → Prop) (m_66_13 : Int32 → Int64 → Nat), I_66_13 (0 : Int32) (1 : Int64) ∧ ∀ (l17_66_13 : Int32) (l15_66_13 : Int64), I_66_13 l17_66_13 l15_66_13 → (vp_in l12_29_1 16 ∧ (((a0_partPower l12_29_1.toNatClampNeg) ≤ l17_66_13 → (∀ x4_17 : Int64, x4_17 = (l4_29_1 * l15_66_13) → (¬ x13_11 = 0 ∧ (∀ x6_19 : Int64, x6_19 = ((l6_29_1 / x13_11) * (x13_11 - (1 : Int64))) → (vp_in l12_29_1 16 ∧ (((a0_partPower l12_29_1.toNatClampNeg) ≤ (1 : Int32) → (∀ x8_22 : Int64, x8_22 = (-l8_29_1) → (∀ x10_23 : Int64, x10_23 = (l10_29_1 * x13_11) → (∀ x12_24 : Int32, x12_24 = l12_29_1 + (1 : Int32) → (I_29_1 x12_24 x10_23 x8_22 x6_19 x4_17 x2_13 ∧ m_29_1 x12_24 x10_23 x8_22 x6_19 x4_17 x2_13 < m_29_1 l12_29_1 l10_29_1 l8_29_1 l6_29_1 l4_29_1 l2_29_1))))) ∧ (¬ (a0_partPower l12_29_1.toNatClampNeg) ≤ (1 : Int32) → (∀ x10_25 : Int64, x10_25 = (l10_29_1 * x13_11) → (∀ x12_26 : Int32, x12_26 = l12_29_1 + (1 : Int32) → (I_29_1 x12_26 x10_25 (0 : Int64) x6_19 x4_17 x2_13 ∧ m_29_1 x12_26 x10_25 (0 : Int64) x6_19 x4_17 x2_13 < m_29_1 l12_29_1 l10_29_1 l8_29_1 l6_29_1 l4_29_1 l2_29_1)))))))))) ∧ (¬ (a0_partPower l12_29_1.toNatClampNeg) ≤ l17_66_13 → (∀ x15_27 : Int64, x15_27 = ((l15_66_13 * x13_11) + (1 : Int64)) → (∀ x17_28 : Int32, x17_28 = l17_66_13 + (1 : Int32) → (I_66_13 x17_28 x15_27 ∧ m_66_13 x17_28 x15_27 < m_66_13 l17_66_13 l15_66_13))))))))))))))))
abbrev rm_X9_parted : Room := { frames := 0, cells := 0, slots := 0, locals := 0 }
abbrev qc_X9_parted (dC : Nat → ClassId) (dI : Nat → Nat → Nat) (cI cJ cZ : ClassId) (h_a0 : Nat) (a0_primes : Int32) (w_a0_prime : Value) (w_a0_isNone : Value) (a0_hasSpan : Int32) (a0_spanFrom : Int64) (a0_spanMany : Int32) (w_a0_least : Value) (w_a0_greatest : Value) (w_a0_isSquared : Value) (a0_hasPart : Int32) (a0_parted : Int64) (a0_partMany : Int32) (a0_partPrime : Nat → Int64) (q_a0_partPrime : Nat) (a0_partPower : Nat → Int32) (q_a0_partPower : Nat) (a0_rows : Int32) (w_a0_row : Value) (a0_foundLeast : Int64) (a0_foundGreatest : Int64) (a0_foundSquare : Int32) (Q : Int64 → Prop) (A : Nat → Prop) : Array Value → State → Outcome → State → Prop := va_Ql (fun (r : Int64) (_ : Unit) => Q r) (post_ dC dI A (fun (u : Unit) => [(h_a0, .inr (8, [.int a0_primes, w_a0_prime, w_a0_isNone, .int a0_hasSpan, .long a0_spanFrom, .int a0_spanMany, w_a0_least, w_a0_greatest, w_a0_isSquared, .int a0_hasPart, .long a0_parted, .int a0_partMany, .ref q_a0_partPrime, .ref q_a0_partPower, .int a0_rows, w_a0_row, .long a0_foundLeast, .long a0_foundGreatest, .int a0_foundSquare])), (q_a0_partPrime, .inl (cJ, 16, .inr (.inl a0_partPrime))), (q_a0_partPower, .inl (cI, 16, .inl a0_partPower))])) A
set_option maxHeartbeats 4000000 in
set_option maxRecDepth 100000 in
theorem c_X9_parted (l : Launch) (dC : Nat → ClassId) (dI : Nat → Nat → Nat) (cI cJ cZ : ClassId) (sz : Nat) (h_a0 : Nat) (a0_primes : Int32) (w_a0_prime : Value) (w_a0_isNone : Value) (a0_hasSpan : Int32) (a0_spanFrom : Int64) (a0_spanMany : Int32) (w_a0_least : Value) (w_a0_greatest : Value) (w_a0_isSquared : Value) (a0_hasPart : Int32) (a0_parted : Int64) (a0_partMany : Int32) (a0_partPrime : Nat → Int64) (q_a0_partPrime : Nat) (a0_partPower : Nat → Int32) (q_a0_partPower : Nat) (a0_rows : Int32) (w_a0_row : Value) (a0_foundLeast : Int64) (a0_foundGreatest : Int64) (a0_foundSquare : Int32) (p1 : Int32) (Q : Int64 → Prop) (hQ : wp_X9_parted a0_hasPart a0_parted a0_partMany a0_partPrime a0_partPower p1 Q) : Met l yX9_parted wsX9_parted rm_X9_parted (pre_ dC dI cI cJ cZ [.ref h_a0, .int p1] [(h_a0, .inr (8, [.int a0_primes, w_a0_prime, w_a0_isNone, .int a0_hasSpan, .long a0_spanFrom, .int a0_spanMany, w_a0_least, w_a0_greatest, w_a0_isSquared, .int a0_hasPart, .long a0_parted, .int a0_partMany, .ref q_a0_partPrime, .ref q_a0_partPower, .int a0_rows, w_a0_row, .long a0_foundLeast, .long a0_foundGreatest, .int a0_foundSquare])), (q_a0_partPrime, .inl (cJ, 16, .inr (.inl a0_partPrime))), (q_a0_partPower, .inl (cI, 16, .inl a0_partPower))] sz) (qc_X9_parted dC dI cI cJ cZ h_a0 a0_primes w_a0_prime w_a0_isNone a0_hasSpan a0_spanFrom a0_spanMany w_a0_least w_a0_greatest w_a0_isSquared a0_hasPart a0_parted a0_partMany a0_partPrime q_a0_partPrime a0_partPower q_a0_partPower a0_rows w_a0_row a0_foundLeast a0_foundGreatest a0_foundSquare Q (va_A [(h_a0, .inr (8, [.int a0_primes, w_a0_prime, w_a0_isNone, .int a0_hasSpan, .long a0_spanFrom, .int a0_spanMany, w_a0_least, w_a0_greatest, w_a0_isSquared, .int a0_hasPart, .long a0_parted, .int a0_partMany, .ref q_a0_partPrime, .ref q_a0_partPower, .int a0_rows, w_a0_row, .long a0_foundLeast, .long a0_foundGreatest, .int a0_foundSquare])), (q_a0_partPrime, .inl (cJ, 16, .inr (.inl a0_partPrime))), (q_a0_partPower, .inl (cI, 16, .inl a0_partPower))] sz)) 0 0 (va_A [(h_a0, .inr (8, [.int a0_primes, w_a0_prime, w_a0_isNone, .int a0_hasSpan, .long a0_spanFrom, .int a0_spanMany, w_a0_least, w_a0_greatest, w_a0_isSquared, .int a0_hasPart, .long a0_parted, .int a0_partMany, .ref q_a0_partPrime, .ref q_a0_partPower, .int a0_rows, w_a0_row, .long a0_foundLeast, .long a0_foundGreatest, .int a0_foundSquare])), (q_a0_partPrime, .inl (cJ, 16, .inr (.inl a0_partPrime))), (q_a0_partPower, .inl (cI, 16, .inl a0_partPower))] sz) := by
  refine Met.ofW (cc := cX9_parted) (maxL := 18) (ret := (some .long)) (by decide) rfl ?_
  intro p e s m args below meth c s₁ B hml hv
  obtain ⟨rfl, hsz, hP, hK, hN, hD0⟩ := hv
  have hx := B.exec
  have hb := B.bytes
  have hr := B.returns
  have hts := atoms_spec (ws := wsX9_parted) B.pre
  have hown : s.vm.findClass RX9 = some m.cls := findClass_of_methodNamed B.named
  subst hsz
  have hD := hD0.self (sz := s.heap.size)
  generalize hAe : va_A [(h_a0, .inr (8, [.int a0_primes, w_a0_prime, w_a0_isNone, .int a0_hasSpan, .long a0_spanFrom, .int a0_spanMany, w_a0_least, w_a0_greatest, w_a0_isSquared, .int a0_hasPart, .long a0_parted, .int a0_partMany, .ref q_a0_partPrime, .ref q_a0_partPower, .int a0_rows, w_a0_row, .long a0_foundLeast, .long a0_foundGreatest, .int a0_foundSquare])), (q_a0_partPrime, .inl (cJ, 16, .inr (.inl a0_partPrime))), (q_a0_partPower, .inl (cI, 16, .inl a0_partPower))] s.heap.size = A at hD ⊢
  have hA : ∀ q : Nat, s.heap.size ≤ q → A q := fun q h => by rw [← hAe]; exact Or.inr h
  have hS : va_S A s.heap s.heap [] := va_S.rf
  have hl := lv_entry ([.ref h_a0, .int p1]) (n := 18) (Nat.le_of_ble_eq_true rfl)
  rw [lg_entry_eq]
  generalize (lg_sl ([.ref h_a0, .int p1]) ++ List.replicate (18 - (lg_sl ([.ref h_a0, .int p1])).length) Slot.unset).toArray = ls at hl ⊢
  have hl : lv_has ls 18 [(0, .ref h_a0), (1, .int p1)] := hl
  have h := hQ
  unfold wp_X9_parted at h
  have hw_0 := hts (.fieldLink RX9 94 "NumberSievesModel" "hasPart" "Z") (by decide +kernel)
  have hin_X9 : ∀ w ∈ wsX90, w ∈ wsX9_parted := by decide +kernel
  have hw_2 := hts (.fieldLink RX9 97 "NumberSievesModel" "parted" "J") (by decide +kernel)
  have hw_3 := hts (.fieldLink RX9 54 "NumberSievesModel" "partMany" "I") (by decide +kernel)
  have hw_4 := hts (.fieldLink RX9 28 "NumberSievesModel" "partPrime" "[J") (by decide +kernel)
  have hw_5 := hts (.fieldLink RX9 31 "NumberSievesModel" "partPower" "[I") (by decide +kernel)
  refine lv_aload_n hx hb dX9_parted_0 rfl (lv_at hl 0 rfl) ?_
  refine va_get (D := (dC, dI)) (ci := 8) (v := .int a0_hasPart) (C := RX9) (T := TX9) (N := 19) hx hb hts hin_X9 hown hK hP 0 rfl rfl 9 (by decide) hw_0 (fun _ h9 => h9) rfl dX9_parted_1 ?_
  refine lv_if_ne (tgt := 9) hx hb dX9_parted_4 (by decide) (fun c_1 => ?_) (fun c_1 => ?_)
  · replace h := h.2 c_1
    refine lv_lconst (v := (1 : Int64)) hx hb dX9_parted_9 (by decide) ?_
    refine lv_lstore_n (lv' := [(2, .long (1 : Int64)), (0, .ref h_a0), (1, .int p1)]) hx hb dX9_parted_10 rfl hl (by decide) rfl (fun ls hl => ?_)
    refine lv_lconst (v := (1 : Int64)) hx hb dX9_parted_11 (by decide) ?_
    refine lv_lstore (lv' := [(4, .long (1 : Int64)), (2, .long (1 : Int64)), (0, .ref h_a0), (1, .int p1)]) hx hb dX9_parted_12 hl (by decide) rfl (fun ls hl => ?_)
    refine lv_aload_n hx hb dX9_parted_14 rfl (lv_at hl 2 rfl) ?_
    refine va_get (D := (dC, dI)) (ci := 8) (v := .long a0_parted) (C := RX9) (T := TX9) (N := 19) hx hb hts hin_X9 hown hK hP 0 rfl rfl 10 (by decide) hw_2 (fun _ h9 => h9) rfl dX9_parted_15 ?_
    refine lv_lstore (lv' := [(6, .long a0_parted), (4, .long (1 : Int64)), (2, .long (1 : Int64)), (0, .ref h_a0), (1, .int p1)]) hx hb dX9_parted_18 hl (by decide) rfl (fun ls hl => ?_)
    refine lv_lconst (v := (1 : Int64)) hx hb dX9_parted_20 (by decide) ?_
    refine lv_lstore (lv' := [(8, .long (1 : Int64)), (6, .long a0_parted), (4, .long (1 : Int64)), (2, .long (1 : Int64)), (0, .ref h_a0), (1, .int p1)]) hx hb dX9_parted_21 hl (by decide) rfl (fun ls hl => ?_)
    refine lv_lconst (v := (1 : Int64)) hx hb dX9_parted_23 (by decide) ?_
    refine lv_lstore (lv' := [(10, .long (1 : Int64)), (8, .long (1 : Int64)), (6, .long a0_parted), (4, .long (1 : Int64)), (2, .long (1 : Int64)), (0, .ref h_a0), (1, .int p1)]) hx hb dX9_parted_24 hl (by decide) rfl (fun ls hl => ?_)
    refine lv_iconst (v := (0 : Int32)) hx hb dX9_parted_26 (by decide) ?_
    refine lv_istore (lv' := [(12, .int (0 : Int32)), (10, .long (1 : Int64)), (8, .long (1 : Int64)), (6, .long a0_parted), (4, .long (1 : Int64)), (2, .long (1 : Int64)), (0, .ref h_a0), (1, .int p1)]) hx hb dX9_parted_27 hl (by decide) rfl (fun ls hl => ?_)
    obtain ⟨I_29_1, m_29_1, h0_29_1, hs_29_1⟩ := h
    have key_29_1 : ∀ (n : Nat) (l12_29_1 : Int32) (l10_29_1 : Int64) (l8_29_1 : Int64) (l6_29_1 : Int64) (l4_29_1 : Int64) (l2_29_1 : Int64), m_29_1 l12_29_1 l10_29_1 l8_29_1 l6_29_1 l4_29_1 l2_29_1 < n → I_29_1 l12_29_1 l10_29_1 l8_29_1 l6_29_1 l4_29_1 l2_29_1 → ∀ (ls : Array Slot) (H : Heap) (locs : List Loc), lv_has ls 18 [(12, .int l12_29_1), (10, .long l10_29_1), (8, .long l8_29_1), (6, .long l6_29_1), (4, .long l4_29_1), (2, .long l2_29_1), (0, .ref h_a0), (1, .int p1)] → va_P (dC, dI) vwCl [(h_a0, .inr (8, [.int a0_primes, w_a0_prime, w_a0_isNone, .int a0_hasSpan, .long a0_spanFrom, .int a0_spanMany, w_a0_least, w_a0_greatest, w_a0_isSquared, .int a0_hasPart, .long a0_parted, .int a0_partMany, .ref q_a0_partPrime, .ref q_a0_partPower, .int a0_rows, w_a0_row, .long a0_foundLeast, .long a0_foundGreatest, .int a0_foundSquare])), (q_a0_partPrime, .inl (cJ, 16, .inr (.inl a0_partPrime))), (q_a0_partPower, .inl (cI, 16, .inl a0_partPower))] H → va_D A [(h_a0, .inr (8, [.int a0_primes, w_a0_prime, w_a0_isNone, .int a0_hasSpan, .long a0_spanFrom, .int a0_spanMany, w_a0_least, w_a0_greatest, w_a0_isSquared, .int a0_hasPart, .long a0_parted, .int a0_partMany, .ref q_a0_partPrime, .ref q_a0_partPower, .int a0_rows, w_a0_row, .long a0_foundLeast, .long a0_foundGreatest, .int a0_foundSquare])), (q_a0_partPrime, .inl (cJ, 16, .inr (.inl a0_partPrime))), (q_a0_partPower, .inl (cI, 16, .inl a0_partPower))] → va_S A s.heap H locs → W p l e (headSpec wsX9_parted rm_X9_parted).room s m ([.ref h_a0, .int p1] : List Value).toArray below meth c H locs 0 0 (MQ below (qc_X9_parted dC dI cI cJ cZ h_a0 a0_primes w_a0_prime w_a0_isNone a0_hasSpan a0_spanFrom a0_spanMany w_a0_least w_a0_greatest w_a0_isSquared a0_hasPart a0_parted a0_partMany a0_partPrime q_a0_partPrime a0_partPower q_a0_partPower a0_rows w_a0_row a0_foundLeast a0_foundGreatest a0_foundSquare Q A) ([.ref h_a0, .int p1] : List Value).toArray s 0 0 A) (F0 m 29 ls []) := by
      intro n
      induction n with
      | zero =>
        intro l12_29_1 l10_29_1 l8_29_1 l6_29_1 l4_29_1 l2_29_1 hm
        exact absurd hm (Nat.not_lt_zero _)
      | succ n ih_29_1 =>
        intro l12_29_1 l10_29_1 l8_29_1 l6_29_1 l4_29_1 l2_29_1 hm_29_1 hI ls H locs hl hP hD hS
        have h := hs_29_1 l12_29_1 l10_29_1 l8_29_1 l6_29_1 l4_29_1 l2_29_1 hI
        refine lv_iload hx hb dX9_parted_29 (lv_at hl 0 rfl) ?_
        refine lv_aload_n hx hb dX9_parted_31 rfl (lv_at hl 6 rfl) ?_
        refine va_get (D := (dC, dI)) (ci := 8) (v := .int a0_partMany) (C := RX9) (T := TX9) (N := 19) hx hb hts hin_X9 hown hK hP 0 rfl rfl 11 (by decide) hw_3 (fun _ h9 => h9) rfl dX9_parted_32 ?_
        refine lv_icmp_ge (tgt := 145) hx hb dX9_parted_35 (by decide) (fun c_3 => ?_) (fun c_3 => ?_)
        · replace h := h.1 c_3
          refine lv_iload_n hx hb dX9_parted_145 rfl (lv_at hl 7 rfl) ?_
          by_cases c_4 : p1 = (0 : Int32)
          · refine lv_tableIn (off := 38) (tgt := 184) hx hb dX9_parted_146 (by rw [c_4]; decide) (by rw [c_4]; decide) (by rw [c_4]; rfl) (by decide) ?_
            replace h := h.1 c_4
            refine lv_aload_n hx hb dX9_parted_184 rfl (lv_at hl 6 rfl) ?_
            refine va_get (D := (dC, dI)) (ci := 8) (v := .long a0_parted) (C := RX9) (T := TX9) (N := 19) hx hb hts hin_X9 hown hK hP 0 rfl rfl 10 (by decide) hw_2 (fun _ h9 => h9) rfl dX9_parted_185 ?_
            have hP9 := hP.sub (ws' := [(h_a0, .inr (8, [.int a0_primes, w_a0_prime, w_a0_isNone, .int a0_hasSpan, .long a0_spanFrom, .int a0_spanMany, w_a0_least, w_a0_greatest, w_a0_isSquared, .int a0_hasPart, .long a0_parted, .int a0_partMany, .ref q_a0_partPrime, .ref q_a0_partPower, .int a0_rows, w_a0_row, .long a0_foundLeast, .long a0_foundGreatest, .int a0_foundSquare])), (q_a0_partPrime, .inl (cJ, 16, .inr (.inl a0_partPrime))), (q_a0_partPower, .inl (cI, 16, .inl a0_partPower))]) [0, 1, 2] rfl
            have hD9 := hD.sub (ws' := [(h_a0, .inr (8, [.int a0_primes, w_a0_prime, w_a0_isNone, .int a0_hasSpan, .long a0_spanFrom, .int a0_spanMany, w_a0_least, w_a0_greatest, w_a0_isSquared, .int a0_hasPart, .long a0_parted, .int a0_partMany, .ref q_a0_partPrime, .ref q_a0_partPower, .int a0_rows, w_a0_row, .long a0_foundLeast, .long a0_foundGreatest, .int a0_foundSquare])), (q_a0_partPrime, .inl (cJ, 16, .inr (.inl a0_partPrime))), (q_a0_partPower, .inl (cI, 16, .inl a0_partPower))]) [0, 1, 2] (by decide) rfl
            exact W.lret (v := a0_parted) hx hb hr (fun t ht hW => ⟨⟨_, (), rfl, h, by rw [ht]; exact hP9, hD9⟩, hS.F ht⟩) hS.2.2 dX9_parted_188
          by_cases c_5 : p1 = (1 : Int32)
          · refine lv_tableIn (off := 43) (tgt := 189) hx hb dX9_parted_146 (by rw [c_5]; decide) (by rw [c_5]; decide) (by rw [c_5]; rfl) (by decide) ?_
            replace h := h.2.1 c_5
            refine lv_lload_n hx hb dX9_parted_189 rfl (lv_at hl 5 rfl) ?_
            have hP9 := hP.sub (ws' := [(h_a0, .inr (8, [.int a0_primes, w_a0_prime, w_a0_isNone, .int a0_hasSpan, .long a0_spanFrom, .int a0_spanMany, w_a0_least, w_a0_greatest, w_a0_isSquared, .int a0_hasPart, .long a0_parted, .int a0_partMany, .ref q_a0_partPrime, .ref q_a0_partPower, .int a0_rows, w_a0_row, .long a0_foundLeast, .long a0_foundGreatest, .int a0_foundSquare])), (q_a0_partPrime, .inl (cJ, 16, .inr (.inl a0_partPrime))), (q_a0_partPower, .inl (cI, 16, .inl a0_partPower))]) [0, 1, 2] rfl
            have hD9 := hD.sub (ws' := [(h_a0, .inr (8, [.int a0_primes, w_a0_prime, w_a0_isNone, .int a0_hasSpan, .long a0_spanFrom, .int a0_spanMany, w_a0_least, w_a0_greatest, w_a0_isSquared, .int a0_hasPart, .long a0_parted, .int a0_partMany, .ref q_a0_partPrime, .ref q_a0_partPower, .int a0_rows, w_a0_row, .long a0_foundLeast, .long a0_foundGreatest, .int a0_foundSquare])), (q_a0_partPrime, .inl (cJ, 16, .inr (.inl a0_partPrime))), (q_a0_partPower, .inl (cI, 16, .inl a0_partPower))]) [0, 1, 2] (by decide) rfl
            exact W.lret (v := l2_29_1) hx hb hr (fun t ht hW => ⟨⟨_, (), rfl, h, by rw [ht]; exact hP9, hD9⟩, hS.F ht⟩) hS.2.2 dX9_parted_190
          by_cases c_6 : p1 = (2 : Int32)
          · refine lv_tableIn (off := 45) (tgt := 191) hx hb dX9_parted_146 (by rw [c_6]; decide) (by rw [c_6]; decide) (by rw [c_6]; rfl) (by decide) ?_
            replace h := h.2.2.1 c_6
            refine lv_lload hx hb dX9_parted_191 (lv_at hl 4 rfl) ?_
            have hP9 := hP.sub (ws' := [(h_a0, .inr (8, [.int a0_primes, w_a0_prime, w_a0_isNone, .int a0_hasSpan, .long a0_spanFrom, .int a0_spanMany, w_a0_least, w_a0_greatest, w_a0_isSquared, .int a0_hasPart, .long a0_parted, .int a0_partMany, .ref q_a0_partPrime, .ref q_a0_partPower, .int a0_rows, w_a0_row, .long a0_foundLeast, .long a0_foundGreatest, .int a0_foundSquare])), (q_a0_partPrime, .inl (cJ, 16, .inr (.inl a0_partPrime))), (q_a0_partPower, .inl (cI, 16, .inl a0_partPower))]) [0, 1, 2] rfl
            have hD9 := hD.sub (ws' := [(h_a0, .inr (8, [.int a0_primes, w_a0_prime, w_a0_isNone, .int a0_hasSpan, .long a0_spanFrom, .int a0_spanMany, w_a0_least, w_a0_greatest, w_a0_isSquared, .int a0_hasPart, .long a0_parted, .int a0_partMany, .ref q_a0_partPrime, .ref q_a0_partPower, .int a0_rows, w_a0_row, .long a0_foundLeast, .long a0_foundGreatest, .int a0_foundSquare])), (q_a0_partPrime, .inl (cJ, 16, .inr (.inl a0_partPrime))), (q_a0_partPower, .inl (cI, 16, .inl a0_partPower))]) [0, 1, 2] (by decide) rfl
            exact W.lret (v := l4_29_1) hx hb hr (fun t ht hW => ⟨⟨_, (), rfl, h, by rw [ht]; exact hP9, hD9⟩, hS.F ht⟩) hS.2.2 dX9_parted_193
          by_cases c_7 : p1 = (3 : Int32)
          · refine lv_tableIn (off := 48) (tgt := 194) hx hb dX9_parted_146 (by rw [c_7]; decide) (by rw [c_7]; decide) (by rw [c_7]; rfl) (by decide) ?_
            replace h := h.2.2.2.1 c_7
            refine lv_lload hx hb dX9_parted_194 (lv_at hl 3 rfl) ?_
            have hP9 := hP.sub (ws' := [(h_a0, .inr (8, [.int a0_primes, w_a0_prime, w_a0_isNone, .int a0_hasSpan, .long a0_spanFrom, .int a0_spanMany, w_a0_least, w_a0_greatest, w_a0_isSquared, .int a0_hasPart, .long a0_parted, .int a0_partMany, .ref q_a0_partPrime, .ref q_a0_partPower, .int a0_rows, w_a0_row, .long a0_foundLeast, .long a0_foundGreatest, .int a0_foundSquare])), (q_a0_partPrime, .inl (cJ, 16, .inr (.inl a0_partPrime))), (q_a0_partPower, .inl (cI, 16, .inl a0_partPower))]) [0, 1, 2] rfl
            have hD9 := hD.sub (ws' := [(h_a0, .inr (8, [.int a0_primes, w_a0_prime, w_a0_isNone, .int a0_hasSpan, .long a0_spanFrom, .int a0_spanMany, w_a0_least, w_a0_greatest, w_a0_isSquared, .int a0_hasPart, .long a0_parted, .int a0_partMany, .ref q_a0_partPrime, .ref q_a0_partPower, .int a0_rows, w_a0_row, .long a0_foundLeast, .long a0_foundGreatest, .int a0_foundSquare])), (q_a0_partPrime, .inl (cJ, 16, .inr (.inl a0_partPrime))), (q_a0_partPower, .inl (cI, 16, .inl a0_partPower))]) [0, 1, 2] (by decide) rfl
            exact W.lret (v := l6_29_1) hx hb hr (fun t ht hW => ⟨⟨_, (), rfl, h, by rw [ht]; exact hP9, hD9⟩, hS.F ht⟩) hS.2.2 dX9_parted_196
          by_cases c_8 : p1 = (4 : Int32)
          · refine lv_tableIn (off := 51) (tgt := 197) hx hb dX9_parted_146 (by rw [c_8]; decide) (by rw [c_8]; decide) (by rw [c_8]; rfl) (by decide) ?_
            replace h := h.2.2.2.2.1 c_8
            refine lv_lload hx hb dX9_parted_197 (lv_at hl 2 rfl) ?_
            have hP9 := hP.sub (ws' := [(h_a0, .inr (8, [.int a0_primes, w_a0_prime, w_a0_isNone, .int a0_hasSpan, .long a0_spanFrom, .int a0_spanMany, w_a0_least, w_a0_greatest, w_a0_isSquared, .int a0_hasPart, .long a0_parted, .int a0_partMany, .ref q_a0_partPrime, .ref q_a0_partPower, .int a0_rows, w_a0_row, .long a0_foundLeast, .long a0_foundGreatest, .int a0_foundSquare])), (q_a0_partPrime, .inl (cJ, 16, .inr (.inl a0_partPrime))), (q_a0_partPower, .inl (cI, 16, .inl a0_partPower))]) [0, 1, 2] rfl
            have hD9 := hD.sub (ws' := [(h_a0, .inr (8, [.int a0_primes, w_a0_prime, w_a0_isNone, .int a0_hasSpan, .long a0_spanFrom, .int a0_spanMany, w_a0_least, w_a0_greatest, w_a0_isSquared, .int a0_hasPart, .long a0_parted, .int a0_partMany, .ref q_a0_partPrime, .ref q_a0_partPower, .int a0_rows, w_a0_row, .long a0_foundLeast, .long a0_foundGreatest, .int a0_foundSquare])), (q_a0_partPrime, .inl (cJ, 16, .inr (.inl a0_partPrime))), (q_a0_partPower, .inl (cI, 16, .inl a0_partPower))]) [0, 1, 2] (by decide) rfl
            exact W.lret (v := l8_29_1) hx hb hr (fun t ht hW => ⟨⟨_, (), rfl, h, by rw [ht]; exact hP9, hD9⟩, hS.F ht⟩) hS.2.2 dX9_parted_199
          by_cases c_9 : p1 = (5 : Int32)
          · refine lv_tableIn (off := 54) (tgt := 200) hx hb dX9_parted_146 (by rw [c_9]; decide) (by rw [c_9]; decide) (by rw [c_9]; rfl) (by decide) ?_
            replace h := h.2.2.2.2.2.1 c_9
            refine lv_lload hx hb dX9_parted_200 (lv_at hl 1 rfl) ?_
            have hP9 := hP.sub (ws' := [(h_a0, .inr (8, [.int a0_primes, w_a0_prime, w_a0_isNone, .int a0_hasSpan, .long a0_spanFrom, .int a0_spanMany, w_a0_least, w_a0_greatest, w_a0_isSquared, .int a0_hasPart, .long a0_parted, .int a0_partMany, .ref q_a0_partPrime, .ref q_a0_partPower, .int a0_rows, w_a0_row, .long a0_foundLeast, .long a0_foundGreatest, .int a0_foundSquare])), (q_a0_partPrime, .inl (cJ, 16, .inr (.inl a0_partPrime))), (q_a0_partPower, .inl (cI, 16, .inl a0_partPower))]) [0, 1, 2] rfl
            have hD9 := hD.sub (ws' := [(h_a0, .inr (8, [.int a0_primes, w_a0_prime, w_a0_isNone, .int a0_hasSpan, .long a0_spanFrom, .int a0_spanMany, w_a0_least, w_a0_greatest, w_a0_isSquared, .int a0_hasPart, .long a0_parted, .int a0_partMany, .ref q_a0_partPrime, .ref q_a0_partPower, .int a0_rows, w_a0_row, .long a0_foundLeast, .long a0_foundGreatest, .int a0_foundSquare])), (q_a0_partPrime, .inl (cJ, 16, .inr (.inl a0_partPrime))), (q_a0_partPower, .inl (cI, 16, .inl a0_partPower))]) [0, 1, 2] (by decide) rfl
            exact W.lret (v := l10_29_1) hx hb hr (fun t ht hW => ⟨⟨_, (), rfl, h, by rw [ht]; exact hP9, hD9⟩, hS.F ht⟩) hS.2.2 dX9_parted_202
          have t0 : p1.toInt ≠ 0 := fun q => c_4 (Int32.toInt_inj.mp (q.trans (by decide)))
          have t1 : p1.toInt ≠ 1 := fun q => c_5 (Int32.toInt_inj.mp (q.trans (by decide)))
          have t2 : p1.toInt ≠ 2 := fun q => c_6 (Int32.toInt_inj.mp (q.trans (by decide)))
          have t3 : p1.toInt ≠ 3 := fun q => c_7 (Int32.toInt_inj.mp (q.trans (by decide)))
          have t4 : p1.toInt ≠ 4 := fun q => c_8 (Int32.toInt_inj.mp (q.trans (by decide)))
          have t5 : p1.toInt ≠ 5 := fun q => c_9 (Int32.toInt_inj.mp (q.trans (by decide)))
          refine lv_tableOut (tgt := 203) hx hb dX9_parted_146 (by omega) (by decide) ?_
          replace h := h.2.2.2.2.2.2 c_4 c_5 c_6 c_7 c_8 c_9
          refine lv_lconst (v := (0 : Int64)) hx hb dX9_parted_203 (by decide) ?_
          have hP9 := hP.sub (ws' := [(h_a0, .inr (8, [.int a0_primes, w_a0_prime, w_a0_isNone, .int a0_hasSpan, .long a0_spanFrom, .int a0_spanMany, w_a0_least, w_a0_greatest, w_a0_isSquared, .int a0_hasPart, .long a0_parted, .int a0_partMany, .ref q_a0_partPrime, .ref q_a0_partPower, .int a0_rows, w_a0_row, .long a0_foundLeast, .long a0_foundGreatest, .int a0_foundSquare])), (q_a0_partPrime, .inl (cJ, 16, .inr (.inl a0_partPrime))), (q_a0_partPower, .inl (cI, 16, .inl a0_partPower))]) [0, 1, 2] rfl
          have hD9 := hD.sub (ws' := [(h_a0, .inr (8, [.int a0_primes, w_a0_prime, w_a0_isNone, .int a0_hasSpan, .long a0_spanFrom, .int a0_spanMany, w_a0_least, w_a0_greatest, w_a0_isSquared, .int a0_hasPart, .long a0_parted, .int a0_partMany, .ref q_a0_partPrime, .ref q_a0_partPower, .int a0_rows, w_a0_row, .long a0_foundLeast, .long a0_foundGreatest, .int a0_foundSquare])), (q_a0_partPrime, .inl (cJ, 16, .inr (.inl a0_partPrime))), (q_a0_partPower, .inl (cI, 16, .inl a0_partPower))]) [0, 1, 2] (by decide) rfl
          exact W.lret (v := (0 : Int64)) hx hb hr (fun t ht hW => ⟨⟨_, (), rfl, h, by rw [ht]; exact hP9, hD9⟩, hS.F ht⟩) hS.2.2 dX9_parted_204
        · replace h := h.2 c_3
          refine lv_aload_n hx hb dX9_parted_38 rfl (lv_at hl 6 rfl) ?_
          refine va_get (D := (dC, dI)) (ci := 8) (v := .ref q_a0_partPrime) (C := RX9) (T := TX9) (N := 19) hx hb hts hin_X9 hown hK hP 0 rfl rfl 12 (by decide) hw_4 (fun _ h9 => h9) rfl dX9_parted_39 ?_
          refine lv_iload hx hb dX9_parted_42 (lv_at hl 0 rfl) ?_
          obtain ⟨hin_10, h⟩ := h
          refine va_lald hx hb hK hP 1 1 rfl rfl hin_10 dX9_parted_44 ?_
          refine lv_topl (fun x13_11 e_x13_11 => ?_)
          replace h := h x13_11 e_x13_11
          refine lv_lstore (lv' := [(13, .long x13_11), (12, .int l12_29_1), (10, .long l10_29_1), (8, .long l8_29_1), (6, .long l6_29_1), (4, .long l4_29_1), (2, .long l2_29_1), (0, .ref h_a0), (1, .int p1)]) hx hb dX9_parted_45 hl (by decide) rfl (fun ls hl => ?_)
          refine lv_lload_n hx hb dX9_parted_47 rfl (lv_at hl 6 rfl) ?_
          refine lv_aload_n hx hb dX9_parted_48 rfl (lv_at hl 7 rfl) ?_
          refine va_get (D := (dC, dI)) (ci := 8) (v := .ref q_a0_partPower) (C := RX9) (T := TX9) (N := 19) hx hb hts hin_X9 hown hK hP 0 rfl rfl 13 (by decide) hw_5 (fun _ h9 => h9) rfl dX9_parted_49 ?_
          refine lv_iload hx hb dX9_parted_52 (lv_at hl 1 rfl) ?_
          obtain ⟨hin_12, h⟩ := h
          refine va_iald hx hb hK hP 2 0 rfl rfl hin_12 dX9_parted_54 ?_
          refine lv_i2l hx hb dX9_parted_55 rfl ?_
          refine lv_lconst (v := (1 : Int64)) hx hb dX9_parted_56 (by decide) ?_
          refine lv_ladd hx hb dX9_parted_57 ?_
          refine lv_lmul hx hb dX9_parted_58 ?_
          refine lv_topl (fun x2_13 e_x2_13 => ?_)
          replace h := h x2_13 e_x2_13
          refine lv_lstore_n (lv' := [(2, .long x2_13), (13, .long x13_11), (12, .int l12_29_1), (10, .long l10_29_1), (8, .long l8_29_1), (6, .long l6_29_1), (4, .long l4_29_1), (0, .ref h_a0), (1, .int p1)]) hx hb dX9_parted_59 rfl hl (by decide) rfl (fun ls hl => ?_)
          refine lv_lconst (v := (1 : Int64)) hx hb dX9_parted_60 (by decide) ?_
          refine lv_lstore (lv' := [(15, .long (1 : Int64)), (2, .long x2_13), (13, .long x13_11), (12, .int l12_29_1), (10, .long l10_29_1), (8, .long l8_29_1), (6, .long l6_29_1), (4, .long l4_29_1), (0, .ref h_a0), (1, .int p1)]) hx hb dX9_parted_61 hl (by decide) rfl (fun ls hl => ?_)
          refine lv_iconst (v := (0 : Int32)) hx hb dX9_parted_63 (by decide) ?_
          refine lv_istore (lv' := [(17, .int (0 : Int32)), (15, .long (1 : Int64)), (2, .long x2_13), (13, .long x13_11), (12, .int l12_29_1), (10, .long l10_29_1), (8, .long l8_29_1), (6, .long l6_29_1), (4, .long l4_29_1), (0, .ref h_a0), (1, .int p1)]) hx hb dX9_parted_64 hl (by decide) rfl (fun ls hl => ?_)
          obtain ⟨I_66_13, m_66_13, h0_66_13, hs_66_13⟩ := h
          have key_66_13 : ∀ (n : Nat) (l17_66_13 : Int32) (l15_66_13 : Int64), m_66_13 l17_66_13 l15_66_13 < n → I_66_13 l17_66_13 l15_66_13 → ∀ (ls : Array Slot) (H : Heap) (locs : List Loc), lv_has ls 18 [(17, .int l17_66_13), (15, .long l15_66_13), (2, .long x2_13), (13, .long x13_11), (12, .int l12_29_1), (10, .long l10_29_1), (8, .long l8_29_1), (6, .long l6_29_1), (4, .long l4_29_1), (0, .ref h_a0), (1, .int p1)] → va_P (dC, dI) vwCl [(h_a0, .inr (8, [.int a0_primes, w_a0_prime, w_a0_isNone, .int a0_hasSpan, .long a0_spanFrom, .int a0_spanMany, w_a0_least, w_a0_greatest, w_a0_isSquared, .int a0_hasPart, .long a0_parted, .int a0_partMany, .ref q_a0_partPrime, .ref q_a0_partPower, .int a0_rows, w_a0_row, .long a0_foundLeast, .long a0_foundGreatest, .int a0_foundSquare])), (q_a0_partPrime, .inl (cJ, 16, .inr (.inl a0_partPrime))), (q_a0_partPower, .inl (cI, 16, .inl a0_partPower))] H → va_D A [(h_a0, .inr (8, [.int a0_primes, w_a0_prime, w_a0_isNone, .int a0_hasSpan, .long a0_spanFrom, .int a0_spanMany, w_a0_least, w_a0_greatest, w_a0_isSquared, .int a0_hasPart, .long a0_parted, .int a0_partMany, .ref q_a0_partPrime, .ref q_a0_partPower, .int a0_rows, w_a0_row, .long a0_foundLeast, .long a0_foundGreatest, .int a0_foundSquare])), (q_a0_partPrime, .inl (cJ, 16, .inr (.inl a0_partPrime))), (q_a0_partPower, .inl (cI, 16, .inl a0_partPower))] → va_S A s.heap H locs → W p l e (headSpec wsX9_parted rm_X9_parted).room s m ([.ref h_a0, .int p1] : List Value).toArray below meth c H locs 0 0 (MQ below (qc_X9_parted dC dI cI cJ cZ h_a0 a0_primes w_a0_prime w_a0_isNone a0_hasSpan a0_spanFrom a0_spanMany w_a0_least w_a0_greatest w_a0_isSquared a0_hasPart a0_parted a0_partMany a0_partPrime q_a0_partPrime a0_partPower q_a0_partPower a0_rows w_a0_row a0_foundLeast a0_foundGreatest a0_foundSquare Q A) ([.ref h_a0, .int p1] : List Value).toArray s 0 0 A) (F0 m 66 ls []) := by
            intro n
            induction n with
            | zero =>
              intro l17_66_13 l15_66_13 hm
              exact absurd hm (Nat.not_lt_zero _)
            | succ n ih_66_13 =>
              intro l17_66_13 l15_66_13 hm_66_13 hI ls H locs hl hP hD hS
              have h := hs_66_13 l17_66_13 l15_66_13 hI
              refine lv_iload hx hb dX9_parted_66 (lv_at hl 0 rfl) ?_
              refine lv_aload_n hx hb dX9_parted_68 rfl (lv_at hl 9 rfl) ?_
              refine va_get (D := (dC, dI)) (ci := 8) (v := .ref q_a0_partPower) (C := RX9) (T := TX9) (N := 19) hx hb hts hin_X9 hown hK hP 0 rfl rfl 13 (by decide) hw_5 (fun _ h9 => h9) rfl dX9_parted_69 ?_
              refine lv_iload hx hb dX9_parted_72 (lv_at hl 4 rfl) ?_
              obtain ⟨hin_15, h⟩ := h
              refine va_iald hx hb hK hP 2 0 rfl rfl hin_15 dX9_parted_74 ?_
              refine lv_icmp_ge (tgt := 93) hx hb dX9_parted_75 (by decide) (fun c_16 => ?_) (fun c_16 => ?_)
              · replace h := h.1 c_16
                refine lv_lload hx hb dX9_parted_93 (lv_at hl 8 rfl) ?_
                refine lv_lload hx hb dX9_parted_95 (lv_at hl 1 rfl) ?_
                refine lv_lmul hx hb dX9_parted_97 ?_
                refine lv_topl (fun x4_17 e_x4_17 => ?_)
                replace h := h x4_17 e_x4_17
                refine lv_lstore (lv' := [(4, .long x4_17), (17, .int l17_66_13), (15, .long l15_66_13), (2, .long x2_13), (13, .long x13_11), (12, .int l12_29_1), (10, .long l10_29_1), (8, .long l8_29_1), (6, .long l6_29_1), (0, .ref h_a0), (1, .int p1)]) hx hb dX9_parted_98 hl (by decide) rfl (fun ls hl => ?_)
                refine lv_lload hx hb dX9_parted_100 (lv_at hl 8 rfl) ?_
                refine lv_lload hx hb dX9_parted_102 (lv_at hl 4 rfl) ?_
                obtain ⟨hne_18, h⟩ := h
                refine lv_ldiv hx hb dX9_parted_104 hne_18 ?_
                refine lv_lload hx hb dX9_parted_105 (lv_at hl 4 rfl) ?_
                refine lv_lconst (v := (1 : Int64)) hx hb dX9_parted_107 (by decide) ?_
                refine lv_lsub hx hb dX9_parted_108 ?_
                refine lv_lmul hx hb dX9_parted_109 ?_
                refine lv_topl (fun x6_19 e_x6_19 => ?_)
                replace h := h x6_19 e_x6_19
                refine lv_lstore (lv' := [(6, .long x6_19), (4, .long x4_17), (17, .int l17_66_13), (15, .long l15_66_13), (2, .long x2_13), (13, .long x13_11), (12, .int l12_29_1), (10, .long l10_29_1), (8, .long l8_29_1), (0, .ref h_a0), (1, .int p1)]) hx hb dX9_parted_110 hl (by decide) rfl (fun ls hl => ?_)
                refine lv_aload_n hx hb dX9_parted_112 rfl (lv_at hl 9 rfl) ?_
                refine va_get (D := (dC, dI)) (ci := 8) (v := .ref q_a0_partPower) (C := RX9) (T := TX9) (N := 19) hx hb hts hin_X9 hown hK hP 0 rfl rfl 13 (by decide) hw_5 (fun _ h9 => h9) rfl dX9_parted_113 ?_
                refine lv_iload hx hb dX9_parted_116 (lv_at hl 6 rfl) ?_
                obtain ⟨hin_20, h⟩ := h
                refine va_iald hx hb hK hP 2 0 rfl rfl hin_20 dX9_parted_118 ?_
                refine lv_iconst (v := (1 : Int32)) hx hb dX9_parted_119 (by decide) ?_
                refine lv_icmp_le (tgt := 127) hx hb dX9_parted_120 (by decide) (fun c_21 => ?_) (fun c_21 => ?_)
                · replace h := h.1 c_21
                  refine lv_lload hx hb dX9_parted_127 (lv_at hl 8 rfl) ?_
                  refine lv_lneg hx hb dX9_parted_129 ?_
                  refine lv_topl (fun x8_22 e_x8_22 => ?_)
                  replace h := h x8_22 e_x8_22
                  refine lv_lstore (lv' := [(8, .long x8_22), (6, .long x6_19), (4, .long x4_17), (17, .int l17_66_13), (15, .long l15_66_13), (2, .long x2_13), (13, .long x13_11), (12, .int l12_29_1), (10, .long l10_29_1), (0, .ref h_a0), (1, .int p1)]) hx hb dX9_parted_130 hl (by decide) rfl (fun ls hl => ?_)
                  refine lv_lload hx hb dX9_parted_132 (lv_at hl 8 rfl) ?_
                  refine lv_lload hx hb dX9_parted_134 (lv_at hl 6 rfl) ?_
                  refine lv_lmul hx hb dX9_parted_136 ?_
                  refine lv_topl (fun x10_23 e_x10_23 => ?_)
                  replace h := h x10_23 e_x10_23
                  refine lv_lstore (lv' := [(10, .long x10_23), (8, .long x8_22), (6, .long x6_19), (4, .long x4_17), (17, .int l17_66_13), (15, .long l15_66_13), (2, .long x2_13), (13, .long x13_11), (12, .int l12_29_1), (0, .ref h_a0), (1, .int p1)]) hx hb dX9_parted_137 hl (by decide) rfl (fun ls hl => ?_)
                  obtain ⟨x12_24, e_x12_24⟩ : ∃ y : Int32, y = l12_29_1 + (1 : Int32) := ⟨_, rfl⟩
                  replace h := h x12_24 e_x12_24
                  refine lv_iinc (v := x12_24) (lv' := [(12, .int x12_24), (10, .long x10_23), (8, .long x8_22), (6, .long x6_19), (4, .long x4_17), (17, .int l17_66_13), (15, .long l15_66_13), (2, .long x2_13), (13, .long x13_11), (0, .ref h_a0), (1, .int p1)]) hx hb dX9_parted_139 hl (k := 8) rfl (by rw [e_x12_24]; rfl) (by decide) rfl (fun ls hl => ?_)
                  refine lv_goto (tgt := 29) hx hb dX9_parted_142 (by decide) ?_
                  exact ih_29_1 x12_24 x10_23 x8_22 x6_19 x4_17 x2_13 (Nat.lt_of_lt_of_le h.2 (Nat.le_of_lt_succ hm_29_1)) h.1 _ _ _ (lv_sub hl [0, 1, 2, 3, 4, 7, 9, 10] rfl) (hP.sub [0, 1, 2] rfl) (hD.sub [0, 1, 2] (by decide) rfl) hS
                · replace h := h.2 c_21
                  refine lv_lconst (v := (0 : Int64)) hx hb dX9_parted_123 (by decide) ?_
                  refine lv_goto (tgt := 130) hx hb dX9_parted_124 (by decide) ?_
                  refine lv_lstore (lv' := [(8, .long (0 : Int64)), (6, .long x6_19), (4, .long x4_17), (17, .int l17_66_13), (15, .long l15_66_13), (2, .long x2_13), (13, .long x13_11), (12, .int l12_29_1), (10, .long l10_29_1), (0, .ref h_a0), (1, .int p1)]) hx hb dX9_parted_130 hl (by decide) rfl (fun ls hl => ?_)
                  refine lv_lload hx hb dX9_parted_132 (lv_at hl 8 rfl) ?_
                  refine lv_lload hx hb dX9_parted_134 (lv_at hl 6 rfl) ?_
                  refine lv_lmul hx hb dX9_parted_136 ?_
                  refine lv_topl (fun x10_25 e_x10_25 => ?_)
                  replace h := h x10_25 e_x10_25
                  refine lv_lstore (lv' := [(10, .long x10_25), (8, .long (0 : Int64)), (6, .long x6_19), (4, .long x4_17), (17, .int l17_66_13), (15, .long l15_66_13), (2, .long x2_13), (13, .long x13_11), (12, .int l12_29_1), (0, .ref h_a0), (1, .int p1)]) hx hb dX9_parted_137 hl (by decide) rfl (fun ls hl => ?_)
                  obtain ⟨x12_26, e_x12_26⟩ : ∃ y : Int32, y = l12_29_1 + (1 : Int32) := ⟨_, rfl⟩
                  replace h := h x12_26 e_x12_26
                  refine lv_iinc (v := x12_26) (lv' := [(12, .int x12_26), (10, .long x10_25), (8, .long (0 : Int64)), (6, .long x6_19), (4, .long x4_17), (17, .int l17_66_13), (15, .long l15_66_13), (2, .long x2_13), (13, .long x13_11), (0, .ref h_a0), (1, .int p1)]) hx hb dX9_parted_139 hl (k := 8) rfl (by rw [e_x12_26]; rfl) (by decide) rfl (fun ls hl => ?_)
                  refine lv_goto (tgt := 29) hx hb dX9_parted_142 (by decide) ?_
                  exact ih_29_1 x12_26 x10_25 (0 : Int64) x6_19 x4_17 x2_13 (Nat.lt_of_lt_of_le h.2 (Nat.le_of_lt_succ hm_29_1)) h.1 _ _ _ (lv_sub hl [0, 1, 2, 3, 4, 7, 9, 10] rfl) (hP.sub [0, 1, 2] rfl) (hD.sub [0, 1, 2] (by decide) rfl) hS
              · replace h := h.2 c_16
                refine lv_lload hx hb dX9_parted_78 (lv_at hl 1 rfl) ?_
                refine lv_lload hx hb dX9_parted_80 (lv_at hl 3 rfl) ?_
                refine lv_lmul hx hb dX9_parted_82 ?_
                refine lv_lconst (v := (1 : Int64)) hx hb dX9_parted_83 (by decide) ?_
                refine lv_ladd hx hb dX9_parted_84 ?_
                refine lv_topl (fun x15_27 e_x15_27 => ?_)
                replace h := h x15_27 e_x15_27
                refine lv_lstore (lv' := [(15, .long x15_27), (17, .int l17_66_13), (2, .long x2_13), (13, .long x13_11), (12, .int l12_29_1), (10, .long l10_29_1), (8, .long l8_29_1), (6, .long l6_29_1), (4, .long l4_29_1), (0, .ref h_a0), (1, .int p1)]) hx hb dX9_parted_85 hl (by decide) rfl (fun ls hl => ?_)
                obtain ⟨x17_28, e_x17_28⟩ : ∃ y : Int32, y = l17_66_13 + (1 : Int32) := ⟨_, rfl⟩
                replace h := h x17_28 e_x17_28
                refine lv_iinc (v := x17_28) (lv' := [(17, .int x17_28), (15, .long x15_27), (2, .long x2_13), (13, .long x13_11), (12, .int l12_29_1), (10, .long l10_29_1), (8, .long l8_29_1), (6, .long l6_29_1), (4, .long l4_29_1), (0, .ref h_a0), (1, .int p1)]) hx hb dX9_parted_87 hl (k := 1) rfl (by rw [e_x17_28]; rfl) (by decide) rfl (fun ls hl => ?_)
                refine lv_goto (tgt := 66) hx hb dX9_parted_90 (by decide) ?_
                exact ih_66_13 x17_28 x15_27 (Nat.lt_of_lt_of_le h.2 (Nat.le_of_lt_succ hm_66_13)) h.1 _ _ _ (lv_sub hl [0, 1, 2, 3, 4, 5, 6, 7, 8, 9, 10] rfl) (hP.sub [0, 1, 2] rfl) (hD.sub [0, 1, 2] (by decide) rfl) hS
          exact key_66_13 _ (0 : Int32) (1 : Int64) (Nat.lt_succ_self _) h0_66_13 _ _ _ (lv_sub hl [0, 1, 2, 3, 4, 5, 6, 7, 8, 9, 10] rfl) (hP.sub [0, 1, 2] rfl) (hD.sub [0, 1, 2] (by decide) rfl) hS
    exact key_29_1 _ (0 : Int32) (1 : Int64) (1 : Int64) a0_parted (1 : Int64) (1 : Int64) (Nat.lt_succ_self _) h0_29_1 _ _ _ (lv_sub hl [0, 1, 2, 3, 4, 5, 6, 7] rfl) (hP.sub [0, 1, 2] rfl) (hD.sub [0, 1, 2] (by decide) rfl) hS
  · replace h := h.1 c_1
    refine lv_lconst (v := (0 : Int64)) hx hb dX9_parted_7 (by decide) ?_
    have hP9 := hP.sub (ws' := [(h_a0, .inr (8, [.int a0_primes, w_a0_prime, w_a0_isNone, .int a0_hasSpan, .long a0_spanFrom, .int a0_spanMany, w_a0_least, w_a0_greatest, w_a0_isSquared, .int a0_hasPart, .long a0_parted, .int a0_partMany, .ref q_a0_partPrime, .ref q_a0_partPower, .int a0_rows, w_a0_row, .long a0_foundLeast, .long a0_foundGreatest, .int a0_foundSquare])), (q_a0_partPrime, .inl (cJ, 16, .inr (.inl a0_partPrime))), (q_a0_partPower, .inl (cI, 16, .inl a0_partPower))]) [0, 1, 2] rfl
    have hD9 := hD.sub (ws' := [(h_a0, .inr (8, [.int a0_primes, w_a0_prime, w_a0_isNone, .int a0_hasSpan, .long a0_spanFrom, .int a0_spanMany, w_a0_least, w_a0_greatest, w_a0_isSquared, .int a0_hasPart, .long a0_parted, .int a0_partMany, .ref q_a0_partPrime, .ref q_a0_partPower, .int a0_rows, w_a0_row, .long a0_foundLeast, .long a0_foundGreatest, .int a0_foundSquare])), (q_a0_partPrime, .inl (cJ, 16, .inr (.inl a0_partPrime))), (q_a0_partPower, .inl (cI, 16, .inl a0_partPower))]) [0, 1, 2] (by decide) rfl
    exact W.lret (v := (0 : Int64)) hx hb hr (fun t ht hW => ⟨⟨_, (), rfl, h, by rw [ht]; exact hP9, hD9⟩, hS.F ht⟩) hS.2.2 dX9_parted_8
def wp_X9_without (a0_hasPart : Int32) (a0_partMany : Int32) (a0_partPrime : Nat → Int64) (p1 : Int64) (Q : Int64 → Prop) : Prop :=
  ((a0_hasPart = (0 : Int32) → Q (-1 : Int64)) ∧ (¬ a0_hasPart = (0 : Int32) → wp_X9_in p1 (0 : Int64) (10000000000 : Int64) (fun r_2 => ((r_2 = (0 : Int32) → Q (-1 : Int64)) ∧ (¬ r_2 = (0 : Int32) → (∃ (I_27_3 : Int32 → Int64 → Prop) (m_27_3 : Int32 → Int64 → Nat), I_27_3 (0 : Int32) (0 : Int64) ∧ ∀ (l5_27_3 : Int32) (l3_27_3 : Int64), I_27_3 l5_27_3 l3_27_3 → ((((1 : Int32) <<< (a0_partMany &&& 31)) ≤ l5_27_3 → Q l3_27_3) ∧ (¬ ((1 : Int32) <<< (a0_partMany &&& 31)) ≤ l5_27_3 → (∃ (I_47_5 : Int32 → Int32 → Int64 → Prop) (m_47_5 : Int32 → Int32 → Int64 → Nat), I_47_5 (0 : Int32) (1 : Int32) (1 : Int64) ∧ ∀ (l9_47_5 : Int32) (l8_47_5 : Int32) (l6_47_5 : Int64), I_47_5 l9_47_5 l8_47_5 l6_47_5 → ((a0_partMany ≤ l9_47_5 → (¬ l6_47_5 = 0 ∧ (∀ x3_9 : Int64, x3_9 = (l3_27_3 + (l8_47_5.toInt64 * (p1 / l6_47_5))) → (∀ x5_10 : Int32, x5_10 = l5_27_3 + (1 : Int32) → (I_27_3 x5_10 x3_9 ∧ m_27_3 x5_10 x3_9 < m_27_3 l5_27_3 l3_27_3))))) ∧ (¬ a0_partMany ≤ l9_47_5 → ((((l5_27_3 >>> (l9_47_5 &&& 31)) &&& (1 : Int32)) = (1 : Int32) → (vp_in l9_47_5 16 ∧ (∀ x6_14 : Int64, x6_14 = (l6_47_5 * (a0_partPrime l9_47_5.toNatClampNeg)) → (∀ x8_15 : Int32, x8_15 = (-l8_47_5) → (∀ x9_16 : Int32, x9_16 = l9_47_5 + (1 : Int32) → (I_47_5 x9_16 x8_15 x6_14 ∧ m_47_5 x9_16 x8_15 x6_14 < m_47_5 l9_47_5 l8_47_5 l6_47_5)))))) ∧ (¬ ((l5_27_3 >>> (l9_47_5 &&& 31)) &&& (1 : Int32)) = (1 : Int32) → (∀ x9_12 : Int32, x9_12 = l9_47_5 + (1 : Int32) → (I_47_5 x9_12 l8_47_5 l6_47_5 ∧ m_47_5 x9_12 l8_47_5 l6_47_5 < m_47_5 l9_47_5 l8_47_5 l6_47_5)))))))))))))))
abbrev rm_X9_without : Room := { frames := 1, cells := 0, slots := 0, locals := 25 }
abbrev qc_X9_without (dC : Nat → ClassId) (dI : Nat → Nat → Nat) (cI cJ cZ : ClassId) (h_a0 : Nat) (a0_primes : Int32) (w_a0_prime : Value) (w_a0_isNone : Value) (a0_hasSpan : Int32) (a0_spanFrom : Int64) (a0_spanMany : Int32) (w_a0_least : Value) (w_a0_greatest : Value) (w_a0_isSquared : Value) (a0_hasPart : Int32) (a0_parted : Int64) (a0_partMany : Int32) (a0_partPrime : Nat → Int64) (q_a0_partPrime : Nat) (w_a0_partPower : Value) (a0_rows : Int32) (w_a0_row : Value) (a0_foundLeast : Int64) (a0_foundGreatest : Int64) (a0_foundSquare : Int32) (Q : Int64 → Prop) (A : Nat → Prop) : Array Value → State → Outcome → State → Prop := va_Ql (fun (r : Int64) (_ : Unit) => Q r) (post_ dC dI A (fun (u : Unit) => [(h_a0, .inr (8, [.int a0_primes, w_a0_prime, w_a0_isNone, .int a0_hasSpan, .long a0_spanFrom, .int a0_spanMany, w_a0_least, w_a0_greatest, w_a0_isSquared, .int a0_hasPart, .long a0_parted, .int a0_partMany, .ref q_a0_partPrime, w_a0_partPower, .int a0_rows, w_a0_row, .long a0_foundLeast, .long a0_foundGreatest, .int a0_foundSquare])), (q_a0_partPrime, .inl (cJ, 16, .inr (.inl a0_partPrime)))])) A
set_option maxHeartbeats 4000000 in
set_option maxRecDepth 100000 in
theorem c_X9_without (l : Launch) (dC : Nat → ClassId) (dI : Nat → Nat → Nat) (cI cJ cZ : ClassId) (sz : Nat) (h_a0 : Nat) (a0_primes : Int32) (w_a0_prime : Value) (w_a0_isNone : Value) (a0_hasSpan : Int32) (a0_spanFrom : Int64) (a0_spanMany : Int32) (w_a0_least : Value) (w_a0_greatest : Value) (w_a0_isSquared : Value) (a0_hasPart : Int32) (a0_parted : Int64) (a0_partMany : Int32) (a0_partPrime : Nat → Int64) (q_a0_partPrime : Nat) (w_a0_partPower : Value) (a0_rows : Int32) (w_a0_row : Value) (a0_foundLeast : Int64) (a0_foundGreatest : Int64) (a0_foundSquare : Int32) (p1 : Int64) (Q : Int64 → Prop) (hQ : wp_X9_without a0_hasPart a0_partMany a0_partPrime p1 Q) : Met l yX9_without wsX9_without rm_X9_without (pre_ dC dI cI cJ cZ [.ref h_a0, .long p1] [(h_a0, .inr (8, [.int a0_primes, w_a0_prime, w_a0_isNone, .int a0_hasSpan, .long a0_spanFrom, .int a0_spanMany, w_a0_least, w_a0_greatest, w_a0_isSquared, .int a0_hasPart, .long a0_parted, .int a0_partMany, .ref q_a0_partPrime, w_a0_partPower, .int a0_rows, w_a0_row, .long a0_foundLeast, .long a0_foundGreatest, .int a0_foundSquare])), (q_a0_partPrime, .inl (cJ, 16, .inr (.inl a0_partPrime)))] sz) (qc_X9_without dC dI cI cJ cZ h_a0 a0_primes w_a0_prime w_a0_isNone a0_hasSpan a0_spanFrom a0_spanMany w_a0_least w_a0_greatest w_a0_isSquared a0_hasPart a0_parted a0_partMany a0_partPrime q_a0_partPrime w_a0_partPower a0_rows w_a0_row a0_foundLeast a0_foundGreatest a0_foundSquare Q (va_A [(h_a0, .inr (8, [.int a0_primes, w_a0_prime, w_a0_isNone, .int a0_hasSpan, .long a0_spanFrom, .int a0_spanMany, w_a0_least, w_a0_greatest, w_a0_isSquared, .int a0_hasPart, .long a0_parted, .int a0_partMany, .ref q_a0_partPrime, w_a0_partPower, .int a0_rows, w_a0_row, .long a0_foundLeast, .long a0_foundGreatest, .int a0_foundSquare])), (q_a0_partPrime, .inl (cJ, 16, .inr (.inl a0_partPrime)))] sz)) 0 0 (va_A [(h_a0, .inr (8, [.int a0_primes, w_a0_prime, w_a0_isNone, .int a0_hasSpan, .long a0_spanFrom, .int a0_spanMany, w_a0_least, w_a0_greatest, w_a0_isSquared, .int a0_hasPart, .long a0_parted, .int a0_partMany, .ref q_a0_partPrime, w_a0_partPower, .int a0_rows, w_a0_row, .long a0_foundLeast, .long a0_foundGreatest, .int a0_foundSquare])), (q_a0_partPrime, .inl (cJ, 16, .inr (.inl a0_partPrime)))] sz) := by
  refine Met.ofW (cc := cX9_without) (maxL := 10) (ret := (some .long)) (by decide) rfl ?_
  intro p e s m args below meth c s₁ B hml hv
  obtain ⟨rfl, hsz, hP, hK, hN, hD0⟩ := hv
  have hx := B.exec
  have hb := B.bytes
  have hr := B.returns
  have hts := atoms_spec (ws := wsX9_without) B.pre
  have hown : s.vm.findClass RX9 = some m.cls := findClass_of_methodNamed B.named
  subst hsz
  have hD := hD0.self (sz := s.heap.size)
  generalize hAe : va_A [(h_a0, .inr (8, [.int a0_primes, w_a0_prime, w_a0_isNone, .int a0_hasSpan, .long a0_spanFrom, .int a0_spanMany, w_a0_least, w_a0_greatest, w_a0_isSquared, .int a0_hasPart, .long a0_parted, .int a0_partMany, .ref q_a0_partPrime, w_a0_partPower, .int a0_rows, w_a0_row, .long a0_foundLeast, .long a0_foundGreatest, .int a0_foundSquare])), (q_a0_partPrime, .inl (cJ, 16, .inr (.inl a0_partPrime)))] s.heap.size = A at hD ⊢
  have hA : ∀ q : Nat, s.heap.size ≤ q → A q := fun q h => by rw [← hAe]; exact Or.inr h
  have hS : va_S A s.heap s.heap [] := va_S.rf
  have hl := lv_entry ([.ref h_a0, .long p1]) (n := 10) (Nat.le_of_ble_eq_true rfl)
  rw [lg_entry_eq]
  generalize (lg_sl ([.ref h_a0, .long p1]) ++ List.replicate (10 - (lg_sl ([.ref h_a0, .long p1])).length) Slot.unset).toArray = ls at hl ⊢
  have hl : lv_has ls 10 [(0, .ref h_a0), (1, .long p1)] := hl
  have h := hQ
  unfold wp_X9_without at h
  have hw_0 := hts (.fieldLink RX9 94 "NumberSievesModel" "hasPart" "Z") (by decide +kernel)
  have hin_X9 : ∀ w ∈ wsX90, w ∈ wsX9_without := by decide +kernel
  have hw_2 := hts (.constantLong RX9 92 (-1)) (by decide +kernel)
  have hw_3 := hts (.constantLong RX9 65 (10000000000)) (by decide +kernel)
  have hw_4 := hts (.fieldLink RX9 54 "NumberSievesModel" "partMany" "I") (by decide +kernel)
  have hw_5 := hts (.fieldLink RX9 28 "NumberSievesModel" "partPrime" "[J") (by decide +kernel)
  refine lv_aload_n hx hb dX9_without_0 rfl (lv_at hl 0 rfl) ?_
  refine va_get (D := (dC, dI)) (ci := 8) (v := .int a0_hasPart) (C := RX9) (T := TX9) (N := 19) hx hb hts hin_X9 hown hK hP 0 rfl rfl 9 (by decide) hw_0 (fun _ h9 => h9) rfl dX9_without_1 ?_
  refine lv_if_eq (tgt := 18) hx hb dX9_without_4 (by decide) (fun c_1 => ?_) (fun c_1 => ?_)
  · replace h := h.1 c_1
    refine lv_ldc2 hx hb hown hw_2 dX9_without_18 ?_
    have hP9 := hP.sub (ws' := [(h_a0, .inr (8, [.int a0_primes, w_a0_prime, w_a0_isNone, .int a0_hasSpan, .long a0_spanFrom, .int a0_spanMany, w_a0_least, w_a0_greatest, w_a0_isSquared, .int a0_hasPart, .long a0_parted, .int a0_partMany, .ref q_a0_partPrime, w_a0_partPower, .int a0_rows, w_a0_row, .long a0_foundLeast, .long a0_foundGreatest, .int a0_foundSquare])), (q_a0_partPrime, .inl (cJ, 16, .inr (.inl a0_partPrime)))]) [0, 1] rfl
    have hD9 := hD.sub (ws' := [(h_a0, .inr (8, [.int a0_primes, w_a0_prime, w_a0_isNone, .int a0_hasSpan, .long a0_spanFrom, .int a0_spanMany, w_a0_least, w_a0_greatest, w_a0_isSquared, .int a0_hasPart, .long a0_parted, .int a0_partMany, .ref q_a0_partPrime, w_a0_partPower, .int a0_rows, w_a0_row, .long a0_foundLeast, .long a0_foundGreatest, .int a0_foundSquare])), (q_a0_partPrime, .inl (cJ, 16, .inr (.inl a0_partPrime)))]) [0, 1] (by decide) rfl
    exact W.lret (v := (-1 : Int64)) hx hb hr (fun t ht hW => ⟨⟨_, (), rfl, h, by rw [ht]; exact hP9, hD9⟩, hS.F ht⟩) hS.2.2 dX9_without_21
  · replace h := h.2 c_1
    refine lv_lload_n hx hb dX9_without_7 rfl (lv_at hl 1 rfl) ?_
    refine lv_lconst (v := (0 : Int64)) hx hb dX9_without_8 (by decide) ?_
    refine lv_ldc2 hx hb hown hw_3 dX9_without_9 ?_
    have hPc := hP.sub (ws' := []) [] rfl
    have hDc := hD.sub (ws' := []) [] (by decide) rfl
    have hFc := va_free (wc := []) hD hS hA [] rfl
    refine va_calli (va_runS (As := [.long p1, .long (0 : Int64), .long (10000000000 : Int64)]) (rest := []) ⟨hx, hb, hml, hown, hts⟩ (c_X9_in l dC dI cI cJ cZ _ p1 (0 : Int64) (10000000000 : Int64) _ h) (va_cwS 3 hts gX9_without_X9_in rfl rfl rfl (by decide +kernel) ⟨Nat.le_of_ble_eq_true rfl, Nat.le_of_ble_eq_true rfl⟩) ⟨pre_fb, pre_of hPc hDc hK hN⟩ rfl rfl hl.1 rfl (lv_room (Nat.le_of_ble_eq_true rfl)) dX9_without_12 ⟨by first | exact Nat.le_of_ble_eq_true rfl | exact Nat.le_refl _, by first | exact Nat.le_of_ble_eq_true rfl | exact Nat.le_refl _⟩) hS (fun q _ h => hFc q h) hFc (fun r_2 u t H1 locs ht hvm h hB hz1 hk1 hS => ?_)
    obtain ⟨hP1, hD1⟩ := hB
    rw [ht] at hP1
    try dsimp only at h
    obtain ⟨hP, hD⟩ := va_join (wr := [(h_a0, .inr (8, [.int a0_primes, w_a0_prime, w_a0_isNone, .int a0_hasSpan, .long a0_spanFrom, .int a0_spanMany, w_a0_least, w_a0_greatest, w_a0_isSquared, .int a0_hasPart, .long a0_parted, .int a0_partMany, .ref q_a0_partPrime, w_a0_partPower, .int a0_rows, w_a0_row, .long a0_foundLeast, .long a0_foundGreatest, .int a0_foundSquare])), (q_a0_partPrime, .inl (cJ, 16, .inr (.inl a0_partPrime)))]) (w1 := []) hP hD [] [0, 1] rfl rfl (by decide) (by decide) hk1 hFc hP1 hD1
    generalize H1 = H at hP hS ⊢
    have hP : va_P (dC, dI) vwCl [(h_a0, .inr (8, [.int a0_primes, w_a0_prime, w_a0_isNone, .int a0_hasSpan, .long a0_spanFrom, .int a0_spanMany, w_a0_least, w_a0_greatest, w_a0_isSquared, .int a0_hasPart, .long a0_parted, .int a0_partMany, .ref q_a0_partPrime, w_a0_partPower, .int a0_rows, w_a0_row, .long a0_foundLeast, .long a0_foundGreatest, .int a0_foundSquare])), (q_a0_partPrime, .inl (cJ, 16, .inr (.inl a0_partPrime)))] H := hP
    have hD : va_D A [(h_a0, .inr (8, [.int a0_primes, w_a0_prime, w_a0_isNone, .int a0_hasSpan, .long a0_spanFrom, .int a0_spanMany, w_a0_least, w_a0_greatest, w_a0_isSquared, .int a0_hasPart, .long a0_parted, .int a0_partMany, .ref q_a0_partPrime, w_a0_partPower, .int a0_rows, w_a0_row, .long a0_foundLeast, .long a0_foundGreatest, .int a0_foundSquare])), (q_a0_partPrime, .inl (cJ, 16, .inr (.inl a0_partPrime)))] := hD
    refine lv_if_ne (tgt := 22) hx hb dX9_without_15 (by decide) (fun c_3 => ?_) (fun c_3 => ?_)
    · replace h := h.2 c_3
      refine lv_lconst (v := (0 : Int64)) hx hb dX9_without_22 (by decide) ?_
      refine lv_lstore_n (lv' := [(3, .long (0 : Int64)), (0, .ref h_a0), (1, .long p1)]) hx hb dX9_without_23 rfl hl (by decide) rfl (fun ls hl => ?_)
      refine lv_iconst (v := (0 : Int32)) hx hb dX9_without_24 (by decide) ?_
      refine lv_istore (lv' := [(5, .int (0 : Int32)), (3, .long (0 : Int64)), (0, .ref h_a0), (1, .long p1)]) hx hb dX9_without_25 hl (by decide) rfl (fun ls hl => ?_)
      obtain ⟨I_27_3, m_27_3, h0_27_3, hs_27_3⟩ := h
      have key_27_3 : ∀ (n : Nat) (l5_27_3 : Int32) (l3_27_3 : Int64), m_27_3 l5_27_3 l3_27_3 < n → I_27_3 l5_27_3 l3_27_3 → ∀ (ls : Array Slot) (H : Heap) (locs : List Loc), lv_has ls 10 [(5, .int l5_27_3), (3, .long l3_27_3), (0, .ref h_a0), (1, .long p1)] → va_P (dC, dI) vwCl [(h_a0, .inr (8, [.int a0_primes, w_a0_prime, w_a0_isNone, .int a0_hasSpan, .long a0_spanFrom, .int a0_spanMany, w_a0_least, w_a0_greatest, w_a0_isSquared, .int a0_hasPart, .long a0_parted, .int a0_partMany, .ref q_a0_partPrime, w_a0_partPower, .int a0_rows, w_a0_row, .long a0_foundLeast, .long a0_foundGreatest, .int a0_foundSquare])), (q_a0_partPrime, .inl (cJ, 16, .inr (.inl a0_partPrime)))] H → va_D A [(h_a0, .inr (8, [.int a0_primes, w_a0_prime, w_a0_isNone, .int a0_hasSpan, .long a0_spanFrom, .int a0_spanMany, w_a0_least, w_a0_greatest, w_a0_isSquared, .int a0_hasPart, .long a0_parted, .int a0_partMany, .ref q_a0_partPrime, w_a0_partPower, .int a0_rows, w_a0_row, .long a0_foundLeast, .long a0_foundGreatest, .int a0_foundSquare])), (q_a0_partPrime, .inl (cJ, 16, .inr (.inl a0_partPrime)))] → va_S A s.heap H locs → W p l e (headSpec wsX9_without rm_X9_without).room s m ([.ref h_a0, .long p1] : List Value).toArray below meth c H locs 0 0 (MQ below (qc_X9_without dC dI cI cJ cZ h_a0 a0_primes w_a0_prime w_a0_isNone a0_hasSpan a0_spanFrom a0_spanMany w_a0_least w_a0_greatest w_a0_isSquared a0_hasPart a0_parted a0_partMany a0_partPrime q_a0_partPrime w_a0_partPower a0_rows w_a0_row a0_foundLeast a0_foundGreatest a0_foundSquare Q A) ([.ref h_a0, .long p1] : List Value).toArray s 0 0 A) (F0 m 27 ls []) := by
        intro n
        induction n with
        | zero =>
          intro l5_27_3 l3_27_3 hm
          exact absurd hm (Nat.not_lt_zero _)
        | succ n ih_27_3 =>
          intro l5_27_3 l3_27_3 hm_27_3 hI ls H locs hl hP hD hS
          have h := hs_27_3 l5_27_3 l3_27_3 hI
          refine lv_iload hx hb dX9_without_27 (lv_at hl 0 rfl) ?_
          refine lv_iconst (v := (1 : Int32)) hx hb dX9_without_29 (by decide) ?_
          refine lv_aload_n hx hb dX9_without_30 rfl (lv_at hl 2 rfl) ?_
          refine va_get (D := (dC, dI)) (ci := 8) (v := .int a0_partMany) (C := RX9) (T := TX9) (N := 19) hx hb hts hin_X9 hown hK hP 0 rfl rfl 11 (by decide) hw_4 (fun _ h9 => h9) rfl dX9_without_31 ?_
          refine lv_ishl hx hb dX9_without_34 ?_
          refine lv_icmp_ge (tgt := 107) hx hb dX9_without_35 (by decide) (fun c_5 => ?_) (fun c_5 => ?_)
          · replace h := h.1 c_5
            refine lv_lload_n hx hb dX9_without_107 rfl (lv_at hl 1 rfl) ?_
            have hP9 := hP.sub (ws' := [(h_a0, .inr (8, [.int a0_primes, w_a0_prime, w_a0_isNone, .int a0_hasSpan, .long a0_spanFrom, .int a0_spanMany, w_a0_least, w_a0_greatest, w_a0_isSquared, .int a0_hasPart, .long a0_parted, .int a0_partMany, .ref q_a0_partPrime, w_a0_partPower, .int a0_rows, w_a0_row, .long a0_foundLeast, .long a0_foundGreatest, .int a0_foundSquare])), (q_a0_partPrime, .inl (cJ, 16, .inr (.inl a0_partPrime)))]) [0, 1] rfl
            have hD9 := hD.sub (ws' := [(h_a0, .inr (8, [.int a0_primes, w_a0_prime, w_a0_isNone, .int a0_hasSpan, .long a0_spanFrom, .int a0_spanMany, w_a0_least, w_a0_greatest, w_a0_isSquared, .int a0_hasPart, .long a0_parted, .int a0_partMany, .ref q_a0_partPrime, w_a0_partPower, .int a0_rows, w_a0_row, .long a0_foundLeast, .long a0_foundGreatest, .int a0_foundSquare])), (q_a0_partPrime, .inl (cJ, 16, .inr (.inl a0_partPrime)))]) [0, 1] (by decide) rfl
            exact W.lret (v := l3_27_3) hx hb hr (fun t ht hW => ⟨⟨_, (), rfl, h, by rw [ht]; exact hP9, hD9⟩, hS.F ht⟩) hS.2.2 dX9_without_108
          · replace h := h.2 c_5
            refine lv_lconst (v := (1 : Int64)) hx hb dX9_without_38 (by decide) ?_
            refine lv_lstore (lv' := [(6, .long (1 : Int64)), (5, .int l5_27_3), (3, .long l3_27_3), (0, .ref h_a0), (1, .long p1)]) hx hb dX9_without_39 hl (by decide) rfl (fun ls hl => ?_)
            refine lv_iconst (v := (1 : Int32)) hx hb dX9_without_41 (by decide) ?_
            refine lv_istore (lv' := [(8, .int (1 : Int32)), (6, .long (1 : Int64)), (5, .int l5_27_3), (3, .long l3_27_3), (0, .ref h_a0), (1, .long p1)]) hx hb dX9_without_42 hl (by decide) rfl (fun ls hl => ?_)
            refine lv_iconst (v := (0 : Int32)) hx hb dX9_without_44 (by decide) ?_
            refine lv_istore (lv' := [(9, .int (0 : Int32)), (8, .int (1 : Int32)), (6, .long (1 : Int64)), (5, .int l5_27_3), (3, .long l3_27_3), (0, .ref h_a0), (1, .long p1)]) hx hb dX9_without_45 hl (by decide) rfl (fun ls hl => ?_)
            obtain ⟨I_47_5, m_47_5, h0_47_5, hs_47_5⟩ := h
            have key_47_5 : ∀ (n : Nat) (l9_47_5 : Int32) (l8_47_5 : Int32) (l6_47_5 : Int64), m_47_5 l9_47_5 l8_47_5 l6_47_5 < n → I_47_5 l9_47_5 l8_47_5 l6_47_5 → ∀ (ls : Array Slot) (H : Heap) (locs : List Loc), lv_has ls 10 [(9, .int l9_47_5), (8, .int l8_47_5), (6, .long l6_47_5), (5, .int l5_27_3), (3, .long l3_27_3), (0, .ref h_a0), (1, .long p1)] → va_P (dC, dI) vwCl [(h_a0, .inr (8, [.int a0_primes, w_a0_prime, w_a0_isNone, .int a0_hasSpan, .long a0_spanFrom, .int a0_spanMany, w_a0_least, w_a0_greatest, w_a0_isSquared, .int a0_hasPart, .long a0_parted, .int a0_partMany, .ref q_a0_partPrime, w_a0_partPower, .int a0_rows, w_a0_row, .long a0_foundLeast, .long a0_foundGreatest, .int a0_foundSquare])), (q_a0_partPrime, .inl (cJ, 16, .inr (.inl a0_partPrime)))] H → va_D A [(h_a0, .inr (8, [.int a0_primes, w_a0_prime, w_a0_isNone, .int a0_hasSpan, .long a0_spanFrom, .int a0_spanMany, w_a0_least, w_a0_greatest, w_a0_isSquared, .int a0_hasPart, .long a0_parted, .int a0_partMany, .ref q_a0_partPrime, w_a0_partPower, .int a0_rows, w_a0_row, .long a0_foundLeast, .long a0_foundGreatest, .int a0_foundSquare])), (q_a0_partPrime, .inl (cJ, 16, .inr (.inl a0_partPrime)))] → va_S A s.heap H locs → W p l e (headSpec wsX9_without rm_X9_without).room s m ([.ref h_a0, .long p1] : List Value).toArray below meth c H locs 0 0 (MQ below (qc_X9_without dC dI cI cJ cZ h_a0 a0_primes w_a0_prime w_a0_isNone a0_hasSpan a0_spanFrom a0_spanMany w_a0_least w_a0_greatest w_a0_isSquared a0_hasPart a0_parted a0_partMany a0_partPrime q_a0_partPrime w_a0_partPower a0_rows w_a0_row a0_foundLeast a0_foundGreatest a0_foundSquare Q A) ([.ref h_a0, .long p1] : List Value).toArray s 0 0 A) (F0 m 47 ls []) := by
              intro n
              induction n with
              | zero =>
                intro l9_47_5 l8_47_5 l6_47_5 hm
                exact absurd hm (Nat.not_lt_zero _)
              | succ n ih_47_5 =>
                intro l9_47_5 l8_47_5 l6_47_5 hm_47_5 hI ls H locs hl hP hD hS
                have h := hs_47_5 l9_47_5 l8_47_5 l6_47_5 hI
                refine lv_iload hx hb dX9_without_47 (lv_at hl 0 rfl) ?_
                refine lv_aload_n hx hb dX9_without_49 rfl (lv_at hl 5 rfl) ?_
                refine va_get (D := (dC, dI)) (ci := 8) (v := .int a0_partMany) (C := RX9) (T := TX9) (N := 19) hx hb hts hin_X9 hown hK hP 0 rfl rfl 11 (by decide) hw_4 (fun _ h9 => h9) rfl dX9_without_50 ?_
                refine lv_icmp_ge (tgt := 90) hx hb dX9_without_53 (by decide) (fun c_7 => ?_) (fun c_7 => ?_)
                · replace h := h.1 c_7
                  refine lv_lload_n hx hb dX9_without_90 rfl (lv_at hl 4 rfl) ?_
                  refine lv_iload hx hb dX9_without_91 (lv_at hl 1 rfl) ?_
                  refine lv_i2l hx hb dX9_without_93 rfl ?_
                  refine lv_lload_n hx hb dX9_without_94 rfl (lv_at hl 6 rfl) ?_
                  refine lv_lload hx hb dX9_without_95 (lv_at hl 2 rfl) ?_
                  obtain ⟨hne_8, h⟩ := h
                  refine lv_ldiv hx hb dX9_without_97 hne_8 ?_
                  refine lv_lmul hx hb dX9_without_98 ?_
                  refine lv_ladd hx hb dX9_without_99 ?_
                  refine lv_topl (fun x3_9 e_x3_9 => ?_)
                  replace h := h x3_9 e_x3_9
                  refine lv_lstore_n (lv' := [(3, .long x3_9), (9, .int l9_47_5), (8, .int l8_47_5), (6, .long l6_47_5), (5, .int l5_27_3), (0, .ref h_a0), (1, .long p1)]) hx hb dX9_without_100 rfl hl (by decide) rfl (fun ls hl => ?_)
                  obtain ⟨x5_10, e_x5_10⟩ : ∃ y : Int32, y = l5_27_3 + (1 : Int32) := ⟨_, rfl⟩
                  replace h := h x5_10 e_x5_10
                  refine lv_iinc (v := x5_10) (lv' := [(5, .int x5_10), (3, .long x3_9), (9, .int l9_47_5), (8, .int l8_47_5), (6, .long l6_47_5), (0, .ref h_a0), (1, .long p1)]) hx hb dX9_without_101 hl (k := 4) rfl (by rw [e_x5_10]; rfl) (by decide) rfl (fun ls hl => ?_)
                  refine lv_goto (tgt := 27) hx hb dX9_without_104 (by decide) ?_
                  exact ih_27_3 x5_10 x3_9 (Nat.lt_of_lt_of_le h.2 (Nat.le_of_lt_succ hm_27_3)) h.1 _ _ _ (lv_sub hl [0, 1, 5, 6] rfl) (hP.sub [0, 1] rfl) (hD.sub [0, 1] (by decide) rfl) hS
                · replace h := h.2 c_7
                  refine lv_iload hx hb dX9_without_56 (lv_at hl 3 rfl) ?_
                  refine lv_iload hx hb dX9_without_58 (lv_at hl 0 rfl) ?_
                  refine lv_ishr hx hb dX9_without_60 ?_
                  refine lv_iconst (v := (1 : Int32)) hx hb dX9_without_61 (by decide) ?_
                  refine lv_iand hx hb dX9_without_62 ?_
                  refine lv_iconst (v := (1 : Int32)) hx hb dX9_without_63 (by decide) ?_
                  refine lv_icmp_ne (tgt := 84) hx hb dX9_without_64 (by decide) (fun c_11 => ?_) (fun c_11 => ?_)
                  · replace h := h.2 c_11
                    obtain ⟨x9_12, e_x9_12⟩ : ∃ y : Int32, y = l9_47_5 + (1 : Int32) := ⟨_, rfl⟩
                    replace h := h x9_12 e_x9_12
                    refine lv_iinc (v := x9_12) (lv' := [(9, .int x9_12), (8, .int l8_47_5), (6, .long l6_47_5), (5, .int l5_27_3), (3, .long l3_27_3), (0, .ref h_a0), (1, .long p1)]) hx hb dX9_without_84 hl (k := 0) rfl (by rw [e_x9_12]; rfl) (by decide) rfl (fun ls hl => ?_)
                    refine lv_goto (tgt := 47) hx hb dX9_without_87 (by decide) ?_
                    exact ih_47_5 x9_12 l8_47_5 l6_47_5 (Nat.lt_of_lt_of_le h.2 (Nat.le_of_lt_succ hm_47_5)) h.1 _ _ _ (lv_sub hl [0, 1, 2, 3, 4, 5, 6] rfl) (hP.sub [0, 1] rfl) (hD.sub [0, 1] (by decide) rfl) hS
                  · replace h := h.1 c_11
                    refine lv_lload hx hb dX9_without_67 (lv_at hl 2 rfl) ?_
                    refine lv_aload_n hx hb dX9_without_69 rfl (lv_at hl 5 rfl) ?_
                    refine va_get (D := (dC, dI)) (ci := 8) (v := .ref q_a0_partPrime) (C := RX9) (T := TX9) (N := 19) hx hb hts hin_X9 hown hK hP 0 rfl rfl 12 (by decide) hw_5 (fun _ h9 => h9) rfl dX9_without_70 ?_
                    refine lv_iload hx hb dX9_without_73 (lv_at hl 0 rfl) ?_
                    obtain ⟨hin_13, h⟩ := h
                    refine va_lald hx hb hK hP 1 1 rfl rfl hin_13 dX9_without_75 ?_
                    refine lv_lmul hx hb dX9_without_76 ?_
                    refine lv_topl (fun x6_14 e_x6_14 => ?_)
                    replace h := h x6_14 e_x6_14
                    refine lv_lstore (lv' := [(6, .long x6_14), (9, .int l9_47_5), (8, .int l8_47_5), (5, .int l5_27_3), (3, .long l3_27_3), (0, .ref h_a0), (1, .long p1)]) hx hb dX9_without_77 hl (by decide) rfl (fun ls hl => ?_)
                    refine lv_iload hx hb dX9_without_79 (lv_at hl 2 rfl) ?_
                    refine lv_ineg hx hb dX9_without_81 ?_
                    refine lv_topi (fun x8_15 e_x8_15 => ?_)
                    replace h := h x8_15 e_x8_15
                    refine lv_istore (lv' := [(8, .int x8_15), (6, .long x6_14), (9, .int l9_47_5), (5, .int l5_27_3), (3, .long l3_27_3), (0, .ref h_a0), (1, .long p1)]) hx hb dX9_without_82 hl (by decide) rfl (fun ls hl => ?_)
                    obtain ⟨x9_16, e_x9_16⟩ : ∃ y : Int32, y = l9_47_5 + (1 : Int32) := ⟨_, rfl⟩
                    replace h := h x9_16 e_x9_16
                    refine lv_iinc (v := x9_16) (lv' := [(9, .int x9_16), (8, .int x8_15), (6, .long x6_14), (5, .int l5_27_3), (3, .long l3_27_3), (0, .ref h_a0), (1, .long p1)]) hx hb dX9_without_84 hl (k := 2) rfl (by rw [e_x9_16]; rfl) (by decide) rfl (fun ls hl => ?_)
                    refine lv_goto (tgt := 47) hx hb dX9_without_87 (by decide) ?_
                    exact ih_47_5 x9_16 x8_15 x6_14 (Nat.lt_of_lt_of_le h.2 (Nat.le_of_lt_succ hm_47_5)) h.1 _ _ _ (lv_sub hl [0, 1, 2, 3, 4, 5, 6] rfl) (hP.sub [0, 1] rfl) (hD.sub [0, 1] (by decide) rfl) hS
            exact key_47_5 _ (0 : Int32) (1 : Int32) (1 : Int64) (Nat.lt_succ_self _) h0_47_5 _ _ _ (lv_sub hl [0, 1, 2, 3, 4, 5, 6] rfl) (hP.sub [0, 1] rfl) (hD.sub [0, 1] (by decide) rfl) hS
      exact key_27_3 _ (0 : Int32) (0 : Int64) (Nat.lt_succ_self _) h0_27_3 _ _ _ (lv_sub hl [0, 1, 2, 3] rfl) (hP.sub [0, 1] rfl) (hD.sub [0, 1] (by decide) rfl) hS
    · replace h := h.1 c_3
      refine lv_ldc2 hx hb hown hw_2 dX9_without_18 ?_
      have hP9 := hP.sub (ws' := [(h_a0, .inr (8, [.int a0_primes, w_a0_prime, w_a0_isNone, .int a0_hasSpan, .long a0_spanFrom, .int a0_spanMany, w_a0_least, w_a0_greatest, w_a0_isSquared, .int a0_hasPart, .long a0_parted, .int a0_partMany, .ref q_a0_partPrime, w_a0_partPower, .int a0_rows, w_a0_row, .long a0_foundLeast, .long a0_foundGreatest, .int a0_foundSquare])), (q_a0_partPrime, .inl (cJ, 16, .inr (.inl a0_partPrime)))]) [0, 1] rfl
      have hD9 := hD.sub (ws' := [(h_a0, .inr (8, [.int a0_primes, w_a0_prime, w_a0_isNone, .int a0_hasSpan, .long a0_spanFrom, .int a0_spanMany, w_a0_least, w_a0_greatest, w_a0_isSquared, .int a0_hasPart, .long a0_parted, .int a0_partMany, .ref q_a0_partPrime, w_a0_partPower, .int a0_rows, w_a0_row, .long a0_foundLeast, .long a0_foundGreatest, .int a0_foundSquare])), (q_a0_partPrime, .inl (cJ, 16, .inr (.inl a0_partPrime)))]) [0, 1] (by decide) rfl
      exact W.lret (v := (-1 : Int64)) hx hb hr (fun t ht hW => ⟨⟨_, (), rfl, h, by rw [ht]; exact hP9, hD9⟩, hS.F ht⟩) hS.2.2 dX9_without_21
def wp_X9_count (a0_isNone : Nat → Int32) (p1 : Int32) (Q : Int32 → Prop) : Prop :=
  wp_X9_in (p1.toInt64) (0 : Int64) (2000000 : Int64) (fun r_1 => ((r_1 = (0 : Int32) → Q (-1 : Int32)) ∧ (¬ r_1 = (0 : Int32) → (∃ (I_18_2 : Int32 → Int32 → Prop) (m_18_2 : Int32 → Int32 → Nat), I_18_2 (2 : Int32) (0 : Int32) ∧ ∀ (l3_18_2 : Int32) (l2_18_2 : Int32), I_18_2 l3_18_2 l2_18_2 → ((p1 < l3_18_2 → Q l2_18_2) ∧ (¬ p1 < l3_18_2 → (vp_in l3_18_2 2000001 ∧ (((a0_isNone l3_18_2.toNatClampNeg) = (0 : Int32) → (∀ x2_7 : Int32, x2_7 = (l2_18_2 + (1 : Int32)) → (∀ x3_8 : Int32, x3_8 = l3_18_2 + (1 : Int32) → (I_18_2 x3_8 x2_7 ∧ m_18_2 x3_8 x2_7 < m_18_2 l3_18_2 l2_18_2)))) ∧ (¬ (a0_isNone l3_18_2.toNatClampNeg) = (0 : Int32) → (∀ x2_9 : Int32, x2_9 = (l2_18_2 + (0 : Int32)) → (∀ x3_10 : Int32, x3_10 = l3_18_2 + (1 : Int32) → (I_18_2 x3_10 x2_9 ∧ m_18_2 x3_10 x2_9 < m_18_2 l3_18_2 l2_18_2))))))))))))
abbrev rm_X9_count : Room := { frames := 1, cells := 0, slots := 0, locals := 25 }
abbrev qc_X9_count (dC : Nat → ClassId) (dI : Nat → Nat → Nat) (cI cJ cZ : ClassId) (h_a0 : Nat) (a0_primes : Int32) (w_a0_prime : Value) (a0_isNone : Nat → Int32) (q_a0_isNone : Nat) (a0_hasSpan : Int32) (a0_spanFrom : Int64) (a0_spanMany : Int32) (w_a0_least : Value) (w_a0_greatest : Value) (w_a0_isSquared : Value) (a0_hasPart : Int32) (a0_parted : Int64) (a0_partMany : Int32) (w_a0_partPrime : Value) (w_a0_partPower : Value) (a0_rows : Int32) (w_a0_row : Value) (a0_foundLeast : Int64) (a0_foundGreatest : Int64) (a0_foundSquare : Int32) (Q : Int32 → Prop) (A : Nat → Prop) : Array Value → State → Outcome → State → Prop := va_Qi (fun (r : Int32) (_ : Unit) => Q r) (post_ dC dI A (fun (u : Unit) => [(h_a0, .inr (8, [.int a0_primes, w_a0_prime, .ref q_a0_isNone, .int a0_hasSpan, .long a0_spanFrom, .int a0_spanMany, w_a0_least, w_a0_greatest, w_a0_isSquared, .int a0_hasPart, .long a0_parted, .int a0_partMany, w_a0_partPrime, w_a0_partPower, .int a0_rows, w_a0_row, .long a0_foundLeast, .long a0_foundGreatest, .int a0_foundSquare])), (q_a0_isNone, .inl (cZ, 2000001, .inl a0_isNone))])) A
set_option maxHeartbeats 4000000 in
set_option maxRecDepth 100000 in
theorem c_X9_count (l : Launch) (dC : Nat → ClassId) (dI : Nat → Nat → Nat) (cI cJ cZ : ClassId) (sz : Nat) (h_a0 : Nat) (a0_primes : Int32) (w_a0_prime : Value) (a0_isNone : Nat → Int32) (q_a0_isNone : Nat) (a0_hasSpan : Int32) (a0_spanFrom : Int64) (a0_spanMany : Int32) (w_a0_least : Value) (w_a0_greatest : Value) (w_a0_isSquared : Value) (a0_hasPart : Int32) (a0_parted : Int64) (a0_partMany : Int32) (w_a0_partPrime : Value) (w_a0_partPower : Value) (a0_rows : Int32) (w_a0_row : Value) (a0_foundLeast : Int64) (a0_foundGreatest : Int64) (a0_foundSquare : Int32) (p1 : Int32) (Q : Int32 → Prop) (hQ : wp_X9_count a0_isNone p1 Q) : Met l yX9_count wsX9_count rm_X9_count (pre_ dC dI cI cJ cZ [.ref h_a0, .int p1] [(h_a0, .inr (8, [.int a0_primes, w_a0_prime, .ref q_a0_isNone, .int a0_hasSpan, .long a0_spanFrom, .int a0_spanMany, w_a0_least, w_a0_greatest, w_a0_isSquared, .int a0_hasPart, .long a0_parted, .int a0_partMany, w_a0_partPrime, w_a0_partPower, .int a0_rows, w_a0_row, .long a0_foundLeast, .long a0_foundGreatest, .int a0_foundSquare])), (q_a0_isNone, .inl (cZ, 2000001, .inl a0_isNone))] sz) (qc_X9_count dC dI cI cJ cZ h_a0 a0_primes w_a0_prime a0_isNone q_a0_isNone a0_hasSpan a0_spanFrom a0_spanMany w_a0_least w_a0_greatest w_a0_isSquared a0_hasPart a0_parted a0_partMany w_a0_partPrime w_a0_partPower a0_rows w_a0_row a0_foundLeast a0_foundGreatest a0_foundSquare Q (va_A [(h_a0, .inr (8, [.int a0_primes, w_a0_prime, .ref q_a0_isNone, .int a0_hasSpan, .long a0_spanFrom, .int a0_spanMany, w_a0_least, w_a0_greatest, w_a0_isSquared, .int a0_hasPart, .long a0_parted, .int a0_partMany, w_a0_partPrime, w_a0_partPower, .int a0_rows, w_a0_row, .long a0_foundLeast, .long a0_foundGreatest, .int a0_foundSquare])), (q_a0_isNone, .inl (cZ, 2000001, .inl a0_isNone))] sz)) 0 0 (va_A [(h_a0, .inr (8, [.int a0_primes, w_a0_prime, .ref q_a0_isNone, .int a0_hasSpan, .long a0_spanFrom, .int a0_spanMany, w_a0_least, w_a0_greatest, w_a0_isSquared, .int a0_hasPart, .long a0_parted, .int a0_partMany, w_a0_partPrime, w_a0_partPower, .int a0_rows, w_a0_row, .long a0_foundLeast, .long a0_foundGreatest, .int a0_foundSquare])), (q_a0_isNone, .inl (cZ, 2000001, .inl a0_isNone))] sz) := by
  refine Met.ofW (cc := cX9_count) (maxL := 4) (ret := (some .int)) (by decide) rfl ?_
  intro p e s m args below meth c s₁ B hml hv
  obtain ⟨rfl, hsz, hP, hK, hN, hD0⟩ := hv
  have hx := B.exec
  have hb := B.bytes
  have hr := B.returns
  have hts := atoms_spec (ws := wsX9_count) B.pre
  have hown : s.vm.findClass RX9 = some m.cls := findClass_of_methodNamed B.named
  subst hsz
  have hD := hD0.self (sz := s.heap.size)
  generalize hAe : va_A [(h_a0, .inr (8, [.int a0_primes, w_a0_prime, .ref q_a0_isNone, .int a0_hasSpan, .long a0_spanFrom, .int a0_spanMany, w_a0_least, w_a0_greatest, w_a0_isSquared, .int a0_hasPart, .long a0_parted, .int a0_partMany, w_a0_partPrime, w_a0_partPower, .int a0_rows, w_a0_row, .long a0_foundLeast, .long a0_foundGreatest, .int a0_foundSquare])), (q_a0_isNone, .inl (cZ, 2000001, .inl a0_isNone))] s.heap.size = A at hD ⊢
  have hA : ∀ q : Nat, s.heap.size ≤ q → A q := fun q h => by rw [← hAe]; exact Or.inr h
  have hS : va_S A s.heap s.heap [] := va_S.rf
  have hl := lv_entry ([.ref h_a0, .int p1]) (n := 4) (Nat.le_of_ble_eq_true rfl)
  rw [lg_entry_eq]
  generalize (lg_sl ([.ref h_a0, .int p1]) ++ List.replicate (4 - (lg_sl ([.ref h_a0, .int p1])).length) Slot.unset).toArray = ls at hl ⊢
  have hl : lv_has ls 4 [(0, .ref h_a0), (1, .int p1)] := hl
  have h := hQ
  unfold wp_X9_count at h
  have hw_0 := hts (.constantLong RX9 100 (2000000)) (by decide +kernel)
  have hw_1 := hts (.fieldLink RX9 14 "NumberSievesModel" "isNone" "[Z") (by decide +kernel)
  have hin_X9 : ∀ w ∈ wsX90, w ∈ wsX9_count := by decide +kernel
  refine lv_iload_n hx hb dX9_count_0 rfl (lv_at hl 1 rfl) ?_
  refine lv_i2l hx hb dX9_count_1 rfl ?_
  refine lv_lconst (v := (0 : Int64)) hx hb dX9_count_2 (by decide) ?_
  refine lv_ldc2 hx hb hown hw_0 dX9_count_3 ?_
  have hPc := hP.sub (ws' := []) [] rfl
  have hDc := hD.sub (ws' := []) [] (by decide) rfl
  have hFc := va_free (wc := []) hD hS hA [] rfl
  refine va_calli (va_runS (As := [.long p1.toInt64, .long (0 : Int64), .long (2000000 : Int64)]) (rest := []) ⟨hx, hb, hml, hown, hts⟩ (c_X9_in l dC dI cI cJ cZ _ (p1.toInt64) (0 : Int64) (2000000 : Int64) _ h) (va_cwS 3 hts gX9_count_X9_in rfl rfl rfl (by decide +kernel) ⟨Nat.le_of_ble_eq_true rfl, Nat.le_of_ble_eq_true rfl⟩) ⟨pre_fb, pre_of hPc hDc hK hN⟩ rfl rfl hl.1 rfl (lv_room (Nat.le_of_ble_eq_true rfl)) dX9_count_6 ⟨by first | exact Nat.le_of_ble_eq_true rfl | exact Nat.le_refl _, by first | exact Nat.le_of_ble_eq_true rfl | exact Nat.le_refl _⟩) hS (fun q _ h => hFc q h) hFc (fun r_1 u t H1 locs ht hvm h hB hz1 hk1 hS => ?_)
  obtain ⟨hP1, hD1⟩ := hB
  rw [ht] at hP1
  try dsimp only at h
  obtain ⟨hP, hD⟩ := va_join (wr := [(h_a0, .inr (8, [.int a0_primes, w_a0_prime, .ref q_a0_isNone, .int a0_hasSpan, .long a0_spanFrom, .int a0_spanMany, w_a0_least, w_a0_greatest, w_a0_isSquared, .int a0_hasPart, .long a0_parted, .int a0_partMany, w_a0_partPrime, w_a0_partPower, .int a0_rows, w_a0_row, .long a0_foundLeast, .long a0_foundGreatest, .int a0_foundSquare])), (q_a0_isNone, .inl (cZ, 2000001, .inl a0_isNone))]) (w1 := []) hP hD [] [0, 1] rfl rfl (by decide) (by decide) hk1 hFc hP1 hD1
  generalize H1 = H at hP hS ⊢
  have hP : va_P (dC, dI) vwCl [(h_a0, .inr (8, [.int a0_primes, w_a0_prime, .ref q_a0_isNone, .int a0_hasSpan, .long a0_spanFrom, .int a0_spanMany, w_a0_least, w_a0_greatest, w_a0_isSquared, .int a0_hasPart, .long a0_parted, .int a0_partMany, w_a0_partPrime, w_a0_partPower, .int a0_rows, w_a0_row, .long a0_foundLeast, .long a0_foundGreatest, .int a0_foundSquare])), (q_a0_isNone, .inl (cZ, 2000001, .inl a0_isNone))] H := hP
  have hD : va_D A [(h_a0, .inr (8, [.int a0_primes, w_a0_prime, .ref q_a0_isNone, .int a0_hasSpan, .long a0_spanFrom, .int a0_spanMany, w_a0_least, w_a0_greatest, w_a0_isSquared, .int a0_hasPart, .long a0_parted, .int a0_partMany, w_a0_partPrime, w_a0_partPower, .int a0_rows, w_a0_row, .long a0_foundLeast, .long a0_foundGreatest, .int a0_foundSquare])), (q_a0_isNone, .inl (cZ, 2000001, .inl a0_isNone))] := hD
  refine lv_if_ne (tgt := 14) hx hb dX9_count_9 (by decide) (fun c_2 => ?_) (fun c_2 => ?_)
  · replace h := h.2 c_2
    refine lv_iconst (v := (0 : Int32)) hx hb dX9_count_14 (by decide) ?_
    refine lv_istore_n (lv' := [(2, .int (0 : Int32)), (0, .ref h_a0), (1, .int p1)]) hx hb dX9_count_15 rfl hl (by decide) rfl (fun ls hl => ?_)
    refine lv_iconst (v := (2 : Int32)) hx hb dX9_count_16 (by decide) ?_
    refine lv_istore_n (lv' := [(3, .int (2 : Int32)), (2, .int (0 : Int32)), (0, .ref h_a0), (1, .int p1)]) hx hb dX9_count_17 rfl hl (by decide) rfl (fun ls hl => ?_)
    obtain ⟨I_18_2, m_18_2, h0_18_2, hs_18_2⟩ := h
    have key_18_2 : ∀ (n : Nat) (l3_18_2 : Int32) (l2_18_2 : Int32), m_18_2 l3_18_2 l2_18_2 < n → I_18_2 l3_18_2 l2_18_2 → ∀ (ls : Array Slot) (H : Heap) (locs : List Loc), lv_has ls 4 [(3, .int l3_18_2), (2, .int l2_18_2), (0, .ref h_a0), (1, .int p1)] → va_P (dC, dI) vwCl [(h_a0, .inr (8, [.int a0_primes, w_a0_prime, .ref q_a0_isNone, .int a0_hasSpan, .long a0_spanFrom, .int a0_spanMany, w_a0_least, w_a0_greatest, w_a0_isSquared, .int a0_hasPart, .long a0_parted, .int a0_partMany, w_a0_partPrime, w_a0_partPower, .int a0_rows, w_a0_row, .long a0_foundLeast, .long a0_foundGreatest, .int a0_foundSquare])), (q_a0_isNone, .inl (cZ, 2000001, .inl a0_isNone))] H → va_D A [(h_a0, .inr (8, [.int a0_primes, w_a0_prime, .ref q_a0_isNone, .int a0_hasSpan, .long a0_spanFrom, .int a0_spanMany, w_a0_least, w_a0_greatest, w_a0_isSquared, .int a0_hasPart, .long a0_parted, .int a0_partMany, w_a0_partPrime, w_a0_partPower, .int a0_rows, w_a0_row, .long a0_foundLeast, .long a0_foundGreatest, .int a0_foundSquare])), (q_a0_isNone, .inl (cZ, 2000001, .inl a0_isNone))] → va_S A s.heap H locs → W p l e (headSpec wsX9_count rm_X9_count).room s m ([.ref h_a0, .int p1] : List Value).toArray below meth c H locs 0 0 (MQ below (qc_X9_count dC dI cI cJ cZ h_a0 a0_primes w_a0_prime a0_isNone q_a0_isNone a0_hasSpan a0_spanFrom a0_spanMany w_a0_least w_a0_greatest w_a0_isSquared a0_hasPart a0_parted a0_partMany w_a0_partPrime w_a0_partPower a0_rows w_a0_row a0_foundLeast a0_foundGreatest a0_foundSquare Q A) ([.ref h_a0, .int p1] : List Value).toArray s 0 0 A) (F0 m 18 ls []) := by
      intro n
      induction n with
      | zero =>
        intro l3_18_2 l2_18_2 hm
        exact absurd hm (Nat.not_lt_zero _)
      | succ n ih_18_2 =>
        intro l3_18_2 l2_18_2 hm_18_2 hI ls H locs hl hP hD hS
        have h := hs_18_2 l3_18_2 l2_18_2 hI
        refine lv_iload_n hx hb dX9_count_18 rfl (lv_at hl 0 rfl) ?_
        refine lv_iload_n hx hb dX9_count_19 rfl (lv_at hl 3 rfl) ?_
        refine lv_icmp_gt (tgt := 46) hx hb dX9_count_20 (by decide) (fun c_4 => ?_) (fun c_4 => ?_)
        · replace h := h.1 c_4
          refine lv_iload_n hx hb dX9_count_46 rfl (lv_at hl 1 rfl) ?_
          have hP9 := hP.sub (ws' := [(h_a0, .inr (8, [.int a0_primes, w_a0_prime, .ref q_a0_isNone, .int a0_hasSpan, .long a0_spanFrom, .int a0_spanMany, w_a0_least, w_a0_greatest, w_a0_isSquared, .int a0_hasPart, .long a0_parted, .int a0_partMany, w_a0_partPrime, w_a0_partPower, .int a0_rows, w_a0_row, .long a0_foundLeast, .long a0_foundGreatest, .int a0_foundSquare])), (q_a0_isNone, .inl (cZ, 2000001, .inl a0_isNone))]) [0, 1] rfl
          have hD9 := hD.sub (ws' := [(h_a0, .inr (8, [.int a0_primes, w_a0_prime, .ref q_a0_isNone, .int a0_hasSpan, .long a0_spanFrom, .int a0_spanMany, w_a0_least, w_a0_greatest, w_a0_isSquared, .int a0_hasPart, .long a0_parted, .int a0_partMany, w_a0_partPrime, w_a0_partPower, .int a0_rows, w_a0_row, .long a0_foundLeast, .long a0_foundGreatest, .int a0_foundSquare])), (q_a0_isNone, .inl (cZ, 2000001, .inl a0_isNone))]) [0, 1] (by decide) rfl
          exact W.iret (v := l2_18_2) hx hb hr (fun t ht hW => ⟨⟨_, (), rfl, h, by rw [ht]; exact hP9, hD9⟩, hS.F ht⟩) hS.2.2 dX9_count_47
        · replace h := h.2 c_4
          refine lv_iload_n hx hb dX9_count_23 rfl (lv_at hl 1 rfl) ?_
          refine lv_aload_n hx hb dX9_count_24 rfl (lv_at hl 2 rfl) ?_
          refine va_get (D := (dC, dI)) (ci := 8) (v := .ref q_a0_isNone) (C := RX9) (T := TX9) (N := 19) hx hb hts hin_X9 hown hK hP 0 rfl rfl 2 (by decide) hw_1 (fun _ h9 => h9) rfl dX9_count_25 ?_
          refine lv_iload_n hx hb dX9_count_28 rfl (lv_at hl 0 rfl) ?_
          obtain ⟨hin_5, h⟩ := h
          refine va_zald hx hb hK hP 1 2 rfl rfl hin_5 dX9_count_29 ?_
          refine lv_if_eq (tgt := 37) hx hb dX9_count_30 (by decide) (fun c_6 => ?_) (fun c_6 => ?_)
          · replace h := h.1 c_6
            refine lv_iconst (v := (1 : Int32)) hx hb dX9_count_37 (by decide) ?_
            refine lv_iadd hx hb dX9_count_38 ?_
            refine lv_topi (fun x2_7 e_x2_7 => ?_)
            replace h := h x2_7 e_x2_7
            refine lv_istore_n (lv' := [(2, .int x2_7), (3, .int l3_18_2), (0, .ref h_a0), (1, .int p1)]) hx hb dX9_count_39 rfl hl (by decide) rfl (fun ls hl => ?_)
            obtain ⟨x3_8, e_x3_8⟩ : ∃ y : Int32, y = l3_18_2 + (1 : Int32) := ⟨_, rfl⟩
            replace h := h x3_8 e_x3_8
            refine lv_iinc (v := x3_8) (lv' := [(3, .int x3_8), (2, .int x2_7), (0, .ref h_a0), (1, .int p1)]) hx hb dX9_count_40 hl (k := 1) rfl (by rw [e_x3_8]; rfl) (by decide) rfl (fun ls hl => ?_)
            refine lv_goto (tgt := 18) hx hb dX9_count_43 (by decide) ?_
            exact ih_18_2 x3_8 x2_7 (Nat.lt_of_lt_of_le h.2 (Nat.le_of_lt_succ hm_18_2)) h.1 _ _ _ (lv_sub hl [0, 1, 2, 3] rfl) (hP.sub [0, 1] rfl) (hD.sub [0, 1] (by decide) rfl) hS
          · replace h := h.2 c_6
            refine lv_iconst (v := (0 : Int32)) hx hb dX9_count_33 (by decide) ?_
            refine lv_goto (tgt := 38) hx hb dX9_count_34 (by decide) ?_
            refine lv_iadd hx hb dX9_count_38 ?_
            refine lv_topi (fun x2_9 e_x2_9 => ?_)
            replace h := h x2_9 e_x2_9
            refine lv_istore_n (lv' := [(2, .int x2_9), (3, .int l3_18_2), (0, .ref h_a0), (1, .int p1)]) hx hb dX9_count_39 rfl hl (by decide) rfl (fun ls hl => ?_)
            obtain ⟨x3_10, e_x3_10⟩ : ∃ y : Int32, y = l3_18_2 + (1 : Int32) := ⟨_, rfl⟩
            replace h := h x3_10 e_x3_10
            refine lv_iinc (v := x3_10) (lv' := [(3, .int x3_10), (2, .int x2_9), (0, .ref h_a0), (1, .int p1)]) hx hb dX9_count_40 hl (k := 1) rfl (by rw [e_x3_10]; rfl) (by decide) rfl (fun ls hl => ?_)
            refine lv_goto (tgt := 18) hx hb dX9_count_43 (by decide) ?_
            exact ih_18_2 x3_10 x2_9 (Nat.lt_of_lt_of_le h.2 (Nat.le_of_lt_succ hm_18_2)) h.1 _ _ _ (lv_sub hl [0, 1, 2, 3] rfl) (hP.sub [0, 1] rfl) (hD.sub [0, 1] (by decide) rfl) hS
    exact key_18_2 _ (2 : Int32) (0 : Int32) (Nat.lt_succ_self _) h0_18_2 _ _ _ (lv_sub hl [0, 1, 2, 3] rfl) (hP.sub [0, 1] rfl) (hD.sub [0, 1] (by decide) rfl) hS
  · replace h := h.1 c_2
    refine lv_iconst (v := (-1 : Int32)) hx hb dX9_count_12 (by decide) ?_
    have hP9 := hP.sub (ws' := [(h_a0, .inr (8, [.int a0_primes, w_a0_prime, .ref q_a0_isNone, .int a0_hasSpan, .long a0_spanFrom, .int a0_spanMany, w_a0_least, w_a0_greatest, w_a0_isSquared, .int a0_hasPart, .long a0_parted, .int a0_partMany, w_a0_partPrime, w_a0_partPower, .int a0_rows, w_a0_row, .long a0_foundLeast, .long a0_foundGreatest, .int a0_foundSquare])), (q_a0_isNone, .inl (cZ, 2000001, .inl a0_isNone))]) [0, 1] rfl
    have hD9 := hD.sub (ws' := [(h_a0, .inr (8, [.int a0_primes, w_a0_prime, .ref q_a0_isNone, .int a0_hasSpan, .long a0_spanFrom, .int a0_spanMany, w_a0_least, w_a0_greatest, w_a0_isSquared, .int a0_hasPart, .long a0_parted, .int a0_partMany, w_a0_partPrime, w_a0_partPower, .int a0_rows, w_a0_row, .long a0_foundLeast, .long a0_foundGreatest, .int a0_foundSquare])), (q_a0_isNone, .inl (cZ, 2000001, .inl a0_isNone))]) [0, 1] (by decide) rfl
    exact W.iret (v := (-1 : Int32)) hx hb hr (fun t ht hW => ⟨⟨_, (), rfl, h, by rw [ht]; exact hP9, hD9⟩, hS.F ht⟩) hS.2.2 dX9_count_13
def wp_X9_sum (a0_isNone : Nat → Int32) (p1 : Int32) (Q : Int64 → Prop) : Prop :=
  wp_X9_in (p1.toInt64) (0 : Int64) (2000000 : Int64) (fun r_1 => ((r_1 = (0 : Int32) → Q (-1 : Int64)) ∧ (¬ r_1 = (0 : Int32) → (∃ (I_21_2 : Int32 → Int64 → Prop) (m_21_2 : Int32 → Int64 → Nat), I_21_2 (2 : Int32) (0 : Int64) ∧ ∀ (l4_21_2 : Int32) (l2_21_2 : Int64), I_21_2 l4_21_2 l2_21_2 → ((p1 < l4_21_2 → Q l2_21_2) ∧ (¬ p1 < l4_21_2 → (vp_in l4_21_2 2000001 ∧ (((a0_isNone l4_21_2.toNatClampNeg) = (0 : Int32) → (∀ x2_7 : Int64, x2_7 = (l2_21_2 + l4_21_2.toInt64) → (∀ x4_8 : Int32, x4_8 = l4_21_2 + (1 : Int32) → (I_21_2 x4_8 x2_7 ∧ m_21_2 x4_8 x2_7 < m_21_2 l4_21_2 l2_21_2)))) ∧ (¬ (a0_isNone l4_21_2.toNatClampNeg) = (0 : Int32) → (∀ x2_9 : Int64, x2_9 = (l2_21_2 + (0 : Int64)) → (∀ x4_10 : Int32, x4_10 = l4_21_2 + (1 : Int32) → (I_21_2 x4_10 x2_9 ∧ m_21_2 x4_10 x2_9 < m_21_2 l4_21_2 l2_21_2))))))))))))
abbrev rm_X9_sum : Room := { frames := 1, cells := 0, slots := 0, locals := 25 }
abbrev qc_X9_sum (dC : Nat → ClassId) (dI : Nat → Nat → Nat) (cI cJ cZ : ClassId) (h_a0 : Nat) (a0_primes : Int32) (w_a0_prime : Value) (a0_isNone : Nat → Int32) (q_a0_isNone : Nat) (a0_hasSpan : Int32) (a0_spanFrom : Int64) (a0_spanMany : Int32) (w_a0_least : Value) (w_a0_greatest : Value) (w_a0_isSquared : Value) (a0_hasPart : Int32) (a0_parted : Int64) (a0_partMany : Int32) (w_a0_partPrime : Value) (w_a0_partPower : Value) (a0_rows : Int32) (w_a0_row : Value) (a0_foundLeast : Int64) (a0_foundGreatest : Int64) (a0_foundSquare : Int32) (Q : Int64 → Prop) (A : Nat → Prop) : Array Value → State → Outcome → State → Prop := va_Ql (fun (r : Int64) (_ : Unit) => Q r) (post_ dC dI A (fun (u : Unit) => [(h_a0, .inr (8, [.int a0_primes, w_a0_prime, .ref q_a0_isNone, .int a0_hasSpan, .long a0_spanFrom, .int a0_spanMany, w_a0_least, w_a0_greatest, w_a0_isSquared, .int a0_hasPart, .long a0_parted, .int a0_partMany, w_a0_partPrime, w_a0_partPower, .int a0_rows, w_a0_row, .long a0_foundLeast, .long a0_foundGreatest, .int a0_foundSquare])), (q_a0_isNone, .inl (cZ, 2000001, .inl a0_isNone))])) A
set_option maxHeartbeats 4000000 in
set_option maxRecDepth 100000 in
theorem c_X9_sum (l : Launch) (dC : Nat → ClassId) (dI : Nat → Nat → Nat) (cI cJ cZ : ClassId) (sz : Nat) (h_a0 : Nat) (a0_primes : Int32) (w_a0_prime : Value) (a0_isNone : Nat → Int32) (q_a0_isNone : Nat) (a0_hasSpan : Int32) (a0_spanFrom : Int64) (a0_spanMany : Int32) (w_a0_least : Value) (w_a0_greatest : Value) (w_a0_isSquared : Value) (a0_hasPart : Int32) (a0_parted : Int64) (a0_partMany : Int32) (w_a0_partPrime : Value) (w_a0_partPower : Value) (a0_rows : Int32) (w_a0_row : Value) (a0_foundLeast : Int64) (a0_foundGreatest : Int64) (a0_foundSquare : Int32) (p1 : Int32) (Q : Int64 → Prop) (hQ : wp_X9_sum a0_isNone p1 Q) : Met l yX9_sum wsX9_sum rm_X9_sum (pre_ dC dI cI cJ cZ [.ref h_a0, .int p1] [(h_a0, .inr (8, [.int a0_primes, w_a0_prime, .ref q_a0_isNone, .int a0_hasSpan, .long a0_spanFrom, .int a0_spanMany, w_a0_least, w_a0_greatest, w_a0_isSquared, .int a0_hasPart, .long a0_parted, .int a0_partMany, w_a0_partPrime, w_a0_partPower, .int a0_rows, w_a0_row, .long a0_foundLeast, .long a0_foundGreatest, .int a0_foundSquare])), (q_a0_isNone, .inl (cZ, 2000001, .inl a0_isNone))] sz) (qc_X9_sum dC dI cI cJ cZ h_a0 a0_primes w_a0_prime a0_isNone q_a0_isNone a0_hasSpan a0_spanFrom a0_spanMany w_a0_least w_a0_greatest w_a0_isSquared a0_hasPart a0_parted a0_partMany w_a0_partPrime w_a0_partPower a0_rows w_a0_row a0_foundLeast a0_foundGreatest a0_foundSquare Q (va_A [(h_a0, .inr (8, [.int a0_primes, w_a0_prime, .ref q_a0_isNone, .int a0_hasSpan, .long a0_spanFrom, .int a0_spanMany, w_a0_least, w_a0_greatest, w_a0_isSquared, .int a0_hasPart, .long a0_parted, .int a0_partMany, w_a0_partPrime, w_a0_partPower, .int a0_rows, w_a0_row, .long a0_foundLeast, .long a0_foundGreatest, .int a0_foundSquare])), (q_a0_isNone, .inl (cZ, 2000001, .inl a0_isNone))] sz)) 0 0 (va_A [(h_a0, .inr (8, [.int a0_primes, w_a0_prime, .ref q_a0_isNone, .int a0_hasSpan, .long a0_spanFrom, .int a0_spanMany, w_a0_least, w_a0_greatest, w_a0_isSquared, .int a0_hasPart, .long a0_parted, .int a0_partMany, w_a0_partPrime, w_a0_partPower, .int a0_rows, w_a0_row, .long a0_foundLeast, .long a0_foundGreatest, .int a0_foundSquare])), (q_a0_isNone, .inl (cZ, 2000001, .inl a0_isNone))] sz) := by
  refine Met.ofW (cc := cX9_sum) (maxL := 5) (ret := (some .long)) (by decide) rfl ?_
  intro p e s m args below meth c s₁ B hml hv
  obtain ⟨rfl, hsz, hP, hK, hN, hD0⟩ := hv
  have hx := B.exec
  have hb := B.bytes
  have hr := B.returns
  have hts := atoms_spec (ws := wsX9_sum) B.pre
  have hown : s.vm.findClass RX9 = some m.cls := findClass_of_methodNamed B.named
  subst hsz
  have hD := hD0.self (sz := s.heap.size)
  generalize hAe : va_A [(h_a0, .inr (8, [.int a0_primes, w_a0_prime, .ref q_a0_isNone, .int a0_hasSpan, .long a0_spanFrom, .int a0_spanMany, w_a0_least, w_a0_greatest, w_a0_isSquared, .int a0_hasPart, .long a0_parted, .int a0_partMany, w_a0_partPrime, w_a0_partPower, .int a0_rows, w_a0_row, .long a0_foundLeast, .long a0_foundGreatest, .int a0_foundSquare])), (q_a0_isNone, .inl (cZ, 2000001, .inl a0_isNone))] s.heap.size = A at hD ⊢
  have hA : ∀ q : Nat, s.heap.size ≤ q → A q := fun q h => by rw [← hAe]; exact Or.inr h
  have hS : va_S A s.heap s.heap [] := va_S.rf
  have hl := lv_entry ([.ref h_a0, .int p1]) (n := 5) (Nat.le_of_ble_eq_true rfl)
  rw [lg_entry_eq]
  generalize (lg_sl ([.ref h_a0, .int p1]) ++ List.replicate (5 - (lg_sl ([.ref h_a0, .int p1])).length) Slot.unset).toArray = ls at hl ⊢
  have hl : lv_has ls 5 [(0, .ref h_a0), (1, .int p1)] := hl
  have h := hQ
  unfold wp_X9_sum at h
  have hw_0 := hts (.constantLong RX9 100 (2000000)) (by decide +kernel)
  have hw_1 := hts (.fieldLink RX9 14 "NumberSievesModel" "isNone" "[Z") (by decide +kernel)
  have hin_X9 : ∀ w ∈ wsX90, w ∈ wsX9_sum := by decide +kernel
  have hw_3 := hts (.constantLong RX9 92 (-1)) (by decide +kernel)
  refine lv_iload_n hx hb dX9_sum_0 rfl (lv_at hl 1 rfl) ?_
  refine lv_i2l hx hb dX9_sum_1 rfl ?_
  refine lv_lconst (v := (0 : Int64)) hx hb dX9_sum_2 (by decide) ?_
  refine lv_ldc2 hx hb hown hw_0 dX9_sum_3 ?_
  have hPc := hP.sub (ws' := []) [] rfl
  have hDc := hD.sub (ws' := []) [] (by decide) rfl
  have hFc := va_free (wc := []) hD hS hA [] rfl
  refine va_calli (va_runS (As := [.long p1.toInt64, .long (0 : Int64), .long (2000000 : Int64)]) (rest := []) ⟨hx, hb, hml, hown, hts⟩ (c_X9_in l dC dI cI cJ cZ _ (p1.toInt64) (0 : Int64) (2000000 : Int64) _ h) (va_cwS 3 hts gX9_sum_X9_in rfl rfl rfl (by decide +kernel) ⟨Nat.le_of_ble_eq_true rfl, Nat.le_of_ble_eq_true rfl⟩) ⟨pre_fb, pre_of hPc hDc hK hN⟩ rfl rfl hl.1 rfl (lv_room (Nat.le_of_ble_eq_true rfl)) dX9_sum_6 ⟨by first | exact Nat.le_of_ble_eq_true rfl | exact Nat.le_refl _, by first | exact Nat.le_of_ble_eq_true rfl | exact Nat.le_refl _⟩) hS (fun q _ h => hFc q h) hFc (fun r_1 u t H1 locs ht hvm h hB hz1 hk1 hS => ?_)
  obtain ⟨hP1, hD1⟩ := hB
  rw [ht] at hP1
  try dsimp only at h
  obtain ⟨hP, hD⟩ := va_join (wr := [(h_a0, .inr (8, [.int a0_primes, w_a0_prime, .ref q_a0_isNone, .int a0_hasSpan, .long a0_spanFrom, .int a0_spanMany, w_a0_least, w_a0_greatest, w_a0_isSquared, .int a0_hasPart, .long a0_parted, .int a0_partMany, w_a0_partPrime, w_a0_partPower, .int a0_rows, w_a0_row, .long a0_foundLeast, .long a0_foundGreatest, .int a0_foundSquare])), (q_a0_isNone, .inl (cZ, 2000001, .inl a0_isNone))]) (w1 := []) hP hD [] [0, 1] rfl rfl (by decide) (by decide) hk1 hFc hP1 hD1
  generalize H1 = H at hP hS ⊢
  have hP : va_P (dC, dI) vwCl [(h_a0, .inr (8, [.int a0_primes, w_a0_prime, .ref q_a0_isNone, .int a0_hasSpan, .long a0_spanFrom, .int a0_spanMany, w_a0_least, w_a0_greatest, w_a0_isSquared, .int a0_hasPart, .long a0_parted, .int a0_partMany, w_a0_partPrime, w_a0_partPower, .int a0_rows, w_a0_row, .long a0_foundLeast, .long a0_foundGreatest, .int a0_foundSquare])), (q_a0_isNone, .inl (cZ, 2000001, .inl a0_isNone))] H := hP
  have hD : va_D A [(h_a0, .inr (8, [.int a0_primes, w_a0_prime, .ref q_a0_isNone, .int a0_hasSpan, .long a0_spanFrom, .int a0_spanMany, w_a0_least, w_a0_greatest, w_a0_isSquared, .int a0_hasPart, .long a0_parted, .int a0_partMany, w_a0_partPrime, w_a0_partPower, .int a0_rows, w_a0_row, .long a0_foundLeast, .long a0_foundGreatest, .int a0_foundSquare])), (q_a0_isNone, .inl (cZ, 2000001, .inl a0_isNone))] := hD
  refine lv_if_ne (tgt := 16) hx hb dX9_sum_9 (by decide) (fun c_2 => ?_) (fun c_2 => ?_)
  · replace h := h.2 c_2
    refine lv_lconst (v := (0 : Int64)) hx hb dX9_sum_16 (by decide) ?_
    refine lv_lstore_n (lv' := [(2, .long (0 : Int64)), (0, .ref h_a0), (1, .int p1)]) hx hb dX9_sum_17 rfl hl (by decide) rfl (fun ls hl => ?_)
    refine lv_iconst (v := (2 : Int32)) hx hb dX9_sum_18 (by decide) ?_
    refine lv_istore (lv' := [(4, .int (2 : Int32)), (2, .long (0 : Int64)), (0, .ref h_a0), (1, .int p1)]) hx hb dX9_sum_19 hl (by decide) rfl (fun ls hl => ?_)
    obtain ⟨I_21_2, m_21_2, h0_21_2, hs_21_2⟩ := h
    have key_21_2 : ∀ (n : Nat) (l4_21_2 : Int32) (l2_21_2 : Int64), m_21_2 l4_21_2 l2_21_2 < n → I_21_2 l4_21_2 l2_21_2 → ∀ (ls : Array Slot) (H : Heap) (locs : List Loc), lv_has ls 5 [(4, .int l4_21_2), (2, .long l2_21_2), (0, .ref h_a0), (1, .int p1)] → va_P (dC, dI) vwCl [(h_a0, .inr (8, [.int a0_primes, w_a0_prime, .ref q_a0_isNone, .int a0_hasSpan, .long a0_spanFrom, .int a0_spanMany, w_a0_least, w_a0_greatest, w_a0_isSquared, .int a0_hasPart, .long a0_parted, .int a0_partMany, w_a0_partPrime, w_a0_partPower, .int a0_rows, w_a0_row, .long a0_foundLeast, .long a0_foundGreatest, .int a0_foundSquare])), (q_a0_isNone, .inl (cZ, 2000001, .inl a0_isNone))] H → va_D A [(h_a0, .inr (8, [.int a0_primes, w_a0_prime, .ref q_a0_isNone, .int a0_hasSpan, .long a0_spanFrom, .int a0_spanMany, w_a0_least, w_a0_greatest, w_a0_isSquared, .int a0_hasPart, .long a0_parted, .int a0_partMany, w_a0_partPrime, w_a0_partPower, .int a0_rows, w_a0_row, .long a0_foundLeast, .long a0_foundGreatest, .int a0_foundSquare])), (q_a0_isNone, .inl (cZ, 2000001, .inl a0_isNone))] → va_S A s.heap H locs → W p l e (headSpec wsX9_sum rm_X9_sum).room s m ([.ref h_a0, .int p1] : List Value).toArray below meth c H locs 0 0 (MQ below (qc_X9_sum dC dI cI cJ cZ h_a0 a0_primes w_a0_prime a0_isNone q_a0_isNone a0_hasSpan a0_spanFrom a0_spanMany w_a0_least w_a0_greatest w_a0_isSquared a0_hasPart a0_parted a0_partMany w_a0_partPrime w_a0_partPower a0_rows w_a0_row a0_foundLeast a0_foundGreatest a0_foundSquare Q A) ([.ref h_a0, .int p1] : List Value).toArray s 0 0 A) (F0 m 21 ls []) := by
      intro n
      induction n with
      | zero =>
        intro l4_21_2 l2_21_2 hm
        exact absurd hm (Nat.not_lt_zero _)
      | succ n ih_21_2 =>
        intro l4_21_2 l2_21_2 hm_21_2 hI ls H locs hl hP hD hS
        have h := hs_21_2 l4_21_2 l2_21_2 hI
        refine lv_iload hx hb dX9_sum_21 (lv_at hl 0 rfl) ?_
        refine lv_iload_n hx hb dX9_sum_23 rfl (lv_at hl 3 rfl) ?_
        refine lv_icmp_gt (tgt := 53) hx hb dX9_sum_24 (by decide) (fun c_4 => ?_) (fun c_4 => ?_)
        · replace h := h.1 c_4
          refine lv_lload_n hx hb dX9_sum_53 rfl (lv_at hl 1 rfl) ?_
          have hP9 := hP.sub (ws' := [(h_a0, .inr (8, [.int a0_primes, w_a0_prime, .ref q_a0_isNone, .int a0_hasSpan, .long a0_spanFrom, .int a0_spanMany, w_a0_least, w_a0_greatest, w_a0_isSquared, .int a0_hasPart, .long a0_parted, .int a0_partMany, w_a0_partPrime, w_a0_partPower, .int a0_rows, w_a0_row, .long a0_foundLeast, .long a0_foundGreatest, .int a0_foundSquare])), (q_a0_isNone, .inl (cZ, 2000001, .inl a0_isNone))]) [0, 1] rfl
          have hD9 := hD.sub (ws' := [(h_a0, .inr (8, [.int a0_primes, w_a0_prime, .ref q_a0_isNone, .int a0_hasSpan, .long a0_spanFrom, .int a0_spanMany, w_a0_least, w_a0_greatest, w_a0_isSquared, .int a0_hasPart, .long a0_parted, .int a0_partMany, w_a0_partPrime, w_a0_partPower, .int a0_rows, w_a0_row, .long a0_foundLeast, .long a0_foundGreatest, .int a0_foundSquare])), (q_a0_isNone, .inl (cZ, 2000001, .inl a0_isNone))]) [0, 1] (by decide) rfl
          exact W.lret (v := l2_21_2) hx hb hr (fun t ht hW => ⟨⟨_, (), rfl, h, by rw [ht]; exact hP9, hD9⟩, hS.F ht⟩) hS.2.2 dX9_sum_54
        · replace h := h.2 c_4
          refine lv_lload_n hx hb dX9_sum_27 rfl (lv_at hl 1 rfl) ?_
          refine lv_aload_n hx hb dX9_sum_28 rfl (lv_at hl 2 rfl) ?_
          refine va_get (D := (dC, dI)) (ci := 8) (v := .ref q_a0_isNone) (C := RX9) (T := TX9) (N := 19) hx hb hts hin_X9 hown hK hP 0 rfl rfl 2 (by decide) hw_1 (fun _ h9 => h9) rfl dX9_sum_29 ?_
          refine lv_iload hx hb dX9_sum_32 (lv_at hl 0 rfl) ?_
          obtain ⟨hin_5, h⟩ := h
          refine va_zald hx hb hK hP 1 2 rfl rfl hin_5 dX9_sum_34 ?_
          refine lv_if_eq (tgt := 42) hx hb dX9_sum_35 (by decide) (fun c_6 => ?_) (fun c_6 => ?_)
          · replace h := h.1 c_6
            refine lv_iload hx hb dX9_sum_42 (lv_at hl 0 rfl) ?_
            refine lv_i2l hx hb dX9_sum_44 rfl ?_
            refine lv_ladd hx hb dX9_sum_45 ?_
            refine lv_topl (fun x2_7 e_x2_7 => ?_)
            replace h := h x2_7 e_x2_7
            refine lv_lstore_n (lv' := [(2, .long x2_7), (4, .int l4_21_2), (0, .ref h_a0), (1, .int p1)]) hx hb dX9_sum_46 rfl hl (by decide) rfl (fun ls hl => ?_)
            obtain ⟨x4_8, e_x4_8⟩ : ∃ y : Int32, y = l4_21_2 + (1 : Int32) := ⟨_, rfl⟩
            replace h := h x4_8 e_x4_8
            refine lv_iinc (v := x4_8) (lv' := [(4, .int x4_8), (2, .long x2_7), (0, .ref h_a0), (1, .int p1)]) hx hb dX9_sum_47 hl (k := 1) rfl (by rw [e_x4_8]; rfl) (by decide) rfl (fun ls hl => ?_)
            refine lv_goto (tgt := 21) hx hb dX9_sum_50 (by decide) ?_
            exact ih_21_2 x4_8 x2_7 (Nat.lt_of_lt_of_le h.2 (Nat.le_of_lt_succ hm_21_2)) h.1 _ _ _ (lv_sub hl [0, 1, 2, 3] rfl) (hP.sub [0, 1] rfl) (hD.sub [0, 1] (by decide) rfl) hS
          · replace h := h.2 c_6
            refine lv_lconst (v := (0 : Int64)) hx hb dX9_sum_38 (by decide) ?_
            refine lv_goto (tgt := 45) hx hb dX9_sum_39 (by decide) ?_
            refine lv_ladd hx hb dX9_sum_45 ?_
            refine lv_topl (fun x2_9 e_x2_9 => ?_)
            replace h := h x2_9 e_x2_9
            refine lv_lstore_n (lv' := [(2, .long x2_9), (4, .int l4_21_2), (0, .ref h_a0), (1, .int p1)]) hx hb dX9_sum_46 rfl hl (by decide) rfl (fun ls hl => ?_)
            obtain ⟨x4_10, e_x4_10⟩ : ∃ y : Int32, y = l4_21_2 + (1 : Int32) := ⟨_, rfl⟩
            replace h := h x4_10 e_x4_10
            refine lv_iinc (v := x4_10) (lv' := [(4, .int x4_10), (2, .long x2_9), (0, .ref h_a0), (1, .int p1)]) hx hb dX9_sum_47 hl (k := 1) rfl (by rw [e_x4_10]; rfl) (by decide) rfl (fun ls hl => ?_)
            refine lv_goto (tgt := 21) hx hb dX9_sum_50 (by decide) ?_
            exact ih_21_2 x4_10 x2_9 (Nat.lt_of_lt_of_le h.2 (Nat.le_of_lt_succ hm_21_2)) h.1 _ _ _ (lv_sub hl [0, 1, 2, 3] rfl) (hP.sub [0, 1] rfl) (hD.sub [0, 1] (by decide) rfl) hS
    exact key_21_2 _ (2 : Int32) (0 : Int64) (Nat.lt_succ_self _) h0_21_2 _ _ _ (lv_sub hl [0, 1, 2, 3] rfl) (hP.sub [0, 1] rfl) (hD.sub [0, 1] (by decide) rfl) hS
  · replace h := h.1 c_2
    refine lv_ldc2 hx hb hown hw_3 dX9_sum_12 ?_
    have hP9 := hP.sub (ws' := [(h_a0, .inr (8, [.int a0_primes, w_a0_prime, .ref q_a0_isNone, .int a0_hasSpan, .long a0_spanFrom, .int a0_spanMany, w_a0_least, w_a0_greatest, w_a0_isSquared, .int a0_hasPart, .long a0_parted, .int a0_partMany, w_a0_partPrime, w_a0_partPower, .int a0_rows, w_a0_row, .long a0_foundLeast, .long a0_foundGreatest, .int a0_foundSquare])), (q_a0_isNone, .inl (cZ, 2000001, .inl a0_isNone))]) [0, 1] rfl
    have hD9 := hD.sub (ws' := [(h_a0, .inr (8, [.int a0_primes, w_a0_prime, .ref q_a0_isNone, .int a0_hasSpan, .long a0_spanFrom, .int a0_spanMany, w_a0_least, w_a0_greatest, w_a0_isSquared, .int a0_hasPart, .long a0_parted, .int a0_partMany, w_a0_partPrime, w_a0_partPower, .int a0_rows, w_a0_row, .long a0_foundLeast, .long a0_foundGreatest, .int a0_foundSquare])), (q_a0_isNone, .inl (cZ, 2000001, .inl a0_isNone))]) [0, 1] (by decide) rfl
    exact W.lret (v := (-1 : Int64)) hx hb hr (fun t ht hW => ⟨⟨_, (), rfl, h, by rw [ht]; exact hP9, hD9⟩, hS.F ht⟩) hS.2.2 dX9_sum_15
def wp_X9_among (a0_isNone : Nat → Int32) (p1 : Int32) (p2 : Int32) (p3 : Int32) (Q : Int32 → Prop) : Prop :=
  wp_X9_in (p1.toInt64) (0 : Int64) (2000000 : Int64) (fun r_1 => ((r_1 = (0 : Int32) → Q (-1 : Int32)) ∧ (¬ r_1 = (0 : Int32) → wp_X9_in (p2.toInt64) (1 : Int64) (60 : Int64) (fun r_3 => ((r_3 = (0 : Int32) → Q (-1 : Int32)) ∧ (¬ r_3 = (0 : Int32) → wp_X9_in (p3.toInt64) (0 : Int64) ((p2 - (1 : Int32)).toInt64) (fun r_5 => ((r_5 = (0 : Int32) → Q (-1 : Int32)) ∧ (¬ r_5 = (0 : Int32) → (∃ (I_45_6 : Int32 → Int32 → Prop) (m_45_6 : Int32 → Int32 → Nat), I_45_6 (2 : Int32) (0 : Int32) ∧ ∀ (l5_45_6 : Int32) (l4_45_6 : Int32), I_45_6 l5_45_6 l4_45_6 → ((p1 < l5_45_6 → Q l4_45_6) ∧ (¬ p1 < l5_45_6 → (vp_in l5_45_6 2000001 ∧ (((a0_isNone l5_45_6.toNatClampNeg) = (0 : Int32) → (¬ p2 = 0 ∧ (((l5_45_6 - l5_45_6 / p2 * p2) = p3 → (∀ x4_17 : Int32, x4_17 = (l4_45_6 + (1 : Int32)) → (∀ x5_18 : Int32, x5_18 = l5_45_6 + (1 : Int32) → (I_45_6 x5_18 x4_17 ∧ m_45_6 x5_18 x4_17 < m_45_6 l5_45_6 l4_45_6)))) ∧ (¬ (l5_45_6 - l5_45_6 / p2 * p2) = p3 → (∀ x4_15 : Int32, x4_15 = (l4_45_6 + (0 : Int32)) → (∀ x5_16 : Int32, x5_16 = l5_45_6 + (1 : Int32) → (I_45_6 x5_16 x4_15 ∧ m_45_6 x5_16 x4_15 < m_45_6 l5_45_6 l4_45_6))))))) ∧ (¬ (a0_isNone l5_45_6.toNatClampNeg) = (0 : Int32) → (∀ x4_11 : Int32, x4_11 = (l4_45_6 + (0 : Int32)) → (∀ x5_12 : Int32, x5_12 = l5_45_6 + (1 : Int32) → (I_45_6 x5_12 x4_11 ∧ m_45_6 x5_12 x4_11 < m_45_6 l5_45_6 l4_45_6))))))))))))))))))
abbrev rm_X9_among : Room := { frames := 1, cells := 0, slots := 0, locals := 25 }
abbrev qc_X9_among (dC : Nat → ClassId) (dI : Nat → Nat → Nat) (cI cJ cZ : ClassId) (h_a0 : Nat) (a0_primes : Int32) (w_a0_prime : Value) (a0_isNone : Nat → Int32) (q_a0_isNone : Nat) (a0_hasSpan : Int32) (a0_spanFrom : Int64) (a0_spanMany : Int32) (w_a0_least : Value) (w_a0_greatest : Value) (w_a0_isSquared : Value) (a0_hasPart : Int32) (a0_parted : Int64) (a0_partMany : Int32) (w_a0_partPrime : Value) (w_a0_partPower : Value) (a0_rows : Int32) (w_a0_row : Value) (a0_foundLeast : Int64) (a0_foundGreatest : Int64) (a0_foundSquare : Int32) (Q : Int32 → Prop) (A : Nat → Prop) : Array Value → State → Outcome → State → Prop := va_Qi (fun (r : Int32) (_ : Unit) => Q r) (post_ dC dI A (fun (u : Unit) => [(h_a0, .inr (8, [.int a0_primes, w_a0_prime, .ref q_a0_isNone, .int a0_hasSpan, .long a0_spanFrom, .int a0_spanMany, w_a0_least, w_a0_greatest, w_a0_isSquared, .int a0_hasPart, .long a0_parted, .int a0_partMany, w_a0_partPrime, w_a0_partPower, .int a0_rows, w_a0_row, .long a0_foundLeast, .long a0_foundGreatest, .int a0_foundSquare])), (q_a0_isNone, .inl (cZ, 2000001, .inl a0_isNone))])) A
set_option maxHeartbeats 4000000 in
set_option maxRecDepth 100000 in
theorem c_X9_among (l : Launch) (dC : Nat → ClassId) (dI : Nat → Nat → Nat) (cI cJ cZ : ClassId) (sz : Nat) (h_a0 : Nat) (a0_primes : Int32) (w_a0_prime : Value) (a0_isNone : Nat → Int32) (q_a0_isNone : Nat) (a0_hasSpan : Int32) (a0_spanFrom : Int64) (a0_spanMany : Int32) (w_a0_least : Value) (w_a0_greatest : Value) (w_a0_isSquared : Value) (a0_hasPart : Int32) (a0_parted : Int64) (a0_partMany : Int32) (w_a0_partPrime : Value) (w_a0_partPower : Value) (a0_rows : Int32) (w_a0_row : Value) (a0_foundLeast : Int64) (a0_foundGreatest : Int64) (a0_foundSquare : Int32) (p1 : Int32) (p2 : Int32) (p3 : Int32) (Q : Int32 → Prop) (hQ : wp_X9_among a0_isNone p1 p2 p3 Q) : Met l yX9_among wsX9_among rm_X9_among (pre_ dC dI cI cJ cZ [.ref h_a0, .int p1, .int p2, .int p3] [(h_a0, .inr (8, [.int a0_primes, w_a0_prime, .ref q_a0_isNone, .int a0_hasSpan, .long a0_spanFrom, .int a0_spanMany, w_a0_least, w_a0_greatest, w_a0_isSquared, .int a0_hasPart, .long a0_parted, .int a0_partMany, w_a0_partPrime, w_a0_partPower, .int a0_rows, w_a0_row, .long a0_foundLeast, .long a0_foundGreatest, .int a0_foundSquare])), (q_a0_isNone, .inl (cZ, 2000001, .inl a0_isNone))] sz) (qc_X9_among dC dI cI cJ cZ h_a0 a0_primes w_a0_prime a0_isNone q_a0_isNone a0_hasSpan a0_spanFrom a0_spanMany w_a0_least w_a0_greatest w_a0_isSquared a0_hasPart a0_parted a0_partMany w_a0_partPrime w_a0_partPower a0_rows w_a0_row a0_foundLeast a0_foundGreatest a0_foundSquare Q (va_A [(h_a0, .inr (8, [.int a0_primes, w_a0_prime, .ref q_a0_isNone, .int a0_hasSpan, .long a0_spanFrom, .int a0_spanMany, w_a0_least, w_a0_greatest, w_a0_isSquared, .int a0_hasPart, .long a0_parted, .int a0_partMany, w_a0_partPrime, w_a0_partPower, .int a0_rows, w_a0_row, .long a0_foundLeast, .long a0_foundGreatest, .int a0_foundSquare])), (q_a0_isNone, .inl (cZ, 2000001, .inl a0_isNone))] sz)) 0 0 (va_A [(h_a0, .inr (8, [.int a0_primes, w_a0_prime, .ref q_a0_isNone, .int a0_hasSpan, .long a0_spanFrom, .int a0_spanMany, w_a0_least, w_a0_greatest, w_a0_isSquared, .int a0_hasPart, .long a0_parted, .int a0_partMany, w_a0_partPrime, w_a0_partPower, .int a0_rows, w_a0_row, .long a0_foundLeast, .long a0_foundGreatest, .int a0_foundSquare])), (q_a0_isNone, .inl (cZ, 2000001, .inl a0_isNone))] sz) := by
  refine Met.ofW (cc := cX9_among) (maxL := 6) (ret := (some .int)) (by decide) rfl ?_
  intro p e s m args below meth c s₁ B hml hv
  obtain ⟨rfl, hsz, hP, hK, hN, hD0⟩ := hv
  have hx := B.exec
  have hb := B.bytes
  have hr := B.returns
  have hts := atoms_spec (ws := wsX9_among) B.pre
  have hown : s.vm.findClass RX9 = some m.cls := findClass_of_methodNamed B.named
  subst hsz
  have hD := hD0.self (sz := s.heap.size)
  generalize hAe : va_A [(h_a0, .inr (8, [.int a0_primes, w_a0_prime, .ref q_a0_isNone, .int a0_hasSpan, .long a0_spanFrom, .int a0_spanMany, w_a0_least, w_a0_greatest, w_a0_isSquared, .int a0_hasPart, .long a0_parted, .int a0_partMany, w_a0_partPrime, w_a0_partPower, .int a0_rows, w_a0_row, .long a0_foundLeast, .long a0_foundGreatest, .int a0_foundSquare])), (q_a0_isNone, .inl (cZ, 2000001, .inl a0_isNone))] s.heap.size = A at hD ⊢
  have hA : ∀ q : Nat, s.heap.size ≤ q → A q := fun q h => by rw [← hAe]; exact Or.inr h
  have hS : va_S A s.heap s.heap [] := va_S.rf
  have hl := lv_entry ([.ref h_a0, .int p1, .int p2, .int p3]) (n := 6) (Nat.le_of_ble_eq_true rfl)
  rw [lg_entry_eq]
  generalize (lg_sl ([.ref h_a0, .int p1, .int p2, .int p3]) ++ List.replicate (6 - (lg_sl ([.ref h_a0, .int p1, .int p2, .int p3])).length) Slot.unset).toArray = ls at hl ⊢
  have hl : lv_has ls 6 [(0, .ref h_a0), (1, .int p1), (2, .int p2), (3, .int p3)] := hl
  have h := hQ
  unfold wp_X9_among at h
  have hw_0 := hts (.constantLong RX9 100 (2000000)) (by decide +kernel)
  have hw_1 := hts (.constantLong RX9 102 (60)) (by decide +kernel)
  have hw_2 := hts (.fieldLink RX9 14 "NumberSievesModel" "isNone" "[Z") (by decide +kernel)
  have hin_X9 : ∀ w ∈ wsX90, w ∈ wsX9_among := by decide +kernel
  refine lv_iload_n hx hb dX9_among_0 rfl (lv_at hl 1 rfl) ?_
  refine lv_i2l hx hb dX9_among_1 rfl ?_
  refine lv_lconst (v := (0 : Int64)) hx hb dX9_among_2 (by decide) ?_
  refine lv_ldc2 hx hb hown hw_0 dX9_among_3 ?_
  have hPc := hP.sub (ws' := []) [] rfl
  have hDc := hD.sub (ws' := []) [] (by decide) rfl
  have hFc := va_free (wc := []) hD hS hA [] rfl
  refine va_calli (va_runS (As := [.long p1.toInt64, .long (0 : Int64), .long (2000000 : Int64)]) (rest := []) ⟨hx, hb, hml, hown, hts⟩ (c_X9_in l dC dI cI cJ cZ _ (p1.toInt64) (0 : Int64) (2000000 : Int64) _ h) (va_cwS 3 hts gX9_among_X9_in rfl rfl rfl (by decide +kernel) ⟨Nat.le_of_ble_eq_true rfl, Nat.le_of_ble_eq_true rfl⟩) ⟨pre_fb, pre_of hPc hDc hK hN⟩ rfl rfl hl.1 rfl (lv_room (Nat.le_of_ble_eq_true rfl)) dX9_among_6 ⟨by first | exact Nat.le_of_ble_eq_true rfl | exact Nat.le_refl _, by first | exact Nat.le_of_ble_eq_true rfl | exact Nat.le_refl _⟩) hS (fun q _ h => hFc q h) hFc (fun r_1 u t H1 locs ht hvm h hB hz1 hk1 hS => ?_)
  obtain ⟨hP1, hD1⟩ := hB
  rw [ht] at hP1
  try dsimp only at h
  obtain ⟨hP, hD⟩ := va_join (wr := [(h_a0, .inr (8, [.int a0_primes, w_a0_prime, .ref q_a0_isNone, .int a0_hasSpan, .long a0_spanFrom, .int a0_spanMany, w_a0_least, w_a0_greatest, w_a0_isSquared, .int a0_hasPart, .long a0_parted, .int a0_partMany, w_a0_partPrime, w_a0_partPower, .int a0_rows, w_a0_row, .long a0_foundLeast, .long a0_foundGreatest, .int a0_foundSquare])), (q_a0_isNone, .inl (cZ, 2000001, .inl a0_isNone))]) (w1 := []) hP hD [] [0, 1] rfl rfl (by decide) (by decide) hk1 hFc hP1 hD1
  generalize H1 = H at hP hS ⊢
  have hP : va_P (dC, dI) vwCl [(h_a0, .inr (8, [.int a0_primes, w_a0_prime, .ref q_a0_isNone, .int a0_hasSpan, .long a0_spanFrom, .int a0_spanMany, w_a0_least, w_a0_greatest, w_a0_isSquared, .int a0_hasPart, .long a0_parted, .int a0_partMany, w_a0_partPrime, w_a0_partPower, .int a0_rows, w_a0_row, .long a0_foundLeast, .long a0_foundGreatest, .int a0_foundSquare])), (q_a0_isNone, .inl (cZ, 2000001, .inl a0_isNone))] H := hP
  have hD : va_D A [(h_a0, .inr (8, [.int a0_primes, w_a0_prime, .ref q_a0_isNone, .int a0_hasSpan, .long a0_spanFrom, .int a0_spanMany, w_a0_least, w_a0_greatest, w_a0_isSquared, .int a0_hasPart, .long a0_parted, .int a0_partMany, w_a0_partPrime, w_a0_partPower, .int a0_rows, w_a0_row, .long a0_foundLeast, .long a0_foundGreatest, .int a0_foundSquare])), (q_a0_isNone, .inl (cZ, 2000001, .inl a0_isNone))] := hD
  refine lv_if_eq (tgt := 37) hx hb dX9_among_9 (by decide) (fun c_2 => ?_) (fun c_2 => ?_)
  · replace h := h.1 c_2
    refine lv_iconst (v := (-1 : Int32)) hx hb dX9_among_37 (by decide) ?_
    have hP9 := hP.sub (ws' := [(h_a0, .inr (8, [.int a0_primes, w_a0_prime, .ref q_a0_isNone, .int a0_hasSpan, .long a0_spanFrom, .int a0_spanMany, w_a0_least, w_a0_greatest, w_a0_isSquared, .int a0_hasPart, .long a0_parted, .int a0_partMany, w_a0_partPrime, w_a0_partPower, .int a0_rows, w_a0_row, .long a0_foundLeast, .long a0_foundGreatest, .int a0_foundSquare])), (q_a0_isNone, .inl (cZ, 2000001, .inl a0_isNone))]) [0, 1] rfl
    have hD9 := hD.sub (ws' := [(h_a0, .inr (8, [.int a0_primes, w_a0_prime, .ref q_a0_isNone, .int a0_hasSpan, .long a0_spanFrom, .int a0_spanMany, w_a0_least, w_a0_greatest, w_a0_isSquared, .int a0_hasPart, .long a0_parted, .int a0_partMany, w_a0_partPrime, w_a0_partPower, .int a0_rows, w_a0_row, .long a0_foundLeast, .long a0_foundGreatest, .int a0_foundSquare])), (q_a0_isNone, .inl (cZ, 2000001, .inl a0_isNone))]) [0, 1] (by decide) rfl
    exact W.iret (v := (-1 : Int32)) hx hb hr (fun t ht hW => ⟨⟨_, (), rfl, h, by rw [ht]; exact hP9, hD9⟩, hS.F ht⟩) hS.2.2 dX9_among_38
  · replace h := h.2 c_2
    refine lv_iload_n hx hb dX9_among_12 rfl (lv_at hl 2 rfl) ?_
    refine lv_i2l hx hb dX9_among_13 rfl ?_
    refine lv_lconst (v := (1 : Int64)) hx hb dX9_among_14 (by decide) ?_
    refine lv_ldc2 hx hb hown hw_1 dX9_among_15 ?_
    have hPc := hP.sub (ws' := []) [] rfl
    have hDc := hD.sub (ws' := []) [] (by decide) rfl
    have hFc := va_free (wc := []) hD hS hA [] rfl
    refine va_calli (va_runS (As := [.long p2.toInt64, .long (1 : Int64), .long (60 : Int64)]) (rest := []) ⟨hx, hb, hml, hown, hts⟩ (c_X9_in l dC dI cI cJ cZ _ (p2.toInt64) (1 : Int64) (60 : Int64) _ h) (va_cwS 3 hts gX9_among_X9_in rfl rfl rfl (by decide +kernel) ⟨Nat.le_of_ble_eq_true rfl, Nat.le_of_ble_eq_true rfl⟩) ⟨pre_fb, pre_of hPc hDc hK hN⟩ rfl rfl hl.1 rfl (lv_room (Nat.le_of_ble_eq_true rfl)) dX9_among_18 ⟨by first | exact Nat.le_of_ble_eq_true rfl | exact Nat.le_refl _, by first | exact Nat.le_of_ble_eq_true rfl | exact Nat.le_refl _⟩) hS (fun q _ h => hFc q h) hFc (fun r_3 u t H1 locs ht hvm h hB hz1 hk1 hS => ?_)
    obtain ⟨hP1, hD1⟩ := hB
    rw [ht] at hP1
    try dsimp only at h
    obtain ⟨hP, hD⟩ := va_join (wr := [(h_a0, .inr (8, [.int a0_primes, w_a0_prime, .ref q_a0_isNone, .int a0_hasSpan, .long a0_spanFrom, .int a0_spanMany, w_a0_least, w_a0_greatest, w_a0_isSquared, .int a0_hasPart, .long a0_parted, .int a0_partMany, w_a0_partPrime, w_a0_partPower, .int a0_rows, w_a0_row, .long a0_foundLeast, .long a0_foundGreatest, .int a0_foundSquare])), (q_a0_isNone, .inl (cZ, 2000001, .inl a0_isNone))]) (w1 := []) hP hD [] [0, 1] rfl rfl (by decide) (by decide) hk1 hFc hP1 hD1
    generalize H1 = H at hP hS ⊢
    have hP : va_P (dC, dI) vwCl [(h_a0, .inr (8, [.int a0_primes, w_a0_prime, .ref q_a0_isNone, .int a0_hasSpan, .long a0_spanFrom, .int a0_spanMany, w_a0_least, w_a0_greatest, w_a0_isSquared, .int a0_hasPart, .long a0_parted, .int a0_partMany, w_a0_partPrime, w_a0_partPower, .int a0_rows, w_a0_row, .long a0_foundLeast, .long a0_foundGreatest, .int a0_foundSquare])), (q_a0_isNone, .inl (cZ, 2000001, .inl a0_isNone))] H := hP
    have hD : va_D A [(h_a0, .inr (8, [.int a0_primes, w_a0_prime, .ref q_a0_isNone, .int a0_hasSpan, .long a0_spanFrom, .int a0_spanMany, w_a0_least, w_a0_greatest, w_a0_isSquared, .int a0_hasPart, .long a0_parted, .int a0_partMany, w_a0_partPrime, w_a0_partPower, .int a0_rows, w_a0_row, .long a0_foundLeast, .long a0_foundGreatest, .int a0_foundSquare])), (q_a0_isNone, .inl (cZ, 2000001, .inl a0_isNone))] := hD
    refine lv_if_eq (tgt := 37) hx hb dX9_among_21 (by decide) (fun c_4 => ?_) (fun c_4 => ?_)
    · replace h := h.1 c_4
      refine lv_iconst (v := (-1 : Int32)) hx hb dX9_among_37 (by decide) ?_
      have hP9 := hP.sub (ws' := [(h_a0, .inr (8, [.int a0_primes, w_a0_prime, .ref q_a0_isNone, .int a0_hasSpan, .long a0_spanFrom, .int a0_spanMany, w_a0_least, w_a0_greatest, w_a0_isSquared, .int a0_hasPart, .long a0_parted, .int a0_partMany, w_a0_partPrime, w_a0_partPower, .int a0_rows, w_a0_row, .long a0_foundLeast, .long a0_foundGreatest, .int a0_foundSquare])), (q_a0_isNone, .inl (cZ, 2000001, .inl a0_isNone))]) [0, 1] rfl
      have hD9 := hD.sub (ws' := [(h_a0, .inr (8, [.int a0_primes, w_a0_prime, .ref q_a0_isNone, .int a0_hasSpan, .long a0_spanFrom, .int a0_spanMany, w_a0_least, w_a0_greatest, w_a0_isSquared, .int a0_hasPart, .long a0_parted, .int a0_partMany, w_a0_partPrime, w_a0_partPower, .int a0_rows, w_a0_row, .long a0_foundLeast, .long a0_foundGreatest, .int a0_foundSquare])), (q_a0_isNone, .inl (cZ, 2000001, .inl a0_isNone))]) [0, 1] (by decide) rfl
      exact W.iret (v := (-1 : Int32)) hx hb hr (fun t ht hW => ⟨⟨_, (), rfl, h, by rw [ht]; exact hP9, hD9⟩, hS.F ht⟩) hS.2.2 dX9_among_38
    · replace h := h.2 c_4
      refine lv_iload_n hx hb dX9_among_24 rfl (lv_at hl 3 rfl) ?_
      refine lv_i2l hx hb dX9_among_25 rfl ?_
      refine lv_lconst (v := (0 : Int64)) hx hb dX9_among_26 (by decide) ?_
      refine lv_iload_n hx hb dX9_among_27 rfl (lv_at hl 2 rfl) ?_
      refine lv_iconst (v := (1 : Int32)) hx hb dX9_among_28 (by decide) ?_
      refine lv_isub hx hb dX9_among_29 ?_
      refine lv_i2l hx hb dX9_among_30 rfl ?_
      have hPc := hP.sub (ws' := []) [] rfl
      have hDc := hD.sub (ws' := []) [] (by decide) rfl
      have hFc := va_free (wc := []) hD hS hA [] rfl
      refine va_calli (va_runS (As := [.long p3.toInt64, .long (0 : Int64), .long (p2 - (1 : Int32)).toInt64]) (rest := []) ⟨hx, hb, hml, hown, hts⟩ (c_X9_in l dC dI cI cJ cZ _ (p3.toInt64) (0 : Int64) ((p2 - (1 : Int32)).toInt64) _ h) (va_cwS 3 hts gX9_among_X9_in rfl rfl rfl (by decide +kernel) ⟨Nat.le_of_ble_eq_true rfl, Nat.le_of_ble_eq_true rfl⟩) ⟨pre_fb, pre_of hPc hDc hK hN⟩ rfl rfl hl.1 rfl (lv_room (Nat.le_of_ble_eq_true rfl)) dX9_among_31 ⟨by first | exact Nat.le_of_ble_eq_true rfl | exact Nat.le_refl _, by first | exact Nat.le_of_ble_eq_true rfl | exact Nat.le_refl _⟩) hS (fun q _ h => hFc q h) hFc (fun r_5 u t H1 locs ht hvm h hB hz1 hk1 hS => ?_)
      obtain ⟨hP1, hD1⟩ := hB
      rw [ht] at hP1
      try dsimp only at h
      obtain ⟨hP, hD⟩ := va_join (wr := [(h_a0, .inr (8, [.int a0_primes, w_a0_prime, .ref q_a0_isNone, .int a0_hasSpan, .long a0_spanFrom, .int a0_spanMany, w_a0_least, w_a0_greatest, w_a0_isSquared, .int a0_hasPart, .long a0_parted, .int a0_partMany, w_a0_partPrime, w_a0_partPower, .int a0_rows, w_a0_row, .long a0_foundLeast, .long a0_foundGreatest, .int a0_foundSquare])), (q_a0_isNone, .inl (cZ, 2000001, .inl a0_isNone))]) (w1 := []) hP hD [] [0, 1] rfl rfl (by decide) (by decide) hk1 hFc hP1 hD1
      generalize H1 = H at hP hS ⊢
      have hP : va_P (dC, dI) vwCl [(h_a0, .inr (8, [.int a0_primes, w_a0_prime, .ref q_a0_isNone, .int a0_hasSpan, .long a0_spanFrom, .int a0_spanMany, w_a0_least, w_a0_greatest, w_a0_isSquared, .int a0_hasPart, .long a0_parted, .int a0_partMany, w_a0_partPrime, w_a0_partPower, .int a0_rows, w_a0_row, .long a0_foundLeast, .long a0_foundGreatest, .int a0_foundSquare])), (q_a0_isNone, .inl (cZ, 2000001, .inl a0_isNone))] H := hP
      have hD : va_D A [(h_a0, .inr (8, [.int a0_primes, w_a0_prime, .ref q_a0_isNone, .int a0_hasSpan, .long a0_spanFrom, .int a0_spanMany, w_a0_least, w_a0_greatest, w_a0_isSquared, .int a0_hasPart, .long a0_parted, .int a0_partMany, w_a0_partPrime, w_a0_partPower, .int a0_rows, w_a0_row, .long a0_foundLeast, .long a0_foundGreatest, .int a0_foundSquare])), (q_a0_isNone, .inl (cZ, 2000001, .inl a0_isNone))] := hD
      refine lv_if_ne (tgt := 39) hx hb dX9_among_34 (by decide) (fun c_6 => ?_) (fun c_6 => ?_)
      · replace h := h.2 c_6
        refine lv_iconst (v := (0 : Int32)) hx hb dX9_among_39 (by decide) ?_
        refine lv_istore (lv' := [(4, .int (0 : Int32)), (0, .ref h_a0), (1, .int p1), (2, .int p2), (3, .int p3)]) hx hb dX9_among_40 hl (by decide) rfl (fun ls hl => ?_)
        refine lv_iconst (v := (2 : Int32)) hx hb dX9_among_42 (by decide) ?_
        refine lv_istore (lv' := [(5, .int (2 : Int32)), (4, .int (0 : Int32)), (0, .ref h_a0), (1, .int p1), (2, .int p2), (3, .int p3)]) hx hb dX9_among_43 hl (by decide) rfl (fun ls hl => ?_)
        obtain ⟨I_45_6, m_45_6, h0_45_6, hs_45_6⟩ := h
        have key_45_6 : ∀ (n : Nat) (l5_45_6 : Int32) (l4_45_6 : Int32), m_45_6 l5_45_6 l4_45_6 < n → I_45_6 l5_45_6 l4_45_6 → ∀ (ls : Array Slot) (H : Heap) (locs : List Loc), lv_has ls 6 [(5, .int l5_45_6), (4, .int l4_45_6), (0, .ref h_a0), (1, .int p1), (2, .int p2), (3, .int p3)] → va_P (dC, dI) vwCl [(h_a0, .inr (8, [.int a0_primes, w_a0_prime, .ref q_a0_isNone, .int a0_hasSpan, .long a0_spanFrom, .int a0_spanMany, w_a0_least, w_a0_greatest, w_a0_isSquared, .int a0_hasPart, .long a0_parted, .int a0_partMany, w_a0_partPrime, w_a0_partPower, .int a0_rows, w_a0_row, .long a0_foundLeast, .long a0_foundGreatest, .int a0_foundSquare])), (q_a0_isNone, .inl (cZ, 2000001, .inl a0_isNone))] H → va_D A [(h_a0, .inr (8, [.int a0_primes, w_a0_prime, .ref q_a0_isNone, .int a0_hasSpan, .long a0_spanFrom, .int a0_spanMany, w_a0_least, w_a0_greatest, w_a0_isSquared, .int a0_hasPart, .long a0_parted, .int a0_partMany, w_a0_partPrime, w_a0_partPower, .int a0_rows, w_a0_row, .long a0_foundLeast, .long a0_foundGreatest, .int a0_foundSquare])), (q_a0_isNone, .inl (cZ, 2000001, .inl a0_isNone))] → va_S A s.heap H locs → W p l e (headSpec wsX9_among rm_X9_among).room s m ([.ref h_a0, .int p1, .int p2, .int p3] : List Value).toArray below meth c H locs 0 0 (MQ below (qc_X9_among dC dI cI cJ cZ h_a0 a0_primes w_a0_prime a0_isNone q_a0_isNone a0_hasSpan a0_spanFrom a0_spanMany w_a0_least w_a0_greatest w_a0_isSquared a0_hasPart a0_parted a0_partMany w_a0_partPrime w_a0_partPower a0_rows w_a0_row a0_foundLeast a0_foundGreatest a0_foundSquare Q A) ([.ref h_a0, .int p1, .int p2, .int p3] : List Value).toArray s 0 0 A) (F0 m 45 ls []) := by
          intro n
          induction n with
          | zero =>
            intro l5_45_6 l4_45_6 hm
            exact absurd hm (Nat.not_lt_zero _)
          | succ n ih_45_6 =>
            intro l5_45_6 l4_45_6 hm_45_6 hI ls H locs hl hP hD hS
            have h := hs_45_6 l5_45_6 l4_45_6 hI
            refine lv_iload hx hb dX9_among_45 (lv_at hl 0 rfl) ?_
            refine lv_iload_n hx hb dX9_among_47 rfl (lv_at hl 3 rfl) ?_
            refine lv_icmp_gt (tgt := 85) hx hb dX9_among_48 (by decide) (fun c_8 => ?_) (fun c_8 => ?_)
            · replace h := h.1 c_8
              refine lv_iload hx hb dX9_among_85 (lv_at hl 1 rfl) ?_
              have hP9 := hP.sub (ws' := [(h_a0, .inr (8, [.int a0_primes, w_a0_prime, .ref q_a0_isNone, .int a0_hasSpan, .long a0_spanFrom, .int a0_spanMany, w_a0_least, w_a0_greatest, w_a0_isSquared, .int a0_hasPart, .long a0_parted, .int a0_partMany, w_a0_partPrime, w_a0_partPower, .int a0_rows, w_a0_row, .long a0_foundLeast, .long a0_foundGreatest, .int a0_foundSquare])), (q_a0_isNone, .inl (cZ, 2000001, .inl a0_isNone))]) [0, 1] rfl
              have hD9 := hD.sub (ws' := [(h_a0, .inr (8, [.int a0_primes, w_a0_prime, .ref q_a0_isNone, .int a0_hasSpan, .long a0_spanFrom, .int a0_spanMany, w_a0_least, w_a0_greatest, w_a0_isSquared, .int a0_hasPart, .long a0_parted, .int a0_partMany, w_a0_partPrime, w_a0_partPower, .int a0_rows, w_a0_row, .long a0_foundLeast, .long a0_foundGreatest, .int a0_foundSquare])), (q_a0_isNone, .inl (cZ, 2000001, .inl a0_isNone))]) [0, 1] (by decide) rfl
              exact W.iret (v := l4_45_6) hx hb hr (fun t ht hW => ⟨⟨_, (), rfl, h, by rw [ht]; exact hP9, hD9⟩, hS.F ht⟩) hS.2.2 dX9_among_87
            · replace h := h.2 c_8
              refine lv_iload hx hb dX9_among_51 (lv_at hl 1 rfl) ?_
              refine lv_aload_n hx hb dX9_among_53 rfl (lv_at hl 2 rfl) ?_
              refine va_get (D := (dC, dI)) (ci := 8) (v := .ref q_a0_isNone) (C := RX9) (T := TX9) (N := 19) hx hb hts hin_X9 hown hK hP 0 rfl rfl 2 (by decide) hw_2 (fun _ h9 => h9) rfl dX9_among_54 ?_
              refine lv_iload hx hb dX9_among_57 (lv_at hl 0 rfl) ?_
              obtain ⟨hin_9, h⟩ := h
              refine va_zald hx hb hK hP 1 2 rfl rfl hin_9 dX9_among_59 ?_
              refine lv_if_ne (tgt := 75) hx hb dX9_among_60 (by decide) (fun c_10 => ?_) (fun c_10 => ?_)
              · replace h := h.2 c_10
                refine lv_iconst (v := (0 : Int32)) hx hb dX9_among_75 (by decide) ?_
                refine lv_iadd hx hb dX9_among_76 ?_
                refine lv_topi (fun x4_11 e_x4_11 => ?_)
                replace h := h x4_11 e_x4_11
                refine lv_istore (lv' := [(4, .int x4_11), (5, .int l5_45_6), (0, .ref h_a0), (1, .int p1), (2, .int p2), (3, .int p3)]) hx hb dX9_among_77 hl (by decide) rfl (fun ls hl => ?_)
                obtain ⟨x5_12, e_x5_12⟩ : ∃ y : Int32, y = l5_45_6 + (1 : Int32) := ⟨_, rfl⟩
                replace h := h x5_12 e_x5_12
                refine lv_iinc (v := x5_12) (lv' := [(5, .int x5_12), (4, .int x4_11), (0, .ref h_a0), (1, .int p1), (2, .int p2), (3, .int p3)]) hx hb dX9_among_79 hl (k := 1) rfl (by rw [e_x5_12]; rfl) (by decide) rfl (fun ls hl => ?_)
                refine lv_goto (tgt := 45) hx hb dX9_among_82 (by decide) ?_
                exact ih_45_6 x5_12 x4_11 (Nat.lt_of_lt_of_le h.2 (Nat.le_of_lt_succ hm_45_6)) h.1 _ _ _ (lv_sub hl [0, 1, 2, 3, 4, 5] rfl) (hP.sub [0, 1] rfl) (hD.sub [0, 1] (by decide) rfl) hS
              · replace h := h.1 c_10
                refine lv_iload hx hb dX9_among_63 (lv_at hl 0 rfl) ?_
                refine lv_iload_n hx hb dX9_among_65 rfl (lv_at hl 4 rfl) ?_
                obtain ⟨hne_13, h⟩ := h
                refine lv_irem hx hb dX9_among_66 hne_13 ?_
                refine lv_iload_n hx hb dX9_among_67 rfl (lv_at hl 5 rfl) ?_
                refine lv_icmp_ne (tgt := 75) hx hb dX9_among_68 (by decide) (fun c_14 => ?_) (fun c_14 => ?_)
                · replace h := h.2 c_14
                  refine lv_iconst (v := (0 : Int32)) hx hb dX9_among_75 (by decide) ?_
                  refine lv_iadd hx hb dX9_among_76 ?_
                  refine lv_topi (fun x4_15 e_x4_15 => ?_)
                  replace h := h x4_15 e_x4_15
                  refine lv_istore (lv' := [(4, .int x4_15), (5, .int l5_45_6), (0, .ref h_a0), (1, .int p1), (2, .int p2), (3, .int p3)]) hx hb dX9_among_77 hl (by decide) rfl (fun ls hl => ?_)
                  obtain ⟨x5_16, e_x5_16⟩ : ∃ y : Int32, y = l5_45_6 + (1 : Int32) := ⟨_, rfl⟩
                  replace h := h x5_16 e_x5_16
                  refine lv_iinc (v := x5_16) (lv' := [(5, .int x5_16), (4, .int x4_15), (0, .ref h_a0), (1, .int p1), (2, .int p2), (3, .int p3)]) hx hb dX9_among_79 hl (k := 1) rfl (by rw [e_x5_16]; rfl) (by decide) rfl (fun ls hl => ?_)
                  refine lv_goto (tgt := 45) hx hb dX9_among_82 (by decide) ?_
                  exact ih_45_6 x5_16 x4_15 (Nat.lt_of_lt_of_le h.2 (Nat.le_of_lt_succ hm_45_6)) h.1 _ _ _ (lv_sub hl [0, 1, 2, 3, 4, 5] rfl) (hP.sub [0, 1] rfl) (hD.sub [0, 1] (by decide) rfl) hS
                · replace h := h.1 c_14
                  refine lv_iconst (v := (1 : Int32)) hx hb dX9_among_71 (by decide) ?_
                  refine lv_goto (tgt := 76) hx hb dX9_among_72 (by decide) ?_
                  refine lv_iadd hx hb dX9_among_76 ?_
                  refine lv_topi (fun x4_17 e_x4_17 => ?_)
                  replace h := h x4_17 e_x4_17
                  refine lv_istore (lv' := [(4, .int x4_17), (5, .int l5_45_6), (0, .ref h_a0), (1, .int p1), (2, .int p2), (3, .int p3)]) hx hb dX9_among_77 hl (by decide) rfl (fun ls hl => ?_)
                  obtain ⟨x5_18, e_x5_18⟩ : ∃ y : Int32, y = l5_45_6 + (1 : Int32) := ⟨_, rfl⟩
                  replace h := h x5_18 e_x5_18
                  refine lv_iinc (v := x5_18) (lv' := [(5, .int x5_18), (4, .int x4_17), (0, .ref h_a0), (1, .int p1), (2, .int p2), (3, .int p3)]) hx hb dX9_among_79 hl (k := 1) rfl (by rw [e_x5_18]; rfl) (by decide) rfl (fun ls hl => ?_)
                  refine lv_goto (tgt := 45) hx hb dX9_among_82 (by decide) ?_
                  exact ih_45_6 x5_18 x4_17 (Nat.lt_of_lt_of_le h.2 (Nat.le_of_lt_succ hm_45_6)) h.1 _ _ _ (lv_sub hl [0, 1, 2, 3, 4, 5] rfl) (hP.sub [0, 1] rfl) (hD.sub [0, 1] (by decide) rfl) hS
        exact key_45_6 _ (2 : Int32) (0 : Int32) (Nat.lt_succ_self _) h0_45_6 _ _ _ (lv_sub hl [0, 1, 2, 3, 4, 5] rfl) (hP.sub [0, 1] rfl) (hD.sub [0, 1] (by decide) rfl) hS
      · replace h := h.1 c_6
        refine lv_iconst (v := (-1 : Int32)) hx hb dX9_among_37 (by decide) ?_
        have hP9 := hP.sub (ws' := [(h_a0, .inr (8, [.int a0_primes, w_a0_prime, .ref q_a0_isNone, .int a0_hasSpan, .long a0_spanFrom, .int a0_spanMany, w_a0_least, w_a0_greatest, w_a0_isSquared, .int a0_hasPart, .long a0_parted, .int a0_partMany, w_a0_partPrime, w_a0_partPower, .int a0_rows, w_a0_row, .long a0_foundLeast, .long a0_foundGreatest, .int a0_foundSquare])), (q_a0_isNone, .inl (cZ, 2000001, .inl a0_isNone))]) [0, 1] rfl
        have hD9 := hD.sub (ws' := [(h_a0, .inr (8, [.int a0_primes, w_a0_prime, .ref q_a0_isNone, .int a0_hasSpan, .long a0_spanFrom, .int a0_spanMany, w_a0_least, w_a0_greatest, w_a0_isSquared, .int a0_hasPart, .long a0_parted, .int a0_partMany, w_a0_partPrime, w_a0_partPower, .int a0_rows, w_a0_row, .long a0_foundLeast, .long a0_foundGreatest, .int a0_foundSquare])), (q_a0_isNone, .inl (cZ, 2000001, .inl a0_isNone))]) [0, 1] (by decide) rfl
        exact W.iret (v := (-1 : Int32)) hx hb hr (fun t ht hW => ⟨⟨_, (), rfl, h, by rw [ht]; exact hP9, hD9⟩, hS.F ht⟩) hS.2.2 dX9_among_38
def wp_X9_pairs  (p0 : Int64) (Q : Int64 → Prop) : Prop :=
  (((p0 - p0 / (2 : Int64) * (2 : Int64)) = (0 : Int64) → Q ((p0 / (2 : Int64)) * (p0 - (1 : Int64)))) ∧ (¬ (p0 - p0 / (2 : Int64) * (2 : Int64)) = (0 : Int64) → Q (((p0 - (1 : Int64)) / (2 : Int64)) * p0)))
abbrev rm_X9_pairs : Room := { frames := 0, cells := 0, slots := 0, locals := 0 }
abbrev qc_X9_pairs (dC : Nat → ClassId) (dI : Nat → Nat → Nat) (cI cJ cZ : ClassId)  (Q : Int64 → Prop) (A : Nat → Prop) : Array Value → State → Outcome → State → Prop := va_Ql (fun (r : Int64) (_ : Unit) => Q r) (post_ dC dI A (fun (_ : Unit) => ([] : va_W))) A
set_option maxHeartbeats 4000000 in
set_option maxRecDepth 100000 in
theorem c_X9_pairs (l : Launch) (dC : Nat → ClassId) (dI : Nat → Nat → Nat) (cI cJ cZ : ClassId) (sz : Nat)  (p0 : Int64) (Q : Int64 → Prop) (hQ : wp_X9_pairs p0 Q) : Met l yX9_pairs wsX9_pairs rm_X9_pairs (pre_ dC dI cI cJ cZ [.long p0] ([] : va_W) sz) (qc_X9_pairs dC dI cI cJ cZ Q (va_A ([] : va_W) sz)) 0 0 (va_A ([] : va_W) sz) := by
  refine Met.ofW (cc := cX9_pairs) (maxL := 2) (ret := (some .long)) (by decide) rfl ?_
  intro p e s m args below meth c s₁ B hml hv
  obtain ⟨rfl, hsz, hP, hK, hN, hD0⟩ := hv
  have hx := B.exec
  have hb := B.bytes
  have hr := B.returns
  have hts := atoms_spec (ws := wsX9_pairs) B.pre
  have hown : s.vm.findClass RX9 = some m.cls := findClass_of_methodNamed B.named
  subst hsz
  have hD := hD0.self (sz := s.heap.size)
  generalize hAe : va_A ([] : va_W) s.heap.size = A at hD ⊢
  have hA : ∀ q : Nat, s.heap.size ≤ q → A q := fun q h => by rw [← hAe]; exact Or.inr h
  have hS : va_S A s.heap s.heap [] := va_S.rf
  have hl := lv_entry ([.long p0]) (n := 2) (Nat.le_of_ble_eq_true rfl)
  rw [lg_entry_eq]
  generalize (lg_sl ([.long p0]) ++ List.replicate (2 - (lg_sl ([.long p0])).length) Slot.unset).toArray = ls at hl ⊢
  have hl : lv_has ls 2 [(0, .long p0)] := hl
  have h := hQ
  unfold wp_X9_pairs at h
  have hw_0 := hts (.constantLong RX9 57 (2)) (by decide +kernel)
  refine lv_lload_n hx hb dX9_pairs_0 rfl (lv_at hl 0 rfl) ?_
  refine lv_ldc2 hx hb hown hw_0 dX9_pairs_1 ?_
  refine lv_lrem hx hb dX9_pairs_4 (by decide) ?_
  refine lv_lconst (v := (0 : Int64)) hx hb dX9_pairs_5 (by decide) ?_
  refine W.lcmp hx hb dX9_pairs_6 ?_
  refine lv_if_ne (tgt := 22) hx hb dX9_pairs_7 (by decide) (fun c_1 => ?_) (fun c_1 => ?_)
  · replace c_1 := lc_neq c_1
    replace h := h.2 c_1
    refine lv_lload_n hx hb dX9_pairs_22 rfl (lv_at hl 0 rfl) ?_
    refine lv_lconst (v := (1 : Int64)) hx hb dX9_pairs_23 (by decide) ?_
    refine lv_lsub hx hb dX9_pairs_24 ?_
    refine lv_ldc2 hx hb hown hw_0 dX9_pairs_25 ?_
    refine lv_ldiv hx hb dX9_pairs_28 (by decide) ?_
    refine lv_lload_n hx hb dX9_pairs_29 rfl (lv_at hl 0 rfl) ?_
    refine lv_lmul hx hb dX9_pairs_30 ?_
    have hP9 := hP.sub (ws' := []) [] rfl
    have hD9 := hD.sub (ws' := []) [] (by decide) rfl
    exact W.lret (v := (((p0 - (1 : Int64)) / (2 : Int64)) * p0)) hx hb hr (fun t ht hW => ⟨⟨_, (), rfl, h, by rw [ht]; exact hP9, hD9⟩, hS.F ht⟩) hS.2.2 dX9_pairs_31
  · replace c_1 := (lg_cmp_eq _ _).mp c_1
    replace h := h.1 c_1
    refine lv_lload_n hx hb dX9_pairs_10 rfl (lv_at hl 0 rfl) ?_
    refine lv_ldc2 hx hb hown hw_0 dX9_pairs_11 ?_
    refine lv_ldiv hx hb dX9_pairs_14 (by decide) ?_
    refine lv_lload_n hx hb dX9_pairs_15 rfl (lv_at hl 0 rfl) ?_
    refine lv_lconst (v := (1 : Int64)) hx hb dX9_pairs_16 (by decide) ?_
    refine lv_lsub hx hb dX9_pairs_17 ?_
    refine lv_lmul hx hb dX9_pairs_18 ?_
    refine lv_goto (tgt := 31) hx hb dX9_pairs_19 (by decide) ?_
    have hP9 := hP.sub (ws' := []) [] rfl
    have hD9 := hD.sub (ws' := []) [] (by decide) rfl
    exact W.lret (v := ((p0 / (2 : Int64)) * (p0 - (1 : Int64)))) hx hb hr (fun t ht hW => ⟨⟨_, (), rfl, h, by rw [ht]; exact hP9, hD9⟩, hS.F ht⟩) hS.2.2 dX9_pairs_31
def wp_X9_floors  (p1 : Int32) (p2 : Int32) (p3 : Int32) (p4 : Int32) (Q : Int64 → Prop) : Prop :=
  wp_X9_in (p1.toInt64) (0 : Int64) (1000000000 : Int64) (fun r_1 => ((r_1 = (0 : Int32) → Q (-1 : Int64)) ∧ (¬ r_1 = (0 : Int32) → wp_X9_in (p2.toInt64) (0 : Int64) (1000000 : Int64) (fun r_3 => ((r_3 = (0 : Int32) → Q (-1 : Int64)) ∧ (¬ r_3 = (0 : Int32) → wp_X9_in (p3.toInt64) (0 : Int64) (1000000 : Int64) (fun r_5 => ((r_5 = (0 : Int32) → Q (-1 : Int64)) ∧ (¬ r_5 = (0 : Int32) → wp_X9_in (p4.toInt64) (1 : Int64) (1000000 : Int64) (fun r_7 => ((r_7 = (0 : Int32) → Q (-1 : Int64)) ∧ (¬ r_7 = (0 : Int32) → (∀ x5_9 : Int64, x5_9 = p1.toInt64 → (∀ x7_10 : Int64, x7_10 = p2.toInt64 → (∀ x9_11 : Int64, x9_11 = p3.toInt64 → (∀ x11_12 : Int64, x11_12 = p4.toInt64 → (∃ (I_76_12 : Int32 → Int64 → Int64 → Int64 → Int64 → Int64 → Prop) (m_76_12 : Int32 → Int64 → Int64 → Int64 → Int64 → Int64 → Nat), I_76_12 (1 : Int32) (0 : Int64) x11_12 x9_11 x7_10 x5_9 ∧ ∀ (l15_76_12 : Int32) (l13_76_12 : Int64) (l11_76_12 : Int64) (l9_76_12 : Int64) (l7_76_12 : Int64) (l5_76_12 : Int64), I_76_12 l15_76_12 l13_76_12 l11_76_12 l9_76_12 l7_76_12 l5_76_12 → ((l15_76_12 = (0 : Int32) → Q l13_76_12) ∧ (¬ l15_76_12 = (0 : Int32) → wp_X9_pairs l5_76_12 (fun r_15 => (¬ l11_76_12 = 0 ∧ (¬ l11_76_12 = 0 ∧ (∀ x13_18 : Int64, x13_18 = (l13_76_12 + ((r_15 * (l7_76_12 / l11_76_12)) + (l5_76_12 * (l9_76_12 / l11_76_12)))) → (¬ l11_76_12 = 0 ∧ (∀ x7_20 : Int64, x7_20 = (l7_76_12 - l7_76_12 / l11_76_12 * l11_76_12) → (¬ l11_76_12 = 0 ∧ (∀ x9_22 : Int64, x9_22 = (l9_76_12 - l9_76_12 / l11_76_12 * l11_76_12) → (∀ x16_23 : Int64, x16_23 = ((x7_20 * l5_76_12) + x9_22) → ((x16_23 < l11_76_12 → (((0 : Int32) = (0 : Int32) → (I_76_12 (0 : Int32) x13_18 l11_76_12 x9_22 x7_20 l5_76_12 ∧ m_76_12 (0 : Int32) x13_18 l11_76_12 x9_22 x7_20 l5_76_12 < m_76_12 l15_76_12 l13_76_12 l11_76_12 l9_76_12 l7_76_12 l5_76_12)) ∧ (¬ (0 : Int32) = (0 : Int32) → (¬ l11_76_12 = 0 ∧ (∀ x5_27 : Int64, x5_27 = (x16_23 / l11_76_12) → (¬ l11_76_12 = 0 ∧ (∀ x9_29 : Int64, x9_29 = (x16_23 - x16_23 / l11_76_12 * l11_76_12) → (I_76_12 (0 : Int32) x13_18 x7_20 x9_29 l11_76_12 x5_27 ∧ m_76_12 (0 : Int32) x13_18 x7_20 x9_29 l11_76_12 x5_27 < m_76_12 l15_76_12 l13_76_12 l11_76_12 l9_76_12 l7_76_12 l5_76_12)))))))) ∧ (¬ x16_23 < l11_76_12 → (((1 : Int32) = (0 : Int32) → (I_76_12 (1 : Int32) x13_18 l11_76_12 x9_22 x7_20 l5_76_12 ∧ m_76_12 (1 : Int32) x13_18 l11_76_12 x9_22 x7_20 l5_76_12 < m_76_12 l15_76_12 l13_76_12 l11_76_12 l9_76_12 l7_76_12 l5_76_12)) ∧ (¬ (1 : Int32) = (0 : Int32) → (¬ l11_76_12 = 0 ∧ (∀ x5_32 : Int64, x5_32 = (x16_23 / l11_76_12) → (¬ l11_76_12 = 0 ∧ (∀ x9_34 : Int64, x9_34 = (x16_23 - x16_23 / l11_76_12 * l11_76_12) → (I_76_12 (1 : Int32) x13_18 x7_20 x9_34 l11_76_12 x5_32 ∧ m_76_12 (1 : Int32) x13_18 x7_20 x9_34 l11_76_12 x5_32 < m_76_12 l15_76_12 l13_76_12 l11_76_12 l9_76_12 l7_76_12 l5_76_12)))))))))))))))))))))))))))))))))))))
abbrev rm_X9_floors : Room := { frames := 1, cells := 0, slots := 0, locals := 25 }
abbrev qc_X9_floors (dC : Nat → ClassId) (dI : Nat → Nat → Nat) (cI cJ cZ : ClassId) (h_a0 : Nat) (a0_primes : Int32) (w_a0_prime : Value) (w_a0_isNone : Value) (a0_hasSpan : Int32) (a0_spanFrom : Int64) (a0_spanMany : Int32) (w_a0_least : Value) (w_a0_greatest : Value) (w_a0_isSquared : Value) (a0_hasPart : Int32) (a0_parted : Int64) (a0_partMany : Int32) (w_a0_partPrime : Value) (w_a0_partPower : Value) (a0_rows : Int32) (w_a0_row : Value) (a0_foundLeast : Int64) (a0_foundGreatest : Int64) (a0_foundSquare : Int32) (Q : Int64 → Prop) (A : Nat → Prop) : Array Value → State → Outcome → State → Prop := va_Ql (fun (r : Int64) (_ : Unit) => Q r) (post_ dC dI A (fun (u : Unit) => [(h_a0, .inr (8, [.int a0_primes, w_a0_prime, w_a0_isNone, .int a0_hasSpan, .long a0_spanFrom, .int a0_spanMany, w_a0_least, w_a0_greatest, w_a0_isSquared, .int a0_hasPart, .long a0_parted, .int a0_partMany, w_a0_partPrime, w_a0_partPower, .int a0_rows, w_a0_row, .long a0_foundLeast, .long a0_foundGreatest, .int a0_foundSquare]))])) A
set_option maxHeartbeats 4000000 in
set_option maxRecDepth 100000 in
theorem c_X9_floors (l : Launch) (dC : Nat → ClassId) (dI : Nat → Nat → Nat) (cI cJ cZ : ClassId) (sz : Nat) (h_a0 : Nat) (a0_primes : Int32) (w_a0_prime : Value) (w_a0_isNone : Value) (a0_hasSpan : Int32) (a0_spanFrom : Int64) (a0_spanMany : Int32) (w_a0_least : Value) (w_a0_greatest : Value) (w_a0_isSquared : Value) (a0_hasPart : Int32) (a0_parted : Int64) (a0_partMany : Int32) (w_a0_partPrime : Value) (w_a0_partPower : Value) (a0_rows : Int32) (w_a0_row : Value) (a0_foundLeast : Int64) (a0_foundGreatest : Int64) (a0_foundSquare : Int32) (p1 : Int32) (p2 : Int32) (p3 : Int32) (p4 : Int32) (Q : Int64 → Prop) (hQ : wp_X9_floors p1 p2 p3 p4 Q) : Met l yX9_floors wsX9_floors rm_X9_floors (pre_ dC dI cI cJ cZ [.ref h_a0, .int p1, .int p2, .int p3, .int p4] [(h_a0, .inr (8, [.int a0_primes, w_a0_prime, w_a0_isNone, .int a0_hasSpan, .long a0_spanFrom, .int a0_spanMany, w_a0_least, w_a0_greatest, w_a0_isSquared, .int a0_hasPart, .long a0_parted, .int a0_partMany, w_a0_partPrime, w_a0_partPower, .int a0_rows, w_a0_row, .long a0_foundLeast, .long a0_foundGreatest, .int a0_foundSquare]))] sz) (qc_X9_floors dC dI cI cJ cZ h_a0 a0_primes w_a0_prime w_a0_isNone a0_hasSpan a0_spanFrom a0_spanMany w_a0_least w_a0_greatest w_a0_isSquared a0_hasPart a0_parted a0_partMany w_a0_partPrime w_a0_partPower a0_rows w_a0_row a0_foundLeast a0_foundGreatest a0_foundSquare Q (va_A [(h_a0, .inr (8, [.int a0_primes, w_a0_prime, w_a0_isNone, .int a0_hasSpan, .long a0_spanFrom, .int a0_spanMany, w_a0_least, w_a0_greatest, w_a0_isSquared, .int a0_hasPart, .long a0_parted, .int a0_partMany, w_a0_partPrime, w_a0_partPower, .int a0_rows, w_a0_row, .long a0_foundLeast, .long a0_foundGreatest, .int a0_foundSquare]))] sz)) 0 0 (va_A [(h_a0, .inr (8, [.int a0_primes, w_a0_prime, w_a0_isNone, .int a0_hasSpan, .long a0_spanFrom, .int a0_spanMany, w_a0_least, w_a0_greatest, w_a0_isSquared, .int a0_hasPart, .long a0_parted, .int a0_partMany, w_a0_partPrime, w_a0_partPower, .int a0_rows, w_a0_row, .long a0_foundLeast, .long a0_foundGreatest, .int a0_foundSquare]))] sz) := by
  refine Met.ofW (cc := cX9_floors) (maxL := 20) (ret := (some .long)) (by decide) rfl ?_
  intro p e s m args below meth c s₁ B hml hv
  obtain ⟨rfl, hsz, hP, hK, hN, hD0⟩ := hv
  have hx := B.exec
  have hb := B.bytes
  have hr := B.returns
  have hts := atoms_spec (ws := wsX9_floors) B.pre
  have hown : s.vm.findClass RX9 = some m.cls := findClass_of_methodNamed B.named
  subst hsz
  have hD := hD0.self (sz := s.heap.size)
  generalize hAe : va_A [(h_a0, .inr (8, [.int a0_primes, w_a0_prime, w_a0_isNone, .int a0_hasSpan, .long a0_spanFrom, .int a0_spanMany, w_a0_least, w_a0_greatest, w_a0_isSquared, .int a0_hasPart, .long a0_parted, .int a0_partMany, w_a0_partPrime, w_a0_partPower, .int a0_rows, w_a0_row, .long a0_foundLeast, .long a0_foundGreatest, .int a0_foundSquare]))] s.heap.size = A at hD ⊢
  have hA : ∀ q : Nat, s.heap.size ≤ q → A q := fun q h => by rw [← hAe]; exact Or.inr h
  have hS : va_S A s.heap s.heap [] := va_S.rf
  have hl := lv_entry ([.ref h_a0, .int p1, .int p2, .int p3, .int p4]) (n := 20) (Nat.le_of_ble_eq_true rfl)
  rw [lg_entry_eq]
  generalize (lg_sl ([.ref h_a0, .int p1, .int p2, .int p3, .int p4]) ++ List.replicate (20 - (lg_sl ([.ref h_a0, .int p1, .int p2, .int p3, .int p4])).length) Slot.unset).toArray = ls at hl ⊢
  have hl : lv_has ls 20 [(0, .ref h_a0), (1, .int p1), (2, .int p2), (3, .int p3), (4, .int p4)] := hl
  have h := hQ
  unfold wp_X9_floors at h
  have hw_0 := hts (.constantLong RX9 104 (1000000000)) (by decide +kernel)
  have hw_1 := hts (.constantLong RX9 92 (-1)) (by decide +kernel)
  have hw_2 := hts (.constantLong RX9 106 (1000000)) (by decide +kernel)
  refine lv_iload_n hx hb dX9_floors_0 rfl (lv_at hl 1 rfl) ?_
  refine lv_i2l hx hb dX9_floors_1 rfl ?_
  refine lv_lconst (v := (0 : Int64)) hx hb dX9_floors_2 (by decide) ?_
  refine lv_ldc2 hx hb hown hw_0 dX9_floors_3 ?_
  have hPc := hP.sub (ws' := []) [] rfl
  have hDc := hD.sub (ws' := []) [] (by decide) rfl
  have hFc := va_free (wc := []) hD hS hA [] rfl
  refine va_calli (va_runS (As := [.long p1.toInt64, .long (0 : Int64), .long (1000000000 : Int64)]) (rest := []) ⟨hx, hb, hml, hown, hts⟩ (c_X9_in l dC dI cI cJ cZ _ (p1.toInt64) (0 : Int64) (1000000000 : Int64) _ h) (va_cwS 3 hts gX9_floors_X9_in rfl rfl rfl (by decide +kernel) ⟨Nat.le_of_ble_eq_true rfl, Nat.le_of_ble_eq_true rfl⟩) ⟨pre_fb, pre_of hPc hDc hK hN⟩ rfl rfl hl.1 rfl (lv_room (Nat.le_of_ble_eq_true rfl)) dX9_floors_6 ⟨by first | exact Nat.le_of_ble_eq_true rfl | exact Nat.le_refl _, by first | exact Nat.le_of_ble_eq_true rfl | exact Nat.le_refl _⟩) hS (fun q _ h => hFc q h) hFc (fun r_1 u t H1 locs ht hvm h hB hz1 hk1 hS => ?_)
  obtain ⟨hP1, hD1⟩ := hB
  rw [ht] at hP1
  try dsimp only at h
  obtain ⟨hP, hD⟩ := va_join (wr := [(h_a0, .inr (8, [.int a0_primes, w_a0_prime, w_a0_isNone, .int a0_hasSpan, .long a0_spanFrom, .int a0_spanMany, w_a0_least, w_a0_greatest, w_a0_isSquared, .int a0_hasPart, .long a0_parted, .int a0_partMany, w_a0_partPrime, w_a0_partPower, .int a0_rows, w_a0_row, .long a0_foundLeast, .long a0_foundGreatest, .int a0_foundSquare]))]) (w1 := []) hP hD [] [0] rfl rfl (by decide) (by decide) hk1 hFc hP1 hD1
  generalize H1 = H at hP hS ⊢
  have hP : va_P (dC, dI) vwCl [(h_a0, .inr (8, [.int a0_primes, w_a0_prime, w_a0_isNone, .int a0_hasSpan, .long a0_spanFrom, .int a0_spanMany, w_a0_least, w_a0_greatest, w_a0_isSquared, .int a0_hasPart, .long a0_parted, .int a0_partMany, w_a0_partPrime, w_a0_partPower, .int a0_rows, w_a0_row, .long a0_foundLeast, .long a0_foundGreatest, .int a0_foundSquare]))] H := hP
  have hD : va_D A [(h_a0, .inr (8, [.int a0_primes, w_a0_prime, w_a0_isNone, .int a0_hasSpan, .long a0_spanFrom, .int a0_spanMany, w_a0_least, w_a0_greatest, w_a0_isSquared, .int a0_hasPart, .long a0_parted, .int a0_partMany, w_a0_partPrime, w_a0_partPower, .int a0_rows, w_a0_row, .long a0_foundLeast, .long a0_foundGreatest, .int a0_foundSquare]))] := hD
  refine lv_if_eq (tgt := 49) hx hb dX9_floors_9 (by decide) (fun c_2 => ?_) (fun c_2 => ?_)
  · replace h := h.1 c_2
    refine lv_ldc2 hx hb hown hw_1 dX9_floors_49 ?_
    have hP9 := hP.sub (ws' := [(h_a0, .inr (8, [.int a0_primes, w_a0_prime, w_a0_isNone, .int a0_hasSpan, .long a0_spanFrom, .int a0_spanMany, w_a0_least, w_a0_greatest, w_a0_isSquared, .int a0_hasPart, .long a0_parted, .int a0_partMany, w_a0_partPrime, w_a0_partPower, .int a0_rows, w_a0_row, .long a0_foundLeast, .long a0_foundGreatest, .int a0_foundSquare]))]) [0] rfl
    have hD9 := hD.sub (ws' := [(h_a0, .inr (8, [.int a0_primes, w_a0_prime, w_a0_isNone, .int a0_hasSpan, .long a0_spanFrom, .int a0_spanMany, w_a0_least, w_a0_greatest, w_a0_isSquared, .int a0_hasPart, .long a0_parted, .int a0_partMany, w_a0_partPrime, w_a0_partPower, .int a0_rows, w_a0_row, .long a0_foundLeast, .long a0_foundGreatest, .int a0_foundSquare]))]) [0] (by decide) rfl
    exact W.lret (v := (-1 : Int64)) hx hb hr (fun t ht hW => ⟨⟨_, (), rfl, h, by rw [ht]; exact hP9, hD9⟩, hS.F ht⟩) hS.2.2 dX9_floors_52
  · replace h := h.2 c_2
    refine lv_iload_n hx hb dX9_floors_12 rfl (lv_at hl 2 rfl) ?_
    refine lv_i2l hx hb dX9_floors_13 rfl ?_
    refine lv_lconst (v := (0 : Int64)) hx hb dX9_floors_14 (by decide) ?_
    refine lv_ldc2 hx hb hown hw_2 dX9_floors_15 ?_
    have hPc := hP.sub (ws' := []) [] rfl
    have hDc := hD.sub (ws' := []) [] (by decide) rfl
    have hFc := va_free (wc := []) hD hS hA [] rfl
    refine va_calli (va_runS (As := [.long p2.toInt64, .long (0 : Int64), .long (1000000 : Int64)]) (rest := []) ⟨hx, hb, hml, hown, hts⟩ (c_X9_in l dC dI cI cJ cZ _ (p2.toInt64) (0 : Int64) (1000000 : Int64) _ h) (va_cwS 3 hts gX9_floors_X9_in rfl rfl rfl (by decide +kernel) ⟨Nat.le_of_ble_eq_true rfl, Nat.le_of_ble_eq_true rfl⟩) ⟨pre_fb, pre_of hPc hDc hK hN⟩ rfl rfl hl.1 rfl (lv_room (Nat.le_of_ble_eq_true rfl)) dX9_floors_18 ⟨by first | exact Nat.le_of_ble_eq_true rfl | exact Nat.le_refl _, by first | exact Nat.le_of_ble_eq_true rfl | exact Nat.le_refl _⟩) hS (fun q _ h => hFc q h) hFc (fun r_3 u t H1 locs ht hvm h hB hz1 hk1 hS => ?_)
    obtain ⟨hP1, hD1⟩ := hB
    rw [ht] at hP1
    try dsimp only at h
    obtain ⟨hP, hD⟩ := va_join (wr := [(h_a0, .inr (8, [.int a0_primes, w_a0_prime, w_a0_isNone, .int a0_hasSpan, .long a0_spanFrom, .int a0_spanMany, w_a0_least, w_a0_greatest, w_a0_isSquared, .int a0_hasPart, .long a0_parted, .int a0_partMany, w_a0_partPrime, w_a0_partPower, .int a0_rows, w_a0_row, .long a0_foundLeast, .long a0_foundGreatest, .int a0_foundSquare]))]) (w1 := []) hP hD [] [0] rfl rfl (by decide) (by decide) hk1 hFc hP1 hD1
    generalize H1 = H at hP hS ⊢
    have hP : va_P (dC, dI) vwCl [(h_a0, .inr (8, [.int a0_primes, w_a0_prime, w_a0_isNone, .int a0_hasSpan, .long a0_spanFrom, .int a0_spanMany, w_a0_least, w_a0_greatest, w_a0_isSquared, .int a0_hasPart, .long a0_parted, .int a0_partMany, w_a0_partPrime, w_a0_partPower, .int a0_rows, w_a0_row, .long a0_foundLeast, .long a0_foundGreatest, .int a0_foundSquare]))] H := hP
    have hD : va_D A [(h_a0, .inr (8, [.int a0_primes, w_a0_prime, w_a0_isNone, .int a0_hasSpan, .long a0_spanFrom, .int a0_spanMany, w_a0_least, w_a0_greatest, w_a0_isSquared, .int a0_hasPart, .long a0_parted, .int a0_partMany, w_a0_partPrime, w_a0_partPower, .int a0_rows, w_a0_row, .long a0_foundLeast, .long a0_foundGreatest, .int a0_foundSquare]))] := hD
    refine lv_if_eq (tgt := 49) hx hb dX9_floors_21 (by decide) (fun c_4 => ?_) (fun c_4 => ?_)
    · replace h := h.1 c_4
      refine lv_ldc2 hx hb hown hw_1 dX9_floors_49 ?_
      have hP9 := hP.sub (ws' := [(h_a0, .inr (8, [.int a0_primes, w_a0_prime, w_a0_isNone, .int a0_hasSpan, .long a0_spanFrom, .int a0_spanMany, w_a0_least, w_a0_greatest, w_a0_isSquared, .int a0_hasPart, .long a0_parted, .int a0_partMany, w_a0_partPrime, w_a0_partPower, .int a0_rows, w_a0_row, .long a0_foundLeast, .long a0_foundGreatest, .int a0_foundSquare]))]) [0] rfl
      have hD9 := hD.sub (ws' := [(h_a0, .inr (8, [.int a0_primes, w_a0_prime, w_a0_isNone, .int a0_hasSpan, .long a0_spanFrom, .int a0_spanMany, w_a0_least, w_a0_greatest, w_a0_isSquared, .int a0_hasPart, .long a0_parted, .int a0_partMany, w_a0_partPrime, w_a0_partPower, .int a0_rows, w_a0_row, .long a0_foundLeast, .long a0_foundGreatest, .int a0_foundSquare]))]) [0] (by decide) rfl
      exact W.lret (v := (-1 : Int64)) hx hb hr (fun t ht hW => ⟨⟨_, (), rfl, h, by rw [ht]; exact hP9, hD9⟩, hS.F ht⟩) hS.2.2 dX9_floors_52
    · replace h := h.2 c_4
      refine lv_iload_n hx hb dX9_floors_24 rfl (lv_at hl 3 rfl) ?_
      refine lv_i2l hx hb dX9_floors_25 rfl ?_
      refine lv_lconst (v := (0 : Int64)) hx hb dX9_floors_26 (by decide) ?_
      refine lv_ldc2 hx hb hown hw_2 dX9_floors_27 ?_
      have hPc := hP.sub (ws' := []) [] rfl
      have hDc := hD.sub (ws' := []) [] (by decide) rfl
      have hFc := va_free (wc := []) hD hS hA [] rfl
      refine va_calli (va_runS (As := [.long p3.toInt64, .long (0 : Int64), .long (1000000 : Int64)]) (rest := []) ⟨hx, hb, hml, hown, hts⟩ (c_X9_in l dC dI cI cJ cZ _ (p3.toInt64) (0 : Int64) (1000000 : Int64) _ h) (va_cwS 3 hts gX9_floors_X9_in rfl rfl rfl (by decide +kernel) ⟨Nat.le_of_ble_eq_true rfl, Nat.le_of_ble_eq_true rfl⟩) ⟨pre_fb, pre_of hPc hDc hK hN⟩ rfl rfl hl.1 rfl (lv_room (Nat.le_of_ble_eq_true rfl)) dX9_floors_30 ⟨by first | exact Nat.le_of_ble_eq_true rfl | exact Nat.le_refl _, by first | exact Nat.le_of_ble_eq_true rfl | exact Nat.le_refl _⟩) hS (fun q _ h => hFc q h) hFc (fun r_5 u t H1 locs ht hvm h hB hz1 hk1 hS => ?_)
      obtain ⟨hP1, hD1⟩ := hB
      rw [ht] at hP1
      try dsimp only at h
      obtain ⟨hP, hD⟩ := va_join (wr := [(h_a0, .inr (8, [.int a0_primes, w_a0_prime, w_a0_isNone, .int a0_hasSpan, .long a0_spanFrom, .int a0_spanMany, w_a0_least, w_a0_greatest, w_a0_isSquared, .int a0_hasPart, .long a0_parted, .int a0_partMany, w_a0_partPrime, w_a0_partPower, .int a0_rows, w_a0_row, .long a0_foundLeast, .long a0_foundGreatest, .int a0_foundSquare]))]) (w1 := []) hP hD [] [0] rfl rfl (by decide) (by decide) hk1 hFc hP1 hD1
      generalize H1 = H at hP hS ⊢
      have hP : va_P (dC, dI) vwCl [(h_a0, .inr (8, [.int a0_primes, w_a0_prime, w_a0_isNone, .int a0_hasSpan, .long a0_spanFrom, .int a0_spanMany, w_a0_least, w_a0_greatest, w_a0_isSquared, .int a0_hasPart, .long a0_parted, .int a0_partMany, w_a0_partPrime, w_a0_partPower, .int a0_rows, w_a0_row, .long a0_foundLeast, .long a0_foundGreatest, .int a0_foundSquare]))] H := hP
      have hD : va_D A [(h_a0, .inr (8, [.int a0_primes, w_a0_prime, w_a0_isNone, .int a0_hasSpan, .long a0_spanFrom, .int a0_spanMany, w_a0_least, w_a0_greatest, w_a0_isSquared, .int a0_hasPart, .long a0_parted, .int a0_partMany, w_a0_partPrime, w_a0_partPower, .int a0_rows, w_a0_row, .long a0_foundLeast, .long a0_foundGreatest, .int a0_foundSquare]))] := hD
      refine lv_if_eq (tgt := 49) hx hb dX9_floors_33 (by decide) (fun c_6 => ?_) (fun c_6 => ?_)
      · replace h := h.1 c_6
        refine lv_ldc2 hx hb hown hw_1 dX9_floors_49 ?_
        have hP9 := hP.sub (ws' := [(h_a0, .inr (8, [.int a0_primes, w_a0_prime, w_a0_isNone, .int a0_hasSpan, .long a0_spanFrom, .int a0_spanMany, w_a0_least, w_a0_greatest, w_a0_isSquared, .int a0_hasPart, .long a0_parted, .int a0_partMany, w_a0_partPrime, w_a0_partPower, .int a0_rows, w_a0_row, .long a0_foundLeast, .long a0_foundGreatest, .int a0_foundSquare]))]) [0] rfl
        have hD9 := hD.sub (ws' := [(h_a0, .inr (8, [.int a0_primes, w_a0_prime, w_a0_isNone, .int a0_hasSpan, .long a0_spanFrom, .int a0_spanMany, w_a0_least, w_a0_greatest, w_a0_isSquared, .int a0_hasPart, .long a0_parted, .int a0_partMany, w_a0_partPrime, w_a0_partPower, .int a0_rows, w_a0_row, .long a0_foundLeast, .long a0_foundGreatest, .int a0_foundSquare]))]) [0] (by decide) rfl
        exact W.lret (v := (-1 : Int64)) hx hb hr (fun t ht hW => ⟨⟨_, (), rfl, h, by rw [ht]; exact hP9, hD9⟩, hS.F ht⟩) hS.2.2 dX9_floors_52
      · replace h := h.2 c_6
        refine lv_iload hx hb dX9_floors_36 (lv_at hl 4 rfl) ?_
        refine lv_i2l hx hb dX9_floors_38 rfl ?_
        refine lv_lconst (v := (1 : Int64)) hx hb dX9_floors_39 (by decide) ?_
        refine lv_ldc2 hx hb hown hw_2 dX9_floors_40 ?_
        have hPc := hP.sub (ws' := []) [] rfl
        have hDc := hD.sub (ws' := []) [] (by decide) rfl
        have hFc := va_free (wc := []) hD hS hA [] rfl
        refine va_calli (va_runS (As := [.long p4.toInt64, .long (1 : Int64), .long (1000000 : Int64)]) (rest := []) ⟨hx, hb, hml, hown, hts⟩ (c_X9_in l dC dI cI cJ cZ _ (p4.toInt64) (1 : Int64) (1000000 : Int64) _ h) (va_cwS 3 hts gX9_floors_X9_in rfl rfl rfl (by decide +kernel) ⟨Nat.le_of_ble_eq_true rfl, Nat.le_of_ble_eq_true rfl⟩) ⟨pre_fb, pre_of hPc hDc hK hN⟩ rfl rfl hl.1 rfl (lv_room (Nat.le_of_ble_eq_true rfl)) dX9_floors_43 ⟨by first | exact Nat.le_of_ble_eq_true rfl | exact Nat.le_refl _, by first | exact Nat.le_of_ble_eq_true rfl | exact Nat.le_refl _⟩) hS (fun q _ h => hFc q h) hFc (fun r_7 u t H1 locs ht hvm h hB hz1 hk1 hS => ?_)
        obtain ⟨hP1, hD1⟩ := hB
        rw [ht] at hP1
        try dsimp only at h
        obtain ⟨hP, hD⟩ := va_join (wr := [(h_a0, .inr (8, [.int a0_primes, w_a0_prime, w_a0_isNone, .int a0_hasSpan, .long a0_spanFrom, .int a0_spanMany, w_a0_least, w_a0_greatest, w_a0_isSquared, .int a0_hasPart, .long a0_parted, .int a0_partMany, w_a0_partPrime, w_a0_partPower, .int a0_rows, w_a0_row, .long a0_foundLeast, .long a0_foundGreatest, .int a0_foundSquare]))]) (w1 := []) hP hD [] [0] rfl rfl (by decide) (by decide) hk1 hFc hP1 hD1
        generalize H1 = H at hP hS ⊢
        have hP : va_P (dC, dI) vwCl [(h_a0, .inr (8, [.int a0_primes, w_a0_prime, w_a0_isNone, .int a0_hasSpan, .long a0_spanFrom, .int a0_spanMany, w_a0_least, w_a0_greatest, w_a0_isSquared, .int a0_hasPart, .long a0_parted, .int a0_partMany, w_a0_partPrime, w_a0_partPower, .int a0_rows, w_a0_row, .long a0_foundLeast, .long a0_foundGreatest, .int a0_foundSquare]))] H := hP
        have hD : va_D A [(h_a0, .inr (8, [.int a0_primes, w_a0_prime, w_a0_isNone, .int a0_hasSpan, .long a0_spanFrom, .int a0_spanMany, w_a0_least, w_a0_greatest, w_a0_isSquared, .int a0_hasPart, .long a0_parted, .int a0_partMany, w_a0_partPrime, w_a0_partPower, .int a0_rows, w_a0_row, .long a0_foundLeast, .long a0_foundGreatest, .int a0_foundSquare]))] := hD
        refine lv_if_ne (tgt := 53) hx hb dX9_floors_46 (by decide) (fun c_8 => ?_) (fun c_8 => ?_)
        · replace h := h.2 c_8
          refine lv_iload_n hx hb dX9_floors_53 rfl (lv_at hl 1 rfl) ?_
          refine lv_i2l hx hb dX9_floors_54 rfl ?_
          refine lv_topl (fun x5_9 e_x5_9 => ?_)
          replace h := h x5_9 e_x5_9
          refine lv_lstore (lv' := [(5, .long x5_9), (0, .ref h_a0), (1, .int p1), (2, .int p2), (3, .int p3), (4, .int p4)]) hx hb dX9_floors_55 hl (by decide) rfl (fun ls hl => ?_)
          refine lv_iload_n hx hb dX9_floors_57 rfl (lv_at hl 3 rfl) ?_
          refine lv_i2l hx hb dX9_floors_58 rfl ?_
          refine lv_topl (fun x7_10 e_x7_10 => ?_)
          replace h := h x7_10 e_x7_10
          refine lv_lstore (lv' := [(7, .long x7_10), (5, .long x5_9), (0, .ref h_a0), (1, .int p1), (2, .int p2), (3, .int p3), (4, .int p4)]) hx hb dX9_floors_59 hl (by decide) rfl (fun ls hl => ?_)
          refine lv_iload_n hx hb dX9_floors_61 rfl (lv_at hl 5 rfl) ?_
          refine lv_i2l hx hb dX9_floors_62 rfl ?_
          refine lv_topl (fun x9_11 e_x9_11 => ?_)
          replace h := h x9_11 e_x9_11
          refine lv_lstore (lv' := [(9, .long x9_11), (7, .long x7_10), (5, .long x5_9), (0, .ref h_a0), (1, .int p1), (2, .int p2), (3, .int p3), (4, .int p4)]) hx hb dX9_floors_63 hl (by decide) rfl (fun ls hl => ?_)
          refine lv_iload hx hb dX9_floors_65 (lv_at hl 7 rfl) ?_
          refine lv_i2l hx hb dX9_floors_67 rfl ?_
          refine lv_topl (fun x11_12 e_x11_12 => ?_)
          replace h := h x11_12 e_x11_12
          refine lv_lstore (lv' := [(11, .long x11_12), (9, .long x9_11), (7, .long x7_10), (5, .long x5_9), (0, .ref h_a0), (1, .int p1), (2, .int p2), (3, .int p3), (4, .int p4)]) hx hb dX9_floors_68 hl (by decide) rfl (fun ls hl => ?_)
          refine lv_lconst (v := (0 : Int64)) hx hb dX9_floors_70 (by decide) ?_
          refine lv_lstore (lv' := [(13, .long (0 : Int64)), (11, .long x11_12), (9, .long x9_11), (7, .long x7_10), (5, .long x5_9), (0, .ref h_a0), (1, .int p1), (2, .int p2), (3, .int p3), (4, .int p4)]) hx hb dX9_floors_71 hl (by decide) rfl (fun ls hl => ?_)
          refine lv_iconst (v := (1 : Int32)) hx hb dX9_floors_73 (by decide) ?_
          refine lv_istore (lv' := [(15, .int (1 : Int32)), (13, .long (0 : Int64)), (11, .long x11_12), (9, .long x9_11), (7, .long x7_10), (5, .long x5_9), (0, .ref h_a0), (1, .int p1), (2, .int p2), (3, .int p3), (4, .int p4)]) hx hb dX9_floors_74 hl (by decide) rfl (fun ls hl => ?_)
          obtain ⟨I_76_12, m_76_12, h0_76_12, hs_76_12⟩ := h
          have key_76_12 : ∀ (n : Nat) (l15_76_12 : Int32) (l13_76_12 : Int64) (l11_76_12 : Int64) (l9_76_12 : Int64) (l7_76_12 : Int64) (l5_76_12 : Int64), m_76_12 l15_76_12 l13_76_12 l11_76_12 l9_76_12 l7_76_12 l5_76_12 < n → I_76_12 l15_76_12 l13_76_12 l11_76_12 l9_76_12 l7_76_12 l5_76_12 → ∀ (ls : Array Slot) (H : Heap) (locs : List Loc), lv_has ls 20 [(15, .int l15_76_12), (13, .long l13_76_12), (11, .long l11_76_12), (9, .long l9_76_12), (7, .long l7_76_12), (5, .long l5_76_12)] → va_P (dC, dI) vwCl [(h_a0, .inr (8, [.int a0_primes, w_a0_prime, w_a0_isNone, .int a0_hasSpan, .long a0_spanFrom, .int a0_spanMany, w_a0_least, w_a0_greatest, w_a0_isSquared, .int a0_hasPart, .long a0_parted, .int a0_partMany, w_a0_partPrime, w_a0_partPower, .int a0_rows, w_a0_row, .long a0_foundLeast, .long a0_foundGreatest, .int a0_foundSquare]))] H → va_D A [(h_a0, .inr (8, [.int a0_primes, w_a0_prime, w_a0_isNone, .int a0_hasSpan, .long a0_spanFrom, .int a0_spanMany, w_a0_least, w_a0_greatest, w_a0_isSquared, .int a0_hasPart, .long a0_parted, .int a0_partMany, w_a0_partPrime, w_a0_partPower, .int a0_rows, w_a0_row, .long a0_foundLeast, .long a0_foundGreatest, .int a0_foundSquare]))] → va_S A s.heap H locs → W p l e (headSpec wsX9_floors rm_X9_floors).room s m ([.ref h_a0, .int p1, .int p2, .int p3, .int p4] : List Value).toArray below meth c H locs 0 0 (MQ below (qc_X9_floors dC dI cI cJ cZ h_a0 a0_primes w_a0_prime w_a0_isNone a0_hasSpan a0_spanFrom a0_spanMany w_a0_least w_a0_greatest w_a0_isSquared a0_hasPart a0_parted a0_partMany w_a0_partPrime w_a0_partPower a0_rows w_a0_row a0_foundLeast a0_foundGreatest a0_foundSquare Q A) ([.ref h_a0, .int p1, .int p2, .int p3, .int p4] : List Value).toArray s 0 0 A) (F0 m 76 ls []) := by
            intro n
            induction n with
            | zero =>
              intro l15_76_12 l13_76_12 l11_76_12 l9_76_12 l7_76_12 l5_76_12 hm
              exact absurd hm (Nat.not_lt_zero _)
            | succ n ih_76_12 =>
              intro l15_76_12 l13_76_12 l11_76_12 l9_76_12 l7_76_12 l5_76_12 hm_76_12 hI ls H locs hl hP hD hS
              have h := hs_76_12 l15_76_12 l13_76_12 l11_76_12 l9_76_12 l7_76_12 l5_76_12 hI
              refine lv_iload hx hb dX9_floors_76 (lv_at hl 0 rfl) ?_
              refine lv_if_eq (tgt := 179) hx hb dX9_floors_78 (by decide) (fun c_14 => ?_) (fun c_14 => ?_)
              · replace h := h.1 c_14
                refine lv_lload hx hb dX9_floors_179 (lv_at hl 1 rfl) ?_
                have hP9 := hP.sub (ws' := [(h_a0, .inr (8, [.int a0_primes, w_a0_prime, w_a0_isNone, .int a0_hasSpan, .long a0_spanFrom, .int a0_spanMany, w_a0_least, w_a0_greatest, w_a0_isSquared, .int a0_hasPart, .long a0_parted, .int a0_partMany, w_a0_partPrime, w_a0_partPower, .int a0_rows, w_a0_row, .long a0_foundLeast, .long a0_foundGreatest, .int a0_foundSquare]))]) [0] rfl
                have hD9 := hD.sub (ws' := [(h_a0, .inr (8, [.int a0_primes, w_a0_prime, w_a0_isNone, .int a0_hasSpan, .long a0_spanFrom, .int a0_spanMany, w_a0_least, w_a0_greatest, w_a0_isSquared, .int a0_hasPart, .long a0_parted, .int a0_partMany, w_a0_partPrime, w_a0_partPower, .int a0_rows, w_a0_row, .long a0_foundLeast, .long a0_foundGreatest, .int a0_foundSquare]))]) [0] (by decide) rfl
                exact W.lret (v := l13_76_12) hx hb hr (fun t ht hW => ⟨⟨_, (), rfl, h, by rw [ht]; exact hP9, hD9⟩, hS.F ht⟩) hS.2.2 dX9_floors_181
              · replace h := h.2 c_14
                refine lv_lload hx hb dX9_floors_81 (lv_at hl 1 rfl) ?_
                refine lv_lload hx hb dX9_floors_83 (lv_at hl 5 rfl) ?_
                have hPc := hP.sub (ws' := []) [] rfl
                have hDc := hD.sub (ws' := []) [] (by decide) rfl
                have hFc := va_free (wc := []) hD hS hA [] rfl
                refine va_calll (va_runS (As := [.long l5_76_12]) (rest := [.long l13_76_12]) ⟨hx, hb, hml, hown, hts⟩ (c_X9_pairs l dC dI cI cJ cZ _ l5_76_12 _ h) (va_cwS 1 hts gX9_floors_X9_pairs rfl rfl rfl (by decide +kernel) ⟨Nat.le_of_ble_eq_true rfl, Nat.le_of_ble_eq_true rfl⟩) ⟨pre_fb, pre_of hPc hDc hK hN⟩ rfl rfl hl.1 rfl (lv_room (Nat.le_of_ble_eq_true rfl)) dX9_floors_85 ⟨by first | exact Nat.le_of_ble_eq_true rfl | exact Nat.le_refl _, by first | exact Nat.le_of_ble_eq_true rfl | exact Nat.le_refl _⟩) hS (fun q _ h => hFc q h) hFc (fun r_15 u t H1 locs ht hvm h hB hz1 hk1 hS => ?_)
                obtain ⟨hP1, hD1⟩ := hB
                rw [ht] at hP1
                try dsimp only at h
                obtain ⟨hP, hD⟩ := va_join (wr := [(h_a0, .inr (8, [.int a0_primes, w_a0_prime, w_a0_isNone, .int a0_hasSpan, .long a0_spanFrom, .int a0_spanMany, w_a0_least, w_a0_greatest, w_a0_isSquared, .int a0_hasPart, .long a0_parted, .int a0_partMany, w_a0_partPrime, w_a0_partPower, .int a0_rows, w_a0_row, .long a0_foundLeast, .long a0_foundGreatest, .int a0_foundSquare]))]) (w1 := []) hP hD [] [0] rfl rfl (by decide) (by decide) hk1 hFc hP1 hD1
                generalize H1 = H at hP hS ⊢
                have hP : va_P (dC, dI) vwCl [(h_a0, .inr (8, [.int a0_primes, w_a0_prime, w_a0_isNone, .int a0_hasSpan, .long a0_spanFrom, .int a0_spanMany, w_a0_least, w_a0_greatest, w_a0_isSquared, .int a0_hasPart, .long a0_parted, .int a0_partMany, w_a0_partPrime, w_a0_partPower, .int a0_rows, w_a0_row, .long a0_foundLeast, .long a0_foundGreatest, .int a0_foundSquare]))] H := hP
                have hD : va_D A [(h_a0, .inr (8, [.int a0_primes, w_a0_prime, w_a0_isNone, .int a0_hasSpan, .long a0_spanFrom, .int a0_spanMany, w_a0_least, w_a0_greatest, w_a0_isSquared, .int a0_hasPart, .long a0_parted, .int a0_partMany, w_a0_partPrime, w_a0_partPower, .int a0_rows, w_a0_row, .long a0_foundLeast, .long a0_foundGreatest, .int a0_foundSquare]))] := hD
                refine lv_lload hx hb dX9_floors_88 (lv_at hl 4 rfl) ?_
                refine lv_lload hx hb dX9_floors_90 (lv_at hl 2 rfl) ?_
                obtain ⟨hne_16, h⟩ := h
                refine lv_ldiv hx hb dX9_floors_92 hne_16 ?_
                refine lv_lmul hx hb dX9_floors_93 ?_
                refine lv_lload hx hb dX9_floors_94 (lv_at hl 5 rfl) ?_
                refine lv_lload hx hb dX9_floors_96 (lv_at hl 3 rfl) ?_
                refine lv_lload hx hb dX9_floors_98 (lv_at hl 2 rfl) ?_
                obtain ⟨hne_17, h⟩ := h
                refine lv_ldiv hx hb dX9_floors_100 hne_17 ?_
                refine lv_lmul hx hb dX9_floors_101 ?_
                refine lv_ladd hx hb dX9_floors_102 ?_
                refine lv_ladd hx hb dX9_floors_103 ?_
                refine lv_topl (fun x13_18 e_x13_18 => ?_)
                replace h := h x13_18 e_x13_18
                refine lv_lstore (lv' := [(13, .long x13_18), (15, .int l15_76_12), (11, .long l11_76_12), (9, .long l9_76_12), (7, .long l7_76_12), (5, .long l5_76_12)]) hx hb dX9_floors_104 hl (by decide) rfl (fun ls hl => ?_)
                refine lv_lload hx hb dX9_floors_106 (lv_at hl 4 rfl) ?_
                refine lv_lload hx hb dX9_floors_108 (lv_at hl 2 rfl) ?_
                obtain ⟨hne_19, h⟩ := h
                refine lv_lrem hx hb dX9_floors_110 hne_19 ?_
                refine lv_topl (fun x7_20 e_x7_20 => ?_)
                replace h := h x7_20 e_x7_20
                refine lv_lstore (lv' := [(7, .long x7_20), (13, .long x13_18), (15, .int l15_76_12), (11, .long l11_76_12), (9, .long l9_76_12), (5, .long l5_76_12)]) hx hb dX9_floors_111 hl (by decide) rfl (fun ls hl => ?_)
                refine lv_lload hx hb dX9_floors_113 (lv_at hl 4 rfl) ?_
                refine lv_lload hx hb dX9_floors_115 (lv_at hl 3 rfl) ?_
                obtain ⟨hne_21, h⟩ := h
                refine lv_lrem hx hb dX9_floors_117 hne_21 ?_
                refine lv_topl (fun x9_22 e_x9_22 => ?_)
                replace h := h x9_22 e_x9_22
                refine lv_lstore (lv' := [(9, .long x9_22), (7, .long x7_20), (13, .long x13_18), (15, .int l15_76_12), (11, .long l11_76_12), (5, .long l5_76_12)]) hx hb dX9_floors_118 hl (by decide) rfl (fun ls hl => ?_)
                refine lv_lload hx hb dX9_floors_120 (lv_at hl 1 rfl) ?_
                refine lv_lload hx hb dX9_floors_122 (lv_at hl 5 rfl) ?_
                refine lv_lmul hx hb dX9_floors_124 ?_
                refine lv_lload hx hb dX9_floors_125 (lv_at hl 0 rfl) ?_
                refine lv_ladd hx hb dX9_floors_127 ?_
                refine lv_topl (fun x16_23 e_x16_23 => ?_)
                replace h := h x16_23 e_x16_23
                refine lv_lstore (lv' := [(16, .long x16_23), (9, .long x9_22), (7, .long x7_20), (13, .long x13_18), (15, .int l15_76_12), (11, .long l11_76_12), (5, .long l5_76_12)]) hx hb dX9_floors_128 hl (by decide) rfl (fun ls hl => ?_)
                refine lv_lload hx hb dX9_floors_130 (lv_at hl 0 rfl) ?_
                refine lv_lload hx hb dX9_floors_132 (lv_at hl 5 rfl) ?_
                refine W.lcmp hx hb dX9_floors_134 ?_
                refine lv_if_lt (tgt := 142) hx hb dX9_floors_135 (by decide) (fun c_24 => ?_) (fun c_24 => ?_)
                · replace c_24 := (lg_cmp_lt _ _).mp c_24
                  replace h := h.1 c_24
                  refine lv_iconst (v := (0 : Int32)) hx hb dX9_floors_142 (by decide) ?_
                  refine lv_istore (lv' := [(15, .int (0 : Int32)), (16, .long x16_23), (9, .long x9_22), (7, .long x7_20), (13, .long x13_18), (11, .long l11_76_12), (5, .long l5_76_12)]) hx hb dX9_floors_143 hl (by decide) rfl (fun ls hl => ?_)
                  refine lv_iload hx hb dX9_floors_145 (lv_at hl 0 rfl) ?_
                  refine lv_if_eq (tgt := 176) hx hb dX9_floors_147 (by decide) (fun c_25 => ?_) (fun c_25 => ?_)
                  · replace h := h.1 c_25
                    refine lv_goto (tgt := 76) hx hb dX9_floors_176 (by decide) ?_
                    exact ih_76_12 (0 : Int32) x13_18 l11_76_12 x9_22 x7_20 l5_76_12 (Nat.lt_of_lt_of_le h.2 (Nat.le_of_lt_succ hm_76_12)) h.1 _ _ _ (lv_sub hl [0, 4, 5, 2, 3, 6] rfl) (hP.sub [0] rfl) (hD.sub [0] (by decide) rfl) hS
                  · replace h := h.2 c_25
                    refine lv_lload hx hb dX9_floors_150 (lv_at hl 1 rfl) ?_
                    refine lv_lload hx hb dX9_floors_152 (lv_at hl 5 rfl) ?_
                    obtain ⟨hne_26, h⟩ := h
                    refine lv_ldiv hx hb dX9_floors_154 hne_26 ?_
                    refine lv_topl (fun x5_27 e_x5_27 => ?_)
                    replace h := h x5_27 e_x5_27
                    refine lv_lstore (lv' := [(5, .long x5_27), (15, .int (0 : Int32)), (16, .long x16_23), (9, .long x9_22), (7, .long x7_20), (13, .long x13_18), (11, .long l11_76_12)]) hx hb dX9_floors_155 hl (by decide) rfl (fun ls hl => ?_)
                    refine lv_lload hx hb dX9_floors_157 (lv_at hl 2 rfl) ?_
                    refine lv_lload hx hb dX9_floors_159 (lv_at hl 6 rfl) ?_
                    obtain ⟨hne_28, h⟩ := h
                    refine lv_lrem hx hb dX9_floors_161 hne_28 ?_
                    refine lv_topl (fun x9_29 e_x9_29 => ?_)
                    replace h := h x9_29 e_x9_29
                    refine lv_lstore (lv' := [(9, .long x9_29), (5, .long x5_27), (15, .int (0 : Int32)), (16, .long x16_23), (7, .long x7_20), (13, .long x13_18), (11, .long l11_76_12)]) hx hb dX9_floors_162 hl (by decide) rfl (fun ls hl => ?_)
                    refine lv_lload hx hb dX9_floors_164 (lv_at hl 6 rfl) ?_
                    refine lv_lstore (lv' := [(18, .long l11_76_12), (9, .long x9_29), (5, .long x5_27), (15, .int (0 : Int32)), (16, .long x16_23), (7, .long x7_20), (13, .long x13_18), (11, .long l11_76_12)]) hx hb dX9_floors_166 hl (by decide) rfl (fun ls hl => ?_)
                    refine lv_lload hx hb dX9_floors_168 (lv_at hl 5 rfl) ?_
                    refine lv_lstore (lv' := [(11, .long x7_20), (18, .long l11_76_12), (9, .long x9_29), (5, .long x5_27), (15, .int (0 : Int32)), (16, .long x16_23), (7, .long x7_20), (13, .long x13_18)]) hx hb dX9_floors_170 hl (by decide) rfl (fun ls hl => ?_)
                    refine lv_lload hx hb dX9_floors_172 (lv_at hl 1 rfl) ?_
                    refine lv_lstore (lv' := [(7, .long l11_76_12), (11, .long x7_20), (18, .long l11_76_12), (9, .long x9_29), (5, .long x5_27), (15, .int (0 : Int32)), (16, .long x16_23), (13, .long x13_18)]) hx hb dX9_floors_174 hl (by decide) rfl (fun ls hl => ?_)
                    refine lv_goto (tgt := 76) hx hb dX9_floors_176 (by decide) ?_
                    exact ih_76_12 (0 : Int32) x13_18 x7_20 x9_29 l11_76_12 x5_27 (Nat.lt_of_lt_of_le h.2 (Nat.le_of_lt_succ hm_76_12)) h.1 _ _ _ (lv_sub hl [5, 7, 1, 3, 0, 4] rfl) (hP.sub [0] rfl) (hD.sub [0] (by decide) rfl) hS
                · replace c_24 := lc_nlt c_24
                  replace h := h.2 c_24
                  refine lv_iconst (v := (1 : Int32)) hx hb dX9_floors_138 (by decide) ?_
                  refine lv_goto (tgt := 143) hx hb dX9_floors_139 (by decide) ?_
                  refine lv_istore (lv' := [(15, .int (1 : Int32)), (16, .long x16_23), (9, .long x9_22), (7, .long x7_20), (13, .long x13_18), (11, .long l11_76_12), (5, .long l5_76_12)]) hx hb dX9_floors_143 hl (by decide) rfl (fun ls hl => ?_)
                  refine lv_iload hx hb dX9_floors_145 (lv_at hl 0 rfl) ?_
                  refine lv_if_eq (tgt := 176) hx hb dX9_floors_147 (by decide) (fun c_30 => ?_) (fun c_30 => ?_)
                  · replace h := h.1 c_30
                    refine lv_goto (tgt := 76) hx hb dX9_floors_176 (by decide) ?_
                    exact ih_76_12 (1 : Int32) x13_18 l11_76_12 x9_22 x7_20 l5_76_12 (Nat.lt_of_lt_of_le h.2 (Nat.le_of_lt_succ hm_76_12)) h.1 _ _ _ (lv_sub hl [0, 4, 5, 2, 3, 6] rfl) (hP.sub [0] rfl) (hD.sub [0] (by decide) rfl) hS
                  · replace h := h.2 c_30
                    refine lv_lload hx hb dX9_floors_150 (lv_at hl 1 rfl) ?_
                    refine lv_lload hx hb dX9_floors_152 (lv_at hl 5 rfl) ?_
                    obtain ⟨hne_31, h⟩ := h
                    refine lv_ldiv hx hb dX9_floors_154 hne_31 ?_
                    refine lv_topl (fun x5_32 e_x5_32 => ?_)
                    replace h := h x5_32 e_x5_32
                    refine lv_lstore (lv' := [(5, .long x5_32), (15, .int (1 : Int32)), (16, .long x16_23), (9, .long x9_22), (7, .long x7_20), (13, .long x13_18), (11, .long l11_76_12)]) hx hb dX9_floors_155 hl (by decide) rfl (fun ls hl => ?_)
                    refine lv_lload hx hb dX9_floors_157 (lv_at hl 2 rfl) ?_
                    refine lv_lload hx hb dX9_floors_159 (lv_at hl 6 rfl) ?_
                    obtain ⟨hne_33, h⟩ := h
                    refine lv_lrem hx hb dX9_floors_161 hne_33 ?_
                    refine lv_topl (fun x9_34 e_x9_34 => ?_)
                    replace h := h x9_34 e_x9_34
                    refine lv_lstore (lv' := [(9, .long x9_34), (5, .long x5_32), (15, .int (1 : Int32)), (16, .long x16_23), (7, .long x7_20), (13, .long x13_18), (11, .long l11_76_12)]) hx hb dX9_floors_162 hl (by decide) rfl (fun ls hl => ?_)
                    refine lv_lload hx hb dX9_floors_164 (lv_at hl 6 rfl) ?_
                    refine lv_lstore (lv' := [(18, .long l11_76_12), (9, .long x9_34), (5, .long x5_32), (15, .int (1 : Int32)), (16, .long x16_23), (7, .long x7_20), (13, .long x13_18), (11, .long l11_76_12)]) hx hb dX9_floors_166 hl (by decide) rfl (fun ls hl => ?_)
                    refine lv_lload hx hb dX9_floors_168 (lv_at hl 5 rfl) ?_
                    refine lv_lstore (lv' := [(11, .long x7_20), (18, .long l11_76_12), (9, .long x9_34), (5, .long x5_32), (15, .int (1 : Int32)), (16, .long x16_23), (7, .long x7_20), (13, .long x13_18)]) hx hb dX9_floors_170 hl (by decide) rfl (fun ls hl => ?_)
                    refine lv_lload hx hb dX9_floors_172 (lv_at hl 1 rfl) ?_
                    refine lv_lstore (lv' := [(7, .long l11_76_12), (11, .long x7_20), (18, .long l11_76_12), (9, .long x9_34), (5, .long x5_32), (15, .int (1 : Int32)), (16, .long x16_23), (13, .long x13_18)]) hx hb dX9_floors_174 hl (by decide) rfl (fun ls hl => ?_)
                    refine lv_goto (tgt := 76) hx hb dX9_floors_176 (by decide) ?_
                    exact ih_76_12 (1 : Int32) x13_18 x7_20 x9_34 l11_76_12 x5_32 (Nat.lt_of_lt_of_le h.2 (Nat.le_of_lt_succ hm_76_12)) h.1 _ _ _ (lv_sub hl [5, 7, 1, 3, 0, 4] rfl) (hP.sub [0] rfl) (hD.sub [0] (by decide) rfl) hS
          exact key_76_12 _ (1 : Int32) (0 : Int64) x11_12 x9_11 x7_10 x5_9 (Nat.lt_succ_self _) h0_76_12 _ _ _ (lv_sub hl [0, 1, 2, 3, 4, 5] rfl) (hP.sub [0] rfl) (hD.sub [0] (by decide) rfl) hS
        · replace h := h.1 c_8
          refine lv_ldc2 hx hb hown hw_1 dX9_floors_49 ?_
          have hP9 := hP.sub (ws' := [(h_a0, .inr (8, [.int a0_primes, w_a0_prime, w_a0_isNone, .int a0_hasSpan, .long a0_spanFrom, .int a0_spanMany, w_a0_least, w_a0_greatest, w_a0_isSquared, .int a0_hasPart, .long a0_parted, .int a0_partMany, w_a0_partPrime, w_a0_partPower, .int a0_rows, w_a0_row, .long a0_foundLeast, .long a0_foundGreatest, .int a0_foundSquare]))]) [0] rfl
          have hD9 := hD.sub (ws' := [(h_a0, .inr (8, [.int a0_primes, w_a0_prime, w_a0_isNone, .int a0_hasSpan, .long a0_spanFrom, .int a0_spanMany, w_a0_least, w_a0_greatest, w_a0_isSquared, .int a0_hasPart, .long a0_parted, .int a0_partMany, w_a0_partPrime, w_a0_partPower, .int a0_rows, w_a0_row, .long a0_foundLeast, .long a0_foundGreatest, .int a0_foundSquare]))]) [0] (by decide) rfl
          exact W.lret (v := (-1 : Int64)) hx hb hr (fun t ht hW => ⟨⟨_, (), rfl, h, by rw [ht]; exact hP9, hD9⟩, hS.F ht⟩) hS.2.2 dX9_floors_52
def wp_X9_points  (p1 : Int64) (Q : Int64 → Prop) : Prop :=
  wp_X9_in p1 (0 : Int64) (10000000000 : Int64) (fun r_1 => ((r_1 = (0 : Int32) → Q (-1 : Int64)) ∧ (¬ r_1 = (0 : Int32) → (∃ (I_20_2 : Int64 → Int64 → Prop) (m_20_2 : Int64 → Int64 → Nat), I_20_2 (1 : Int64) (0 : Int64) ∧ ∀ (l5_20_2 : Int64) (l3_20_2 : Int64), I_20_2 l5_20_2 l3_20_2 → ((p1 < (l5_20_2 * l5_20_2) → Q l3_20_2) ∧ (¬ p1 < (l5_20_2 * l5_20_2) → (¬ l5_20_2 = 0 ∧ (∀ x3_6 : Int64, x3_6 = (l3_20_2 + (((2 : Int64) * ((p1 / l5_20_2) - l5_20_2)) + (1 : Int64))) → (∀ x5_7 : Int64, x5_7 = (l5_20_2 + (1 : Int64)) → (I_20_2 x5_7 x3_6 ∧ m_20_2 x5_7 x3_6 < m_20_2 l5_20_2 l3_20_2))))))))))
abbrev rm_X9_points : Room := { frames := 1, cells := 0, slots := 0, locals := 25 }
abbrev qc_X9_points (dC : Nat → ClassId) (dI : Nat → Nat → Nat) (cI cJ cZ : ClassId) (h_a0 : Nat) (a0_primes : Int32) (w_a0_prime : Value) (w_a0_isNone : Value) (a0_hasSpan : Int32) (a0_spanFrom : Int64) (a0_spanMany : Int32) (w_a0_least : Value) (w_a0_greatest : Value) (w_a0_isSquared : Value) (a0_hasPart : Int32) (a0_parted : Int64) (a0_partMany : Int32) (w_a0_partPrime : Value) (w_a0_partPower : Value) (a0_rows : Int32) (w_a0_row : Value) (a0_foundLeast : Int64) (a0_foundGreatest : Int64) (a0_foundSquare : Int32) (Q : Int64 → Prop) (A : Nat → Prop) : Array Value → State → Outcome → State → Prop := va_Ql (fun (r : Int64) (_ : Unit) => Q r) (post_ dC dI A (fun (u : Unit) => [(h_a0, .inr (8, [.int a0_primes, w_a0_prime, w_a0_isNone, .int a0_hasSpan, .long a0_spanFrom, .int a0_spanMany, w_a0_least, w_a0_greatest, w_a0_isSquared, .int a0_hasPart, .long a0_parted, .int a0_partMany, w_a0_partPrime, w_a0_partPower, .int a0_rows, w_a0_row, .long a0_foundLeast, .long a0_foundGreatest, .int a0_foundSquare]))])) A
set_option maxHeartbeats 4000000 in
set_option maxRecDepth 100000 in
theorem c_X9_points (l : Launch) (dC : Nat → ClassId) (dI : Nat → Nat → Nat) (cI cJ cZ : ClassId) (sz : Nat) (h_a0 : Nat) (a0_primes : Int32) (w_a0_prime : Value) (w_a0_isNone : Value) (a0_hasSpan : Int32) (a0_spanFrom : Int64) (a0_spanMany : Int32) (w_a0_least : Value) (w_a0_greatest : Value) (w_a0_isSquared : Value) (a0_hasPart : Int32) (a0_parted : Int64) (a0_partMany : Int32) (w_a0_partPrime : Value) (w_a0_partPower : Value) (a0_rows : Int32) (w_a0_row : Value) (a0_foundLeast : Int64) (a0_foundGreatest : Int64) (a0_foundSquare : Int32) (p1 : Int64) (Q : Int64 → Prop) (hQ : wp_X9_points p1 Q) : Met l yX9_points wsX9_points rm_X9_points (pre_ dC dI cI cJ cZ [.ref h_a0, .long p1] [(h_a0, .inr (8, [.int a0_primes, w_a0_prime, w_a0_isNone, .int a0_hasSpan, .long a0_spanFrom, .int a0_spanMany, w_a0_least, w_a0_greatest, w_a0_isSquared, .int a0_hasPart, .long a0_parted, .int a0_partMany, w_a0_partPrime, w_a0_partPower, .int a0_rows, w_a0_row, .long a0_foundLeast, .long a0_foundGreatest, .int a0_foundSquare]))] sz) (qc_X9_points dC dI cI cJ cZ h_a0 a0_primes w_a0_prime w_a0_isNone a0_hasSpan a0_spanFrom a0_spanMany w_a0_least w_a0_greatest w_a0_isSquared a0_hasPart a0_parted a0_partMany w_a0_partPrime w_a0_partPower a0_rows w_a0_row a0_foundLeast a0_foundGreatest a0_foundSquare Q (va_A [(h_a0, .inr (8, [.int a0_primes, w_a0_prime, w_a0_isNone, .int a0_hasSpan, .long a0_spanFrom, .int a0_spanMany, w_a0_least, w_a0_greatest, w_a0_isSquared, .int a0_hasPart, .long a0_parted, .int a0_partMany, w_a0_partPrime, w_a0_partPower, .int a0_rows, w_a0_row, .long a0_foundLeast, .long a0_foundGreatest, .int a0_foundSquare]))] sz)) 0 0 (va_A [(h_a0, .inr (8, [.int a0_primes, w_a0_prime, w_a0_isNone, .int a0_hasSpan, .long a0_spanFrom, .int a0_spanMany, w_a0_least, w_a0_greatest, w_a0_isSquared, .int a0_hasPart, .long a0_parted, .int a0_partMany, w_a0_partPrime, w_a0_partPower, .int a0_rows, w_a0_row, .long a0_foundLeast, .long a0_foundGreatest, .int a0_foundSquare]))] sz) := by
  refine Met.ofW (cc := cX9_points) (maxL := 7) (ret := (some .long)) (by decide) rfl ?_
  intro p e s m args below meth c s₁ B hml hv
  obtain ⟨rfl, hsz, hP, hK, hN, hD0⟩ := hv
  have hx := B.exec
  have hb := B.bytes
  have hr := B.returns
  have hts := atoms_spec (ws := wsX9_points) B.pre
  have hown : s.vm.findClass RX9 = some m.cls := findClass_of_methodNamed B.named
  subst hsz
  have hD := hD0.self (sz := s.heap.size)
  generalize hAe : va_A [(h_a0, .inr (8, [.int a0_primes, w_a0_prime, w_a0_isNone, .int a0_hasSpan, .long a0_spanFrom, .int a0_spanMany, w_a0_least, w_a0_greatest, w_a0_isSquared, .int a0_hasPart, .long a0_parted, .int a0_partMany, w_a0_partPrime, w_a0_partPower, .int a0_rows, w_a0_row, .long a0_foundLeast, .long a0_foundGreatest, .int a0_foundSquare]))] s.heap.size = A at hD ⊢
  have hA : ∀ q : Nat, s.heap.size ≤ q → A q := fun q h => by rw [← hAe]; exact Or.inr h
  have hS : va_S A s.heap s.heap [] := va_S.rf
  have hl := lv_entry ([.ref h_a0, .long p1]) (n := 7) (Nat.le_of_ble_eq_true rfl)
  rw [lg_entry_eq]
  generalize (lg_sl ([.ref h_a0, .long p1]) ++ List.replicate (7 - (lg_sl ([.ref h_a0, .long p1])).length) Slot.unset).toArray = ls at hl ⊢
  have hl : lv_has ls 7 [(0, .ref h_a0), (1, .long p1)] := hl
  have h := hQ
  unfold wp_X9_points at h
  have hw_0 := hts (.constantLong RX9 65 (10000000000)) (by decide +kernel)
  have hw_1 := hts (.constantLong RX9 57 (2)) (by decide +kernel)
  have hw_2 := hts (.constantLong RX9 92 (-1)) (by decide +kernel)
  refine lv_lload_n hx hb dX9_points_0 rfl (lv_at hl 1 rfl) ?_
  refine lv_lconst (v := (0 : Int64)) hx hb dX9_points_1 (by decide) ?_
  refine lv_ldc2 hx hb hown hw_0 dX9_points_2 ?_
  have hPc := hP.sub (ws' := []) [] rfl
  have hDc := hD.sub (ws' := []) [] (by decide) rfl
  have hFc := va_free (wc := []) hD hS hA [] rfl
  refine va_calli (va_runS (As := [.long p1, .long (0 : Int64), .long (10000000000 : Int64)]) (rest := []) ⟨hx, hb, hml, hown, hts⟩ (c_X9_in l dC dI cI cJ cZ _ p1 (0 : Int64) (10000000000 : Int64) _ h) (va_cwS 3 hts gX9_points_X9_in rfl rfl rfl (by decide +kernel) ⟨Nat.le_of_ble_eq_true rfl, Nat.le_of_ble_eq_true rfl⟩) ⟨pre_fb, pre_of hPc hDc hK hN⟩ rfl rfl hl.1 rfl (lv_room (Nat.le_of_ble_eq_true rfl)) dX9_points_5 ⟨by first | exact Nat.le_of_ble_eq_true rfl | exact Nat.le_refl _, by first | exact Nat.le_of_ble_eq_true rfl | exact Nat.le_refl _⟩) hS (fun q _ h => hFc q h) hFc (fun r_1 u t H1 locs ht hvm h hB hz1 hk1 hS => ?_)
  obtain ⟨hP1, hD1⟩ := hB
  rw [ht] at hP1
  try dsimp only at h
  obtain ⟨hP, hD⟩ := va_join (wr := [(h_a0, .inr (8, [.int a0_primes, w_a0_prime, w_a0_isNone, .int a0_hasSpan, .long a0_spanFrom, .int a0_spanMany, w_a0_least, w_a0_greatest, w_a0_isSquared, .int a0_hasPart, .long a0_parted, .int a0_partMany, w_a0_partPrime, w_a0_partPower, .int a0_rows, w_a0_row, .long a0_foundLeast, .long a0_foundGreatest, .int a0_foundSquare]))]) (w1 := []) hP hD [] [0] rfl rfl (by decide) (by decide) hk1 hFc hP1 hD1
  generalize H1 = H at hP hS ⊢
  have hP : va_P (dC, dI) vwCl [(h_a0, .inr (8, [.int a0_primes, w_a0_prime, w_a0_isNone, .int a0_hasSpan, .long a0_spanFrom, .int a0_spanMany, w_a0_least, w_a0_greatest, w_a0_isSquared, .int a0_hasPart, .long a0_parted, .int a0_partMany, w_a0_partPrime, w_a0_partPower, .int a0_rows, w_a0_row, .long a0_foundLeast, .long a0_foundGreatest, .int a0_foundSquare]))] H := hP
  have hD : va_D A [(h_a0, .inr (8, [.int a0_primes, w_a0_prime, w_a0_isNone, .int a0_hasSpan, .long a0_spanFrom, .int a0_spanMany, w_a0_least, w_a0_greatest, w_a0_isSquared, .int a0_hasPart, .long a0_parted, .int a0_partMany, w_a0_partPrime, w_a0_partPower, .int a0_rows, w_a0_row, .long a0_foundLeast, .long a0_foundGreatest, .int a0_foundSquare]))] := hD
  refine lv_if_ne (tgt := 15) hx hb dX9_points_8 (by decide) (fun c_2 => ?_) (fun c_2 => ?_)
  · replace h := h.2 c_2
    refine lv_lconst (v := (0 : Int64)) hx hb dX9_points_15 (by decide) ?_
    refine lv_lstore_n (lv' := [(3, .long (0 : Int64)), (0, .ref h_a0), (1, .long p1)]) hx hb dX9_points_16 rfl hl (by decide) rfl (fun ls hl => ?_)
    refine lv_lconst (v := (1 : Int64)) hx hb dX9_points_17 (by decide) ?_
    refine lv_lstore (lv' := [(5, .long (1 : Int64)), (3, .long (0 : Int64)), (0, .ref h_a0), (1, .long p1)]) hx hb dX9_points_18 hl (by decide) rfl (fun ls hl => ?_)
    obtain ⟨I_20_2, m_20_2, h0_20_2, hs_20_2⟩ := h
    have key_20_2 : ∀ (n : Nat) (l5_20_2 : Int64) (l3_20_2 : Int64), m_20_2 l5_20_2 l3_20_2 < n → I_20_2 l5_20_2 l3_20_2 → ∀ (ls : Array Slot) (H : Heap) (locs : List Loc), lv_has ls 7 [(5, .long l5_20_2), (3, .long l3_20_2), (1, .long p1)] → va_P (dC, dI) vwCl [(h_a0, .inr (8, [.int a0_primes, w_a0_prime, w_a0_isNone, .int a0_hasSpan, .long a0_spanFrom, .int a0_spanMany, w_a0_least, w_a0_greatest, w_a0_isSquared, .int a0_hasPart, .long a0_parted, .int a0_partMany, w_a0_partPrime, w_a0_partPower, .int a0_rows, w_a0_row, .long a0_foundLeast, .long a0_foundGreatest, .int a0_foundSquare]))] H → va_D A [(h_a0, .inr (8, [.int a0_primes, w_a0_prime, w_a0_isNone, .int a0_hasSpan, .long a0_spanFrom, .int a0_spanMany, w_a0_least, w_a0_greatest, w_a0_isSquared, .int a0_hasPart, .long a0_parted, .int a0_partMany, w_a0_partPrime, w_a0_partPower, .int a0_rows, w_a0_row, .long a0_foundLeast, .long a0_foundGreatest, .int a0_foundSquare]))] → va_S A s.heap H locs → W p l e (headSpec wsX9_points rm_X9_points).room s m ([.ref h_a0, .long p1] : List Value).toArray below meth c H locs 0 0 (MQ below (qc_X9_points dC dI cI cJ cZ h_a0 a0_primes w_a0_prime w_a0_isNone a0_hasSpan a0_spanFrom a0_spanMany w_a0_least w_a0_greatest w_a0_isSquared a0_hasPart a0_parted a0_partMany w_a0_partPrime w_a0_partPower a0_rows w_a0_row a0_foundLeast a0_foundGreatest a0_foundSquare Q A) ([.ref h_a0, .long p1] : List Value).toArray s 0 0 A) (F0 m 20 ls []) := by
      intro n
      induction n with
      | zero =>
        intro l5_20_2 l3_20_2 hm
        exact absurd hm (Nat.not_lt_zero _)
      | succ n ih_20_2 =>
        intro l5_20_2 l3_20_2 hm_20_2 hI ls H locs hl hP hD hS
        have h := hs_20_2 l5_20_2 l3_20_2 hI
        refine lv_lload hx hb dX9_points_20 (lv_at hl 0 rfl) ?_
        refine lv_lload hx hb dX9_points_22 (lv_at hl 0 rfl) ?_
        refine lv_lmul hx hb dX9_points_24 ?_
        refine lv_lload_n hx hb dX9_points_25 rfl (lv_at hl 2 rfl) ?_
        refine W.lcmp hx hb dX9_points_26 ?_
        refine lv_if_gt (tgt := 55) hx hb dX9_points_27 (by decide) (fun c_4 => ?_) (fun c_4 => ?_)
        · replace c_4 := (lg_cmp_gt _ _).mp c_4
          replace h := h.1 c_4
          refine lv_lload_n hx hb dX9_points_55 rfl (lv_at hl 1 rfl) ?_
          have hP9 := hP.sub (ws' := [(h_a0, .inr (8, [.int a0_primes, w_a0_prime, w_a0_isNone, .int a0_hasSpan, .long a0_spanFrom, .int a0_spanMany, w_a0_least, w_a0_greatest, w_a0_isSquared, .int a0_hasPart, .long a0_parted, .int a0_partMany, w_a0_partPrime, w_a0_partPower, .int a0_rows, w_a0_row, .long a0_foundLeast, .long a0_foundGreatest, .int a0_foundSquare]))]) [0] rfl
          have hD9 := hD.sub (ws' := [(h_a0, .inr (8, [.int a0_primes, w_a0_prime, w_a0_isNone, .int a0_hasSpan, .long a0_spanFrom, .int a0_spanMany, w_a0_least, w_a0_greatest, w_a0_isSquared, .int a0_hasPart, .long a0_parted, .int a0_partMany, w_a0_partPrime, w_a0_partPower, .int a0_rows, w_a0_row, .long a0_foundLeast, .long a0_foundGreatest, .int a0_foundSquare]))]) [0] (by decide) rfl
          exact W.lret (v := l3_20_2) hx hb hr (fun t ht hW => ⟨⟨_, (), rfl, h, by rw [ht]; exact hP9, hD9⟩, hS.F ht⟩) hS.2.2 dX9_points_56
        · replace c_4 := lc_ngt c_4
          replace h := h.2 c_4
          refine lv_lload_n hx hb dX9_points_30 rfl (lv_at hl 1 rfl) ?_
          refine lv_ldc2 hx hb hown hw_1 dX9_points_31 ?_
          refine lv_lload_n hx hb dX9_points_34 rfl (lv_at hl 2 rfl) ?_
          refine lv_lload hx hb dX9_points_35 (lv_at hl 0 rfl) ?_
          obtain ⟨hne_5, h⟩ := h
          refine lv_ldiv hx hb dX9_points_37 hne_5 ?_
          refine lv_lload hx hb dX9_points_38 (lv_at hl 0 rfl) ?_
          refine lv_lsub hx hb dX9_points_40 ?_
          refine lv_lmul hx hb dX9_points_41 ?_
          refine lv_lconst (v := (1 : Int64)) hx hb dX9_points_42 (by decide) ?_
          refine lv_ladd hx hb dX9_points_43 ?_
          refine lv_ladd hx hb dX9_points_44 ?_
          refine lv_topl (fun x3_6 e_x3_6 => ?_)
          replace h := h x3_6 e_x3_6
          refine lv_lstore_n (lv' := [(3, .long x3_6), (5, .long l5_20_2), (1, .long p1)]) hx hb dX9_points_45 rfl hl (by decide) rfl (fun ls hl => ?_)
          refine lv_lload hx hb dX9_points_46 (lv_at hl 1 rfl) ?_
          refine lv_lconst (v := (1 : Int64)) hx hb dX9_points_48 (by decide) ?_
          refine lv_ladd hx hb dX9_points_49 ?_
          refine lv_topl (fun x5_7 e_x5_7 => ?_)
          replace h := h x5_7 e_x5_7
          refine lv_lstore (lv' := [(5, .long x5_7), (3, .long x3_6), (1, .long p1)]) hx hb dX9_points_50 hl (by decide) rfl (fun ls hl => ?_)
          refine lv_goto (tgt := 20) hx hb dX9_points_52 (by decide) ?_
          exact ih_20_2 x5_7 x3_6 (Nat.lt_of_lt_of_le h.2 (Nat.le_of_lt_succ hm_20_2)) h.1 _ _ _ (lv_sub hl [0, 1, 2] rfl) (hP.sub [0] rfl) (hD.sub [0] (by decide) rfl) hS
    exact key_20_2 _ (1 : Int64) (0 : Int64) (Nat.lt_succ_self _) h0_20_2 _ _ _ (lv_sub hl [0, 1, 3] rfl) (hP.sub [0] rfl) (hD.sub [0] (by decide) rfl) hS
  · replace h := h.1 c_2
    refine lv_ldc2 hx hb hown hw_2 dX9_points_11 ?_
    have hP9 := hP.sub (ws' := [(h_a0, .inr (8, [.int a0_primes, w_a0_prime, w_a0_isNone, .int a0_hasSpan, .long a0_spanFrom, .int a0_spanMany, w_a0_least, w_a0_greatest, w_a0_isSquared, .int a0_hasPart, .long a0_parted, .int a0_partMany, w_a0_partPrime, w_a0_partPower, .int a0_rows, w_a0_row, .long a0_foundLeast, .long a0_foundGreatest, .int a0_foundSquare]))]) [0] rfl
    have hD9 := hD.sub (ws' := [(h_a0, .inr (8, [.int a0_primes, w_a0_prime, w_a0_isNone, .int a0_hasSpan, .long a0_spanFrom, .int a0_spanMany, w_a0_least, w_a0_greatest, w_a0_isSquared, .int a0_hasPart, .long a0_parted, .int a0_partMany, w_a0_partPrime, w_a0_partPower, .int a0_rows, w_a0_row, .long a0_foundLeast, .long a0_foundGreatest, .int a0_foundSquare]))]) [0] (by decide) rfl
    exact W.lret (v := (-1 : Int64)) hx hb hr (fun t ht hW => ⟨⟨_, (), rfl, h, by rw [ht]; exact hP9, hD9⟩, hS.F ht⟩) hS.2.2 dX9_points_14

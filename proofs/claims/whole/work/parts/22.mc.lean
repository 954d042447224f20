def wp_X9_isRow (a0_rows : Int32) (p1 : Int32) (Q : Int32 → Prop) : Prop :=
  wp_X9_in (p1.toInt64) (0 : Int64) ((a0_rows - (1 : Int32)).toInt64) (fun r_1 => (narrow .boolean (.int r_1) = .int r_1 ∧ Q r_1))
abbrev rm_X9_isRow : Room := { frames := 1, cells := 0, slots := 0, locals := 25 }
abbrev qc_X9_isRow (dC : Nat → ClassId) (dI : Nat → Nat → Nat) (cI cJ cZ : ClassId) (h_a0 : Nat) (a0_primes : Int32) (w_a0_prime : Value) (w_a0_isNone : Value) (a0_hasSpan : Int32) (a0_spanFrom : Int64) (a0_spanMany : Int32) (w_a0_least : Value) (w_a0_greatest : Value) (w_a0_isSquared : Value) (a0_hasPart : Int32) (a0_parted : Int64) (a0_partMany : Int32) (w_a0_partPrime : Value) (w_a0_partPower : Value) (a0_rows : Int32) (w_a0_row : Value) (a0_foundLeast : Int64) (a0_foundGreatest : Int64) (a0_foundSquare : Int32) (Q : Int32 → Prop) (A : Nat → Prop) : Array Value → State → Outcome → State → Prop := va_Qi (fun (r : Int32) (_ : Unit) => Q r) (post_ dC dI A (fun (u : Unit) => [(h_a0, .inr (8, [.int a0_primes, w_a0_prime, w_a0_isNone, .int a0_hasSpan, .long a0_spanFrom, .int a0_spanMany, w_a0_least, w_a0_greatest, w_a0_isSquared, .int a0_hasPart, .long a0_parted, .int a0_partMany, w_a0_partPrime, w_a0_partPower, .int a0_rows, w_a0_row, .long a0_foundLeast, .long a0_foundGreatest, .int a0_foundSquare]))])) A
set_option maxHeartbeats 4000000 in
set_option maxRecDepth 100000 in
theorem c_X9_isRow (l : Launch) (dC : Nat → ClassId) (dI : Nat → Nat → Nat) (cI cJ cZ : ClassId) (sz : Nat) (h_a0 : Nat) (a0_primes : Int32) (w_a0_prime : Value) (w_a0_isNone : Value) (a0_hasSpan : Int32) (a0_spanFrom : Int64) (a0_spanMany : Int32) (w_a0_least : Value) (w_a0_greatest : Value) (w_a0_isSquared : Value) (a0_hasPart : Int32) (a0_parted : Int64) (a0_partMany : Int32) (w_a0_partPrime : Value) (w_a0_partPower : Value) (a0_rows : Int32) (w_a0_row : Value) (a0_foundLeast : Int64) (a0_foundGreatest : Int64) (a0_foundSquare : Int32) (p1 : Int32) (Q : Int32 → Prop) (hQ : wp_X9_isRow a0_rows p1 Q) : Met l yX9_isRow wsX9_isRow rm_X9_isRow (pre_ dC dI cI cJ cZ [.ref h_a0, .int p1] [(h_a0, .inr (8, [.int a0_primes, w_a0_prime, w_a0_isNone, .int a0_hasSpan, .long a0_spanFrom, .int a0_spanMany, w_a0_least, w_a0_greatest, w_a0_isSquared, .int a0_hasPart, .long a0_parted, .int a0_partMany, w_a0_partPrime, w_a0_partPower, .int a0_rows, w_a0_row, .long a0_foundLeast, .long a0_foundGreatest, .int a0_foundSquare]))] sz) (qc_X9_isRow dC dI cI cJ cZ h_a0 a0_primes w_a0_prime w_a0_isNone a0_hasSpan a0_spanFrom a0_spanMany w_a0_least w_a0_greatest w_a0_isSquared a0_hasPart a0_parted a0_partMany w_a0_partPrime w_a0_partPower a0_rows w_a0_row a0_foundLeast a0_foundGreatest a0_foundSquare Q (va_A [(h_a0, .inr (8, [.int a0_primes, w_a0_prime, w_a0_isNone, .int a0_hasSpan, .long a0_spanFrom, .int a0_spanMany, w_a0_least, w_a0_greatest, w_a0_isSquared, .int a0_hasPart, .long a0_parted, .int a0_partMany, w_a0_partPrime, w_a0_partPower, .int a0_rows, w_a0_row, .long a0_foundLeast, .long a0_foundGreatest, .int a0_foundSquare]))] sz)) 0 0 (va_A [(h_a0, .inr (8, [.int a0_primes, w_a0_prime, w_a0_isNone, .int a0_hasSpan, .long a0_spanFrom, .int a0_spanMany, w_a0_least, w_a0_greatest, w_a0_isSquared, .int a0_hasPart, .long a0_parted, .int a0_partMany, w_a0_partPrime, w_a0_partPower, .int a0_rows, w_a0_row, .long a0_foundLeast, .long a0_foundGreatest, .int a0_foundSquare]))] sz) := by
  refine Met.ofW (cc := cX9_isRow) (maxL := 2) (ret := (some .boolean)) (by decide) rfl ?_
  intro p e s m args below meth c s₁ B hml hv
  obtain ⟨rfl, hsz, hP, hK, hN, hD0⟩ := hv
  have hx := B.exec
  have hb := B.bytes
  have hr := B.returns
  have hts := atoms_spec (ws := wsX9_isRow) B.pre
  have hown : s.vm.findClass RX9 = some m.cls := findClass_of_methodNamed B.named
  subst hsz
  have hD := hD0.self (sz := s.heap.size)
  generalize hAe : va_A [(h_a0, .inr (8, [.int a0_primes, w_a0_prime, w_a0_isNone, .int a0_hasSpan, .long a0_spanFrom, .int a0_spanMany, w_a0_least, w_a0_greatest, w_a0_isSquared, .int a0_hasPart, .long a0_parted, .int a0_partMany, w_a0_partPrime, w_a0_partPower, .int a0_rows, w_a0_row, .long a0_foundLeast, .long a0_foundGreatest, .int a0_foundSquare]))] s.heap.size = A at hD ⊢
  have hA : ∀ q : Nat, s.heap.size ≤ q → A q := fun q h => by rw [← hAe]; exact Or.inr h
  have hS : va_S A s.heap s.heap [] := va_S.rf
  have hl := lv_entry ([.ref h_a0, .int p1]) (n := 2) (Nat.le_of_ble_eq_true rfl)
  rw [lg_entry_eq]
  generalize (lg_sl ([.ref h_a0, .int p1]) ++ List.replicate (2 - (lg_sl ([.ref h_a0, .int p1])).length) Slot.unset).toArray = ls at hl ⊢
  have hl : lv_has ls 2 [(0, .ref h_a0), (1, .int p1)] := hl
  have h := hQ
  unfold wp_X9_isRow at h
  have hw_0 := hts (.fieldLink RX9 112 "NumberSievesModel" "rows" "I") (by decide +kernel)
  have hin_X9 : ∀ w ∈ wsX90, w ∈ wsX9_isRow := by decide +kernel
  refine lv_iload_n hx hb dX9_isRow_0 rfl (lv_at hl 1 rfl) ?_
  refine lv_i2l hx hb dX9_isRow_1 rfl ?_
  refine lv_lconst (v := (0 : Int64)) hx hb dX9_isRow_2 (by decide) ?_
  refine lv_aload_n hx hb dX9_isRow_3 rfl (lv_at hl 0 rfl) ?_
  refine va_get (D := (dC, dI)) (ci := 8) (v := .int a0_rows) (C := RX9) (T := TX9) (N := 19) hx hb hts hin_X9 hown hK hP 0 rfl rfl 14 (by decide) hw_0 (fun _ h9 => h9) rfl dX9_isRow_4 ?_
  refine lv_iconst (v := (1 : Int32)) hx hb dX9_isRow_7 (by decide) ?_
  refine lv_isub hx hb dX9_isRow_8 ?_
  refine lv_i2l hx hb dX9_isRow_9 rfl ?_
  have hPc := hP.sub (ws' := []) [] rfl
  have hDc := hD.sub (ws' := []) [] (by decide) rfl
  have hFc := va_free (wc := []) hD hS hA [] rfl
  refine va_calli (va_runS (As := [.long p1.toInt64, .long (0 : Int64), .long (a0_rows - (1 : Int32)).toInt64]) (rest := []) ⟨hx, hb, hml, hown, hts⟩ (c_X9_in l dC dI cI cJ cZ _ (p1.toInt64) (0 : Int64) ((a0_rows - (1 : Int32)).toInt64) _ h) (va_cwS 3 hts gX9_isRow_X9_in rfl rfl rfl (by decide +kernel) ⟨Nat.le_of_ble_eq_true rfl, Nat.le_of_ble_eq_true rfl⟩) ⟨pre_fb, pre_of hPc hDc hK hN⟩ rfl rfl hl.1 rfl (lv_room (Nat.le_of_ble_eq_true rfl)) dX9_isRow_10 ⟨by first | exact Nat.le_of_ble_eq_true rfl | exact Nat.le_refl _, by first | exact Nat.le_of_ble_eq_true rfl | exact Nat.le_refl _⟩) hS (fun q _ h => hFc q h) hFc (fun r_1 u t H1 locs ht hvm h hB hz1 hk1 hS => ?_)
  obtain ⟨hP1, hD1⟩ := hB
  rw [ht] at hP1
  try dsimp only at h
  obtain ⟨hP, hD⟩ := va_join (wr := [(h_a0, .inr (8, [.int a0_primes, w_a0_prime, w_a0_isNone, .int a0_hasSpan, .long a0_spanFrom, .int a0_spanMany, w_a0_least, w_a0_greatest, w_a0_isSquared, .int a0_hasPart, .long a0_parted, .int a0_partMany, w_a0_partPrime, w_a0_partPower, .int a0_rows, w_a0_row, .long a0_foundLeast, .long a0_foundGreatest, .int a0_foundSquare]))]) (w1 := []) hP hD [] [0] rfl rfl (by decide) (by decide) hk1 hFc hP1 hD1
  generalize H1 = H at hP hS ⊢
  have hP : va_P (dC, dI) vwCl [(h_a0, .inr (8, [.int a0_primes, w_a0_prime, w_a0_isNone, .int a0_hasSpan, .long a0_spanFrom, .int a0_spanMany, w_a0_least, w_a0_greatest, w_a0_isSquared, .int a0_hasPart, .long a0_parted, .int a0_partMany, w_a0_partPrime, w_a0_partPower, .int a0_rows, w_a0_row, .long a0_foundLeast, .long a0_foundGreatest, .int a0_foundSquare]))] H := hP
  have hD : va_D A [(h_a0, .inr (8, [.int a0_primes, w_a0_prime, w_a0_isNone, .int a0_hasSpan, .long a0_spanFrom, .int a0_spanMany, w_a0_least, w_a0_greatest, w_a0_isSquared, .int a0_hasPart, .long a0_parted, .int a0_partMany, w_a0_partPrime, w_a0_partPower, .int a0_rows, w_a0_row, .long a0_foundLeast, .long a0_foundGreatest, .int a0_foundSquare]))] := hD
  obtain ⟨hnr, h⟩ := h
  have hP9 := hP.sub (ws' := [(h_a0, .inr (8, [.int a0_primes, w_a0_prime, w_a0_isNone, .int a0_hasSpan, .long a0_spanFrom, .int a0_spanMany, w_a0_least, w_a0_greatest, w_a0_isSquared, .int a0_hasPart, .long a0_parted, .int a0_partMany, w_a0_partPrime, w_a0_partPower, .int a0_rows, w_a0_row, .long a0_foundLeast, .long a0_foundGreatest, .int a0_foundSquare]))]) [0] rfl
  have hD9 := hD.sub (ws' := [(h_a0, .inr (8, [.int a0_primes, w_a0_prime, w_a0_isNone, .int a0_hasSpan, .long a0_spanFrom, .int a0_spanMany, w_a0_least, w_a0_greatest, w_a0_isSquared, .int a0_hasPart, .long a0_parted, .int a0_partMany, w_a0_partPrime, w_a0_partPower, .int a0_rows, w_a0_row, .long a0_foundLeast, .long a0_foundGreatest, .int a0_foundSquare]))]) [0] (by decide) rfl
  exact W.zret (v := r_1) hx hb hr hnr (fun t ht hW => ⟨⟨_, (), rfl, h, by rw [ht]; exact hP9, hD9⟩, hS.F ht⟩) hS.2.2 dX9_isRow_13
def wp_X9_powered  (p0 : Int64) (p1 : Int32) (Q : Int64 → Prop) : Prop :=
  (∃ (I_5_0 : Int32 → Int64 → Prop) (m_5_0 : Int32 → Int64 → Nat), I_5_0 (0 : Int32) (1 : Int64) ∧ ∀ (l5_5_0 : Int32) (l3_5_0 : Int64), I_5_0 l5_5_0 l3_5_0 → ((p1 ≤ l5_5_0 → Q l3_5_0) ∧ (¬ p1 ≤ l5_5_0 → (∀ x3_3 : Int64, x3_3 = (l3_5_0 * p0) → (∀ x5_4 : Int32, x5_4 = l5_5_0 + (1 : Int32) → (I_5_0 x5_4 x3_3 ∧ m_5_0 x5_4 x3_3 < m_5_0 l5_5_0 l3_5_0))))))
abbrev rm_X9_powered : Room := { frames := 0, cells := 0, slots := 0, locals := 0 }
abbrev qc_X9_powered (dC : Nat → ClassId) (dI : Nat → Nat → Nat) (cI cJ cZ : ClassId)  (Q : Int64 → Prop) (A : Nat → Prop) : Array Value → State → Outcome → State → Prop := va_Ql (fun (r : Int64) (_ : Unit) => Q r) (post_ dC dI A (fun (_ : Unit) => ([] : va_W))) A
set_option maxHeartbeats 4000000 in
set_option maxRecDepth 100000 in
theorem c_X9_powered (l : Launch) (dC : Nat → ClassId) (dI : Nat → Nat → Nat) (cI cJ cZ : ClassId) (sz : Nat)  (p0 : Int64) (p1 : Int32) (Q : Int64 → Prop) (hQ : wp_X9_powered p0 p1 Q) : Met l yX9_powered wsX9_powered rm_X9_powered (pre_ dC dI cI cJ cZ [.long p0, .int p1] ([] : va_W) sz) (qc_X9_powered dC dI cI cJ cZ Q (va_A ([] : va_W) sz)) 0 0 (va_A ([] : va_W) sz) := by
  refine Met.ofW (cc := cX9_powered) (maxL := 6) (ret := (some .long)) (by decide) rfl ?_
  intro p e s m args below meth c s₁ B hml hv
  obtain ⟨rfl, hsz, hP, hK, hN, hD0⟩ := hv
  have hx := B.exec
  have hb := B.bytes
  have hr := B.returns
  have hts := atoms_spec (ws := wsX9_powered) B.pre
  have hown : s.vm.findClass RX9 = some m.cls := findClass_of_methodNamed B.named
  subst hsz
  have hD := hD0.self (sz := s.heap.size)
  generalize hAe : va_A ([] : va_W) s.heap.size = A at hD ⊢
  have hA : ∀ q : Nat, s.heap.size ≤ q → A q := fun q h => by rw [← hAe]; exact Or.inr h
  have hS : va_S A s.heap s.heap [] := va_S.rf
  have hl := lv_entry ([.long p0, .int p1]) (n := 6) (Nat.le_of_ble_eq_true rfl)
  rw [lg_entry_eq]
  generalize (lg_sl ([.long p0, .int p1]) ++ List.replicate (6 - (lg_sl ([.long p0, .int p1])).length) Slot.unset).toArray = ls at hl ⊢
  have hl : lv_has ls 6 [(0, .long p0), (2, .int p1)] := hl
  have h := hQ
  unfold wp_X9_powered at h
  refine lv_lconst (v := (1 : Int64)) hx hb dX9_powered_0 (by decide) ?_
  refine lv_lstore_n (lv' := [(3, .long (1 : Int64)), (0, .long p0), (2, .int p1)]) hx hb dX9_powered_1 rfl hl (by decide) rfl (fun ls hl => ?_)
  refine lv_iconst (v := (0 : Int32)) hx hb dX9_powered_2 (by decide) ?_
  refine lv_istore (lv' := [(5, .int (0 : Int32)), (3, .long (1 : Int64)), (0, .long p0), (2, .int p1)]) hx hb dX9_powered_3 hl (by decide) rfl (fun ls hl => ?_)
  obtain ⟨I_5_0, m_5_0, h0_5_0, hs_5_0⟩ := h
  have key_5_0 : ∀ (n : Nat) (l5_5_0 : Int32) (l3_5_0 : Int64), m_5_0 l5_5_0 l3_5_0 < n → I_5_0 l5_5_0 l3_5_0 → ∀ (ls : Array Slot) (H : Heap) (locs : List Loc), lv_has ls 6 [(5, .int l5_5_0), (3, .long l3_5_0), (0, .long p0), (2, .int p1)] → va_P (dC, dI) vwCl [] H → va_D A [] → va_S A s.heap H locs → W p l e (headSpec wsX9_powered rm_X9_powered).room s m ([.long p0, .int p1] : List Value).toArray below meth c H locs 0 0 (MQ below (qc_X9_powered dC dI cI cJ cZ Q A) ([.long p0, .int p1] : List Value).toArray s 0 0 A) (F0 m 5 ls []) := by
    intro n
    induction n with
    | zero =>
      intro l5_5_0 l3_5_0 hm
      exact absurd hm (Nat.not_lt_zero _)
    | succ n ih_5_0 =>
      intro l5_5_0 l3_5_0 hm_5_0 hI ls H locs hl hP hD hS
      have h := hs_5_0 l5_5_0 l3_5_0 hI
      refine lv_iload hx hb dX9_powered_5 (lv_at hl 0 rfl) ?_
      refine lv_iload_n hx hb dX9_powered_7 rfl (lv_at hl 3 rfl) ?_
      refine lv_icmp_ge (tgt := 21) hx hb dX9_powered_8 (by decide) (fun c_2 => ?_) (fun c_2 => ?_)
      · replace h := h.1 c_2
        refine lv_lload_n hx hb dX9_powered_21 rfl (lv_at hl 1 rfl) ?_
        have hP9 := hP.sub (ws' := []) [] rfl
        have hD9 := hD.sub (ws' := []) [] (by decide) rfl
        exact W.lret (v := l3_5_0) hx hb hr (fun t ht hW => ⟨⟨_, (), rfl, h, by rw [ht]; exact hP9, hD9⟩, hS.F ht⟩) hS.2.2 dX9_powered_22
      · replace h := h.2 c_2
        refine lv_lload_n hx hb dX9_powered_11 rfl (lv_at hl 1 rfl) ?_
        refine lv_lload_n hx hb dX9_powered_12 rfl (lv_at hl 2 rfl) ?_
        refine lv_lmul hx hb dX9_powered_13 ?_
        refine lv_topl (fun x3_3 e_x3_3 => ?_)
        replace h := h x3_3 e_x3_3
        refine lv_lstore_n (lv' := [(3, .long x3_3), (5, .int l5_5_0), (0, .long p0), (2, .int p1)]) hx hb dX9_powered_14 rfl hl (by decide) rfl (fun ls hl => ?_)
        obtain ⟨x5_4, e_x5_4⟩ : ∃ y : Int32, y = l5_5_0 + (1 : Int32) := ⟨_, rfl⟩
        replace h := h x5_4 e_x5_4
        refine lv_iinc (v := x5_4) (lv' := [(5, .int x5_4), (3, .long x3_3), (0, .long p0), (2, .int p1)]) hx hb dX9_powered_15 hl (k := 1) rfl (by rw [e_x5_4]; rfl) (by decide) rfl (fun ls hl => ?_)
        refine lv_goto (tgt := 5) hx hb dX9_powered_18 (by decide) ?_
        exact ih_5_0 x5_4 x3_3 (Nat.lt_of_lt_of_le h.2 (Nat.le_of_lt_succ hm_5_0)) h.1 _ _ _ (lv_sub hl [0, 1, 2, 3] rfl) (hP.sub [] rfl) (hD.sub [] (by decide) rfl) hS
  exact key_5_0 _ (0 : Int32) (1 : Int64) (Nat.lt_succ_self _) h0_5_0 _ _ _ (lv_sub hl [0, 1, 2, 3] rfl) (hP.sub [] rfl) (hD.sub [] (by decide) rfl) hS
def wp_X9_atPower  (p0 : Int32) (p1 : Int64) (p2 : Int32) (Q : Int64 → Prop) : Prop :=
  ((p0 = (0 : Int32) → Q (0 : Int64)) ∧ (p0 = (1 : Int32) → Q (1 : Int64)) ∧ (p0 = (2 : Int32) → wp_X9_powered p1 p2 (fun r_4 => Q r_4)) ∧ (p0 = (3 : Int32) → ((p2 = (1 : Int32) → Q (-1 : Int64)) ∧ (¬ p2 = (1 : Int32) → Q (0 : Int64)))) ∧ (p0 = (4 : Int32) → wp_X9_powered p1 p2 (fun r_8 => wp_X9_powered p1 (p2 - (1 : Int32)) (fun r_9 => Q (r_8 - r_9)))) ∧ (p0 = (5 : Int32) → Q (p2.toInt64 + (1 : Int64))) ∧ (p0 = (6 : Int32) → (∃ (I_100_11 : Int32 → Int64 → Prop) (m_100_11 : Int32 → Int64 → Nat), I_100_11 (0 : Int32) (0 : Int64) ∧ ∀ (l6_100_11 : Int32) (l4_100_11 : Int64), I_100_11 l6_100_11 l4_100_11 → ((p2 < l6_100_11 → Q l4_100_11) ∧ (¬ p2 < l6_100_11 → wp_X9_powered p1 l6_100_11 (fun r_14 => (∀ x4_15 : Int64, x4_15 = (l4_100_11 + r_14) → (∀ x6_16 : Int32, x6_16 = l6_100_11 + (1 : Int32) → (I_100_11 x6_16 x4_15 ∧ m_100_11 x6_16 x4_15 < m_100_11 l6_100_11 l4_100_11)))))))) ∧ (p0 = (7 : Int32) → (((p2 - p2 / (2 : Int32) * (2 : Int32)) = (0 : Int32) → Q (1 : Int64)) ∧ (¬ (p2 - p2 / (2 : Int32) * (2 : Int32)) = (0 : Int32) → Q (-1 : Int64)))) ∧ (p0 = (8 : Int32) → ((p2 = (1 : Int32) → Q (1 : Int64)) ∧ (¬ p2 = (1 : Int32) → Q (0 : Int64)))) ∧ (¬ p0 = (0 : Int32) → ¬ p0 = (1 : Int32) → ¬ p0 = (2 : Int32) → ¬ p0 = (3 : Int32) → ¬ p0 = (4 : Int32) → ¬ p0 = (5 : Int32) → ¬ p0 = (6 : Int32) → ¬ p0 = (7 : Int32) → ¬ p0 = (8 : Int32) → wp_X9_powered p1 ((2 : Int32) * p2) (fun r_21 => Q r_21)))
abbrev rm_X9_atPower : Room := { frames := 1, cells := 0, slots := 0, locals := 25 }
abbrev qc_X9_atPower (dC : Nat → ClassId) (dI : Nat → Nat → Nat) (cI cJ cZ : ClassId)  (Q : Int64 → Prop) (A : Nat → Prop) : Array Value → State → Outcome → State → Prop := va_Ql (fun (r : Int64) (_ : Unit) => Q r) (post_ dC dI A (fun (_ : Unit) => ([] : va_W))) A
set_option maxHeartbeats 4000000 in
set_option maxRecDepth 100000 in
theorem c_X9_atPower (l : Launch) (dC : Nat → ClassId) (dI : Nat → Nat → Nat) (cI cJ cZ : ClassId) (sz : Nat)  (p0 : Int32) (p1 : Int64) (p2 : Int32) (Q : Int64 → Prop) (hQ : wp_X9_atPower p0 p1 p2 Q) : Met l yX9_atPower wsX9_atPower rm_X9_atPower (pre_ dC dI cI cJ cZ [.int p0, .long p1, .int p2] ([] : va_W) sz) (qc_X9_atPower dC dI cI cJ cZ Q (va_A ([] : va_W) sz)) 0 0 (va_A ([] : va_W) sz) := by
  refine Met.ofW (cc := cX9_atPower) (maxL := 7) (ret := (some .long)) (by decide) rfl ?_
  intro p e s m args below meth c s₁ B hml hv
  obtain ⟨rfl, hsz, hP, hK, hN, hD0⟩ := hv
  have hx := B.exec
  have hb := B.bytes
  have hr := B.returns
  have hts := atoms_spec (ws := wsX9_atPower) B.pre
  have hown : s.vm.findClass RX9 = some m.cls := findClass_of_methodNamed B.named
  subst hsz
  have hD := hD0.self (sz := s.heap.size)
  generalize hAe : va_A ([] : va_W) s.heap.size = A at hD ⊢
  have hA : ∀ q : Nat, s.heap.size ≤ q → A q := fun q h => by rw [← hAe]; exact Or.inr h
  have hS : va_S A s.heap s.heap [] := va_S.rf
  have hl := lv_entry ([.int p0, .long p1, .int p2]) (n := 7) (Nat.le_of_ble_eq_true rfl)
  rw [lg_entry_eq]
  generalize (lg_sl ([.int p0, .long p1, .int p2]) ++ List.replicate (7 - (lg_sl ([.int p0, .long p1, .int p2])).length) Slot.unset).toArray = ls at hl ⊢
  have hl : lv_has ls 7 [(0, .int p0), (1, .long p1), (3, .int p2)] := hl
  have h := hQ
  unfold wp_X9_atPower at h
  have hw_0 := hts (.constantLong RX9 92 (-1)) (by decide +kernel)
  refine lv_iload_n hx hb dX9_atPower_0 rfl (lv_at hl 0 rfl) ?_
  by_cases c_1 : p0 = (0 : Int32)
  · refine lv_tableIn (off := 51) (tgt := 52) hx hb dX9_atPower_1 (by rw [c_1]; decide) (by rw [c_1]; decide) (by rw [c_1]; rfl) (by decide) ?_
    replace h := h.1 c_1
    refine lv_lconst (v := (0 : Int64)) hx hb dX9_atPower_52 (by decide) ?_
    have hP9 := hP.sub (ws' := []) [] rfl
    have hD9 := hD.sub (ws' := []) [] (by decide) rfl
    exact W.lret (v := (0 : Int64)) hx hb hr (fun t ht hW => ⟨⟨_, (), rfl, h, by rw [ht]; exact hP9, hD9⟩, hS.F ht⟩) hS.2.2 dX9_atPower_53
  by_cases c_2 : p0 = (1 : Int32)
  · refine lv_tableIn (off := 53) (tgt := 54) hx hb dX9_atPower_1 (by rw [c_2]; decide) (by rw [c_2]; decide) (by rw [c_2]; rfl) (by decide) ?_
    replace h := h.2.1 c_2
    refine lv_lconst (v := (1 : Int64)) hx hb dX9_atPower_54 (by decide) ?_
    have hP9 := hP.sub (ws' := []) [] rfl
    have hD9 := hD.sub (ws' := []) [] (by decide) rfl
    exact W.lret (v := (1 : Int64)) hx hb hr (fun t ht hW => ⟨⟨_, (), rfl, h, by rw [ht]; exact hP9, hD9⟩, hS.F ht⟩) hS.2.2 dX9_atPower_55
  by_cases c_3 : p0 = (2 : Int32)
  · refine lv_tableIn (off := 55) (tgt := 56) hx hb dX9_atPower_1 (by rw [c_3]; decide) (by rw [c_3]; decide) (by rw [c_3]; rfl) (by decide) ?_
    replace h := h.2.2.1 c_3
    refine lv_lload_n hx hb dX9_atPower_56 rfl (lv_at hl 1 rfl) ?_
    refine lv_iload_n hx hb dX9_atPower_57 rfl (lv_at hl 2 rfl) ?_
    have hPc := hP.sub (ws' := []) [] rfl
    have hDc := hD.sub (ws' := []) [] (by decide) rfl
    have hFc := va_free (wc := []) hD hS hA [] rfl
    refine va_calll (va_runS (As := [.long p1, .int p2]) (rest := []) ⟨hx, hb, hml, hown, hts⟩ (c_X9_powered l dC dI cI cJ cZ _ p1 p2 _ h) (va_cwS 2 hts gX9_atPower_X9_powered rfl rfl rfl (by decide +kernel) ⟨Nat.le_of_ble_eq_true rfl, Nat.le_of_ble_eq_true rfl⟩) ⟨pre_fb, pre_of hPc hDc hK hN⟩ rfl rfl hl.1 rfl (lv_room (Nat.le_of_ble_eq_true rfl)) dX9_atPower_58 ⟨by first | exact Nat.le_of_ble_eq_true rfl | exact Nat.le_refl _, by first | exact Nat.le_of_ble_eq_true rfl | exact Nat.le_refl _⟩) hS (fun q _ h => hFc q h) hFc (fun r_4 u t H1 locs ht hvm h hB hz1 hk1 hS => ?_)
    obtain ⟨hP1, hD1⟩ := hB
    rw [ht] at hP1
    try dsimp only at h
    obtain ⟨hP, hD⟩ := va_join (wr := []) (w1 := []) hP hD [] [] rfl rfl (by decide) (by decide) hk1 hFc hP1 hD1
    generalize H1 = H at hP hS ⊢
    have hP : va_P (dC, dI) vwCl [] H := hP
    have hD : va_D A [] := hD
    have hP9 := hP.sub (ws' := []) [] rfl
    have hD9 := hD.sub (ws' := []) [] (by decide) rfl
    exact W.lret (v := r_4) hx hb hr (fun t ht hW => ⟨⟨_, (), rfl, h, by rw [ht]; exact hP9, hD9⟩, hS.F ht⟩) hS.2.2 dX9_atPower_61
  by_cases c_5 : p0 = (3 : Int32)
  · refine lv_tableIn (off := 61) (tgt := 62) hx hb dX9_atPower_1 (by rw [c_5]; decide) (by rw [c_5]; decide) (by rw [c_5]; rfl) (by decide) ?_
    replace h := h.2.2.2.1 c_5
    refine lv_iload_n hx hb dX9_atPower_62 rfl (lv_at hl 2 rfl) ?_
    refine lv_iconst (v := (1 : Int32)) hx hb dX9_atPower_63 (by decide) ?_
    refine lv_icmp_ne (tgt := 73) hx hb dX9_atPower_64 (by decide) (fun c_6 => ?_) (fun c_6 => ?_)
    · replace h := h.2 c_6
      refine lv_lconst (v := (0 : Int64)) hx hb dX9_atPower_73 (by decide) ?_
      have hP9 := hP.sub (ws' := []) [] rfl
      have hD9 := hD.sub (ws' := []) [] (by decide) rfl
      exact W.lret (v := (0 : Int64)) hx hb hr (fun t ht hW => ⟨⟨_, (), rfl, h, by rw [ht]; exact hP9, hD9⟩, hS.F ht⟩) hS.2.2 dX9_atPower_74
    · replace h := h.1 c_6
      refine lv_ldc2 hx hb hown hw_0 dX9_atPower_67 ?_
      refine lv_goto (tgt := 74) hx hb dX9_atPower_70 (by decide) ?_
      have hP9 := hP.sub (ws' := []) [] rfl
      have hD9 := hD.sub (ws' := []) [] (by decide) rfl
      exact W.lret (v := (-1 : Int64)) hx hb hr (fun t ht hW => ⟨⟨_, (), rfl, h, by rw [ht]; exact hP9, hD9⟩, hS.F ht⟩) hS.2.2 dX9_atPower_74
  by_cases c_7 : p0 = (4 : Int32)
  · refine lv_tableIn (off := 74) (tgt := 75) hx hb dX9_atPower_1 (by rw [c_7]; decide) (by rw [c_7]; decide) (by rw [c_7]; rfl) (by decide) ?_
    replace h := h.2.2.2.2.1 c_7
    refine lv_lload_n hx hb dX9_atPower_75 rfl (lv_at hl 1 rfl) ?_
    refine lv_iload_n hx hb dX9_atPower_76 rfl (lv_at hl 2 rfl) ?_
    have hPc := hP.sub (ws' := []) [] rfl
    have hDc := hD.sub (ws' := []) [] (by decide) rfl
    have hFc := va_free (wc := []) hD hS hA [] rfl
    refine va_calll (va_runS (As := [.long p1, .int p2]) (rest := []) ⟨hx, hb, hml, hown, hts⟩ (c_X9_powered l dC dI cI cJ cZ _ p1 p2 _ h) (va_cwS 2 hts gX9_atPower_X9_powered rfl rfl rfl (by decide +kernel) ⟨Nat.le_of_ble_eq_true rfl, Nat.le_of_ble_eq_true rfl⟩) ⟨pre_fb, pre_of hPc hDc hK hN⟩ rfl rfl hl.1 rfl (lv_room (Nat.le_of_ble_eq_true rfl)) dX9_atPower_77 ⟨by first | exact Nat.le_of_ble_eq_true rfl | exact Nat.le_refl _, by first | exact Nat.le_of_ble_eq_true rfl | exact Nat.le_refl _⟩) hS (fun q _ h => hFc q h) hFc (fun r_8 u t H1 locs ht hvm h hB hz1 hk1 hS => ?_)
    obtain ⟨hP1, hD1⟩ := hB
    rw [ht] at hP1
    try dsimp only at h
    obtain ⟨hP, hD⟩ := va_join (wr := []) (w1 := []) hP hD [] [] rfl rfl (by decide) (by decide) hk1 hFc hP1 hD1
    generalize H1 = H at hP hS ⊢
    have hP : va_P (dC, dI) vwCl [] H := hP
    have hD : va_D A [] := hD
    refine lv_lload_n hx hb dX9_atPower_80 rfl (lv_at hl 1 rfl) ?_
    refine lv_iload_n hx hb dX9_atPower_81 rfl (lv_at hl 2 rfl) ?_
    refine lv_iconst (v := (1 : Int32)) hx hb dX9_atPower_82 (by decide) ?_
    refine lv_isub hx hb dX9_atPower_83 ?_
    have hPc := hP.sub (ws' := []) [] rfl
    have hDc := hD.sub (ws' := []) [] (by decide) rfl
    have hFc := va_free (wc := []) hD hS hA [] rfl
    refine va_calll (va_runS (As := [.long p1, .int (p2 - (1 : Int32))]) (rest := [.long r_8]) ⟨hx, hb, hml, hown, hts⟩ (c_X9_powered l dC dI cI cJ cZ _ p1 (p2 - (1 : Int32)) _ h) (va_cwS 2 hts gX9_atPower_X9_powered rfl rfl rfl (by decide +kernel) ⟨Nat.le_of_ble_eq_true rfl, Nat.le_of_ble_eq_true rfl⟩) ⟨pre_fb, pre_of hPc hDc hK hN⟩ rfl rfl hl.1 rfl (lv_room (Nat.le_of_ble_eq_true rfl)) dX9_atPower_84 ⟨by first | exact Nat.le_of_ble_eq_true rfl | exact Nat.le_refl _, by first | exact Nat.le_of_ble_eq_true rfl | exact Nat.le_refl _⟩) hS (fun q _ h => hFc q h) hFc (fun r_9 u t H1 locs ht hvm h hB hz1 hk1 hS => ?_)
    obtain ⟨hP1, hD1⟩ := hB
    rw [ht] at hP1
    try dsimp only at h
    obtain ⟨hP, hD⟩ := va_join (wr := []) (w1 := []) hP hD [] [] rfl rfl (by decide) (by decide) hk1 hFc hP1 hD1
    generalize H1 = H at hP hS ⊢
    have hP : va_P (dC, dI) vwCl [] H := hP
    have hD : va_D A [] := hD
    refine lv_lsub hx hb dX9_atPower_87 ?_
    have hP9 := hP.sub (ws' := []) [] rfl
    have hD9 := hD.sub (ws' := []) [] (by decide) rfl
    exact W.lret (v := (r_8 - r_9)) hx hb hr (fun t ht hW => ⟨⟨_, (), rfl, h, by rw [ht]; exact hP9, hD9⟩, hS.F ht⟩) hS.2.2 dX9_atPower_88
  by_cases c_10 : p0 = (5 : Int32)
  · refine lv_tableIn (off := 88) (tgt := 89) hx hb dX9_atPower_1 (by rw [c_10]; decide) (by rw [c_10]; decide) (by rw [c_10]; rfl) (by decide) ?_
    replace h := h.2.2.2.2.2.1 c_10
    refine lv_iload_n hx hb dX9_atPower_89 rfl (lv_at hl 2 rfl) ?_
    refine lv_i2l hx hb dX9_atPower_90 rfl ?_
    refine lv_lconst (v := (1 : Int64)) hx hb dX9_atPower_91 (by decide) ?_
    refine lv_ladd hx hb dX9_atPower_92 ?_
    have hP9 := hP.sub (ws' := []) [] rfl
    have hD9 := hD.sub (ws' := []) [] (by decide) rfl
    exact W.lret (v := (p2.toInt64 + (1 : Int64))) hx hb hr (fun t ht hW => ⟨⟨_, (), rfl, h, by rw [ht]; exact hP9, hD9⟩, hS.F ht⟩) hS.2.2 dX9_atPower_93
  by_cases c_11 : p0 = (6 : Int32)
  · refine lv_tableIn (off := 93) (tgt := 94) hx hb dX9_atPower_1 (by rw [c_11]; decide) (by rw [c_11]; decide) (by rw [c_11]; rfl) (by decide) ?_
    replace h := h.2.2.2.2.2.2.1 c_11
    refine lv_lconst (v := (0 : Int64)) hx hb dX9_atPower_94 (by decide) ?_
    refine lv_lstore (lv' := [(4, .long (0 : Int64)), (0, .int p0), (1, .long p1), (3, .int p2)]) hx hb dX9_atPower_95 hl (by decide) rfl (fun ls hl => ?_)
    refine lv_iconst (v := (0 : Int32)) hx hb dX9_atPower_97 (by decide) ?_
    refine lv_istore (lv' := [(6, .int (0 : Int32)), (4, .long (0 : Int64)), (0, .int p0), (1, .long p1), (3, .int p2)]) hx hb dX9_atPower_98 hl (by decide) rfl (fun ls hl => ?_)
    obtain ⟨I_100_11, m_100_11, h0_100_11, hs_100_11⟩ := h
    have key_100_11 : ∀ (n : Nat) (l6_100_11 : Int32) (l4_100_11 : Int64), m_100_11 l6_100_11 l4_100_11 < n → I_100_11 l6_100_11 l4_100_11 → ∀ (ls : Array Slot) (H : Heap) (locs : List Loc), lv_has ls 7 [(6, .int l6_100_11), (4, .long l4_100_11), (1, .long p1), (3, .int p2)] → va_P (dC, dI) vwCl [] H → va_D A [] → va_S A s.heap H locs → W p l e (headSpec wsX9_atPower rm_X9_atPower).room s m ([.int p0, .long p1, .int p2] : List Value).toArray below meth c H locs 0 0 (MQ below (qc_X9_atPower dC dI cI cJ cZ Q A) ([.int p0, .long p1, .int p2] : List Value).toArray s 0 0 A) (F0 m 100 ls []) := by
      intro n
      induction n with
      | zero =>
        intro l6_100_11 l4_100_11 hm
        exact absurd hm (Nat.not_lt_zero _)
      | succ n ih_100_11 =>
        intro l6_100_11 l4_100_11 hm_100_11 hI ls H locs hl hP hD hS
        have h := hs_100_11 l6_100_11 l4_100_11 hI
        refine lv_iload hx hb dX9_atPower_100 (lv_at hl 0 rfl) ?_
        refine lv_iload_n hx hb dX9_atPower_102 rfl (lv_at hl 3 rfl) ?_
        refine lv_icmp_gt (tgt := 123) hx hb dX9_atPower_103 (by decide) (fun c_13 => ?_) (fun c_13 => ?_)
        · replace h := h.1 c_13
          refine lv_lload hx hb dX9_atPower_123 (lv_at hl 1 rfl) ?_
          have hP9 := hP.sub (ws' := []) [] rfl
          have hD9 := hD.sub (ws' := []) [] (by decide) rfl
          exact W.lret (v := l4_100_11) hx hb hr (fun t ht hW => ⟨⟨_, (), rfl, h, by rw [ht]; exact hP9, hD9⟩, hS.F ht⟩) hS.2.2 dX9_atPower_125
        · replace h := h.2 c_13
          refine lv_lload hx hb dX9_atPower_106 (lv_at hl 1 rfl) ?_
          refine lv_lload_n hx hb dX9_atPower_108 rfl (lv_at hl 2 rfl) ?_
          refine lv_iload hx hb dX9_atPower_109 (lv_at hl 0 rfl) ?_
          have hPc := hP.sub (ws' := []) [] rfl
          have hDc := hD.sub (ws' := []) [] (by decide) rfl
          have hFc := va_free (wc := []) hD hS hA [] rfl
          refine va_calll (va_runS (As := [.long p1, .int l6_100_11]) (rest := [.long l4_100_11]) ⟨hx, hb, hml, hown, hts⟩ (c_X9_powered l dC dI cI cJ cZ _ p1 l6_100_11 _ h) (va_cwS 2 hts gX9_atPower_X9_powered rfl rfl rfl (by decide +kernel) ⟨Nat.le_of_ble_eq_true rfl, Nat.le_of_ble_eq_true rfl⟩) ⟨pre_fb, pre_of hPc hDc hK hN⟩ rfl rfl hl.1 rfl (lv_room (Nat.le_of_ble_eq_true rfl)) dX9_atPower_111 ⟨by first | exact Nat.le_of_ble_eq_true rfl | exact Nat.le_refl _, by first | exact Nat.le_of_ble_eq_true rfl | exact Nat.le_refl _⟩) hS (fun q _ h => hFc q h) hFc (fun r_14 u t H1 locs ht hvm h hB hz1 hk1 hS => ?_)
          obtain ⟨hP1, hD1⟩ := hB
          rw [ht] at hP1
          try dsimp only at h
          obtain ⟨hP, hD⟩ := va_join (wr := []) (w1 := []) hP hD [] [] rfl rfl (by decide) (by decide) hk1 hFc hP1 hD1
          generalize H1 = H at hP hS ⊢
          have hP : va_P (dC, dI) vwCl [] H := hP
          have hD : va_D A [] := hD
          refine lv_ladd hx hb dX9_atPower_114 ?_
          refine lv_topl (fun x4_15 e_x4_15 => ?_)
          replace h := h x4_15 e_x4_15
          refine lv_lstore (lv' := [(4, .long x4_15), (6, .int l6_100_11), (1, .long p1), (3, .int p2)]) hx hb dX9_atPower_115 hl (by decide) rfl (fun ls hl => ?_)
          obtain ⟨x6_16, e_x6_16⟩ : ∃ y : Int32, y = l6_100_11 + (1 : Int32) := ⟨_, rfl⟩
          replace h := h x6_16 e_x6_16
          refine lv_iinc (v := x6_16) (lv' := [(6, .int x6_16), (4, .long x4_15), (1, .long p1), (3, .int p2)]) hx hb dX9_atPower_117 hl (k := 1) rfl (by rw [e_x6_16]; rfl) (by decide) rfl (fun ls hl => ?_)
          refine lv_goto (tgt := 100) hx hb dX9_atPower_120 (by decide) ?_
          exact ih_100_11 x6_16 x4_15 (Nat.lt_of_lt_of_le h.2 (Nat.le_of_lt_succ hm_100_11)) h.1 _ _ _ (lv_sub hl [0, 1, 2, 3] rfl) (hP.sub [] rfl) (hD.sub [] (by decide) rfl) hS
    exact key_100_11 _ (0 : Int32) (0 : Int64) (Nat.lt_succ_self _) h0_100_11 _ _ _ (lv_sub hl [0, 1, 3, 4] rfl) (hP.sub [] rfl) (hD.sub [] (by decide) rfl) hS
  by_cases c_17 : p0 = (7 : Int32)
  · refine lv_tableIn (off := 125) (tgt := 126) hx hb dX9_atPower_1 (by rw [c_17]; decide) (by rw [c_17]; decide) (by rw [c_17]; rfl) (by decide) ?_
    replace h := h.2.2.2.2.2.2.2.1 c_17
    refine lv_iload_n hx hb dX9_atPower_126 rfl (lv_at hl 2 rfl) ?_
    refine lv_iconst (v := (2 : Int32)) hx hb dX9_atPower_127 (by decide) ?_
    refine lv_irem hx hb dX9_atPower_128 (by decide) ?_
    refine lv_if_ne (tgt := 136) hx hb dX9_atPower_129 (by decide) (fun c_18 => ?_) (fun c_18 => ?_)
    · replace h := h.2 c_18
      refine lv_ldc2 hx hb hown hw_0 dX9_atPower_136 ?_
      have hP9 := hP.sub (ws' := []) [] rfl
      have hD9 := hD.sub (ws' := []) [] (by decide) rfl
      exact W.lret (v := (-1 : Int64)) hx hb hr (fun t ht hW => ⟨⟨_, (), rfl, h, by rw [ht]; exact hP9, hD9⟩, hS.F ht⟩) hS.2.2 dX9_atPower_139
    · replace h := h.1 c_18
      refine lv_lconst (v := (1 : Int64)) hx hb dX9_atPower_132 (by decide) ?_
      refine lv_goto (tgt := 139) hx hb dX9_atPower_133 (by decide) ?_
      have hP9 := hP.sub (ws' := []) [] rfl
      have hD9 := hD.sub (ws' := []) [] (by decide) rfl
      exact W.lret (v := (1 : Int64)) hx hb hr (fun t ht hW => ⟨⟨_, (), rfl, h, by rw [ht]; exact hP9, hD9⟩, hS.F ht⟩) hS.2.2 dX9_atPower_139
  by_cases c_19 : p0 = (8 : Int32)
  · refine lv_tableIn (off := 139) (tgt := 140) hx hb dX9_atPower_1 (by rw [c_19]; decide) (by rw [c_19]; decide) (by rw [c_19]; rfl) (by decide) ?_
    replace h := h.2.2.2.2.2.2.2.2.1 c_19
    refine lv_iload_n hx hb dX9_atPower_140 rfl (lv_at hl 2 rfl) ?_
    refine lv_iconst (v := (1 : Int32)) hx hb dX9_atPower_141 (by decide) ?_
    refine lv_icmp_ne (tgt := 149) hx hb dX9_atPower_142 (by decide) (fun c_20 => ?_) (fun c_20 => ?_)
    · replace h := h.2 c_20
      refine lv_lconst (v := (0 : Int64)) hx hb dX9_atPower_149 (by decide) ?_
      have hP9 := hP.sub (ws' := []) [] rfl
      have hD9 := hD.sub (ws' := []) [] (by decide) rfl
      exact W.lret (v := (0 : Int64)) hx hb hr (fun t ht hW => ⟨⟨_, (), rfl, h, by rw [ht]; exact hP9, hD9⟩, hS.F ht⟩) hS.2.2 dX9_atPower_150
    · replace h := h.1 c_20
      refine lv_lconst (v := (1 : Int64)) hx hb dX9_atPower_145 (by decide) ?_
      refine lv_goto (tgt := 150) hx hb dX9_atPower_146 (by decide) ?_
      have hP9 := hP.sub (ws' := []) [] rfl
      have hD9 := hD.sub (ws' := []) [] (by decide) rfl
      exact W.lret (v := (1 : Int64)) hx hb hr (fun t ht hW => ⟨⟨_, (), rfl, h, by rw [ht]; exact hP9, hD9⟩, hS.F ht⟩) hS.2.2 dX9_atPower_150
  have t0 : p0.toInt ≠ 0 := fun q => c_1 (Int32.toInt_inj.mp (q.trans (by decide)))
  have t1 : p0.toInt ≠ 1 := fun q => c_2 (Int32.toInt_inj.mp (q.trans (by decide)))
  have t2 : p0.toInt ≠ 2 := fun q => c_3 (Int32.toInt_inj.mp (q.trans (by decide)))
  have t3 : p0.toInt ≠ 3 := fun q => c_5 (Int32.toInt_inj.mp (q.trans (by decide)))
  have t4 : p0.toInt ≠ 4 := fun q => c_7 (Int32.toInt_inj.mp (q.trans (by decide)))
  have t5 : p0.toInt ≠ 5 := fun q => c_10 (Int32.toInt_inj.mp (q.trans (by decide)))
  have t6 : p0.toInt ≠ 6 := fun q => c_11 (Int32.toInt_inj.mp (q.trans (by decide)))
  have t7 : p0.toInt ≠ 7 := fun q => c_17 (Int32.toInt_inj.mp (q.trans (by decide)))
  have t8 : p0.toInt ≠ 8 := fun q => c_19 (Int32.toInt_inj.mp (q.trans (by decide)))
  refine lv_tableOut (tgt := 151) hx hb dX9_atPower_1 (by omega) (by decide) ?_
  replace h := h.2.2.2.2.2.2.2.2.2 c_1 c_2 c_3 c_5 c_7 c_10 c_11 c_17 c_19
  refine lv_lload_n hx hb dX9_atPower_151 rfl (lv_at hl 1 rfl) ?_
  refine lv_iconst (v := (2 : Int32)) hx hb dX9_atPower_152 (by decide) ?_
  refine lv_iload_n hx hb dX9_atPower_153 rfl (lv_at hl 2 rfl) ?_
  refine lv_imul hx hb dX9_atPower_154 ?_
  have hPc := hP.sub (ws' := []) [] rfl
  have hDc := hD.sub (ws' := []) [] (by decide) rfl
  have hFc := va_free (wc := []) hD hS hA [] rfl
  refine va_calll (va_runS (As := [.long p1, .int ((2 : Int32) * p2)]) (rest := []) ⟨hx, hb, hml, hown, hts⟩ (c_X9_powered l dC dI cI cJ cZ _ p1 ((2 : Int32) * p2) _ h) (va_cwS 2 hts gX9_atPower_X9_powered rfl rfl rfl (by decide +kernel) ⟨Nat.le_of_ble_eq_true rfl, Nat.le_of_ble_eq_true rfl⟩) ⟨pre_fb, pre_of hPc hDc hK hN⟩ rfl rfl hl.1 rfl (lv_room (Nat.le_of_ble_eq_true rfl)) dX9_atPower_155 ⟨by first | exact Nat.le_of_ble_eq_true rfl | exact Nat.le_refl _, by first | exact Nat.le_of_ble_eq_true rfl | exact Nat.le_refl _⟩) hS (fun q _ h => hFc q h) hFc (fun r_21 u t H1 locs ht hvm h hB hz1 hk1 hS => ?_)
  obtain ⟨hP1, hD1⟩ := hB
  rw [ht] at hP1
  try dsimp only at h
  obtain ⟨hP, hD⟩ := va_join (wr := []) (w1 := []) hP hD [] [] rfl rfl (by decide) (by decide) hk1 hFc hP1 hD1
  generalize H1 = H at hP hS ⊢
  have hP : va_P (dC, dI) vwCl [] H := hP
  have hD : va_D A [] := hD
  have hP9 := hP.sub (ws' := []) [] rfl
  have hD9 := hD.sub (ws' := []) [] (by decide) rfl
  exact W.lret (v := r_21) hx hb hr (fun t ht hW => ⟨⟨_, (), rfl, h, by rw [ht]; exact hP9, hD9⟩, hS.F ht⟩) hS.2.2 dX9_atPower_158
def wp_X9_byRule  (p0 : Int32) (p1 : Int32) (Q : Int64 → Prop) : Prop :=
  (∃ (I_8_0 : Int32 → Int32 → Int64 → Prop) (m_8_0 : Int32 → Int32 → Int64 → Nat), I_8_0 (2 : Int32) p1 (1 : Int64) ∧ ∀ (l5_8_0 : Int32) (l4_8_0 : Int32) (l2_8_0 : Int64), I_8_0 l5_8_0 l4_8_0 l2_8_0 → ((l4_8_0 < l5_8_0 → Q l2_8_0) ∧ (¬ l4_8_0 < l5_8_0 → (∃ (I_18_2 : Int32 → Int32 → Prop) (m_18_2 : Int32 → Int32 → Nat), I_18_2 (0 : Int32) l4_8_0 ∧ ∀ (l6_18_2 : Int32) (l4_18_2 : Int32), I_18_2 l6_18_2 l4_18_2 → (¬ l5_8_0 = 0 ∧ (((l4_18_2 - l4_18_2 / l5_8_0 * l5_8_0) = (0 : Int32) → (¬ l5_8_0 = 0 ∧ (∀ x4_12 : Int32, x4_12 = (l4_18_2 / l5_8_0) → (∀ x6_13 : Int32, x6_13 = l6_18_2 + (1 : Int32) → (I_18_2 x6_13 x4_12 ∧ m_18_2 x6_13 x4_12 < m_18_2 l6_18_2 l4_18_2))))) ∧ (¬ (l4_18_2 - l4_18_2 / l5_8_0 * l5_8_0) = (0 : Int32) → ((l6_18_2 ≤ (0 : Int32) → (∀ x5_7 : Int32, x5_7 = l5_8_0 + (1 : Int32) → (I_8_0 x5_7 l4_18_2 l2_8_0 ∧ m_8_0 x5_7 l4_18_2 l2_8_0 < m_8_0 l5_8_0 l4_8_0 l2_8_0))) ∧ (¬ l6_18_2 ≤ (0 : Int32) → wp_X9_atPower p0 (l5_8_0.toInt64) l6_18_2 (fun r_8 => (∀ x2_9 : Int64, x2_9 = (l2_8_0 * r_8) → (∀ x5_10 : Int32, x5_10 = l5_8_0 + (1 : Int32) → (I_8_0 x5_10 l4_18_2 x2_9 ∧ m_8_0 x5_10 l4_18_2 x2_9 < m_8_0 l5_8_0 l4_8_0 l2_8_0)))))))))))))
abbrev rm_X9_byRule : Room := { frames := 2, cells := 0, slots := 0, locals := 51 }
abbrev qc_X9_byRule (dC : Nat → ClassId) (dI : Nat → Nat → Nat) (cI cJ cZ : ClassId)  (Q : Int64 → Prop) (A : Nat → Prop) : Array Value → State → Outcome → State → Prop := va_Ql (fun (r : Int64) (_ : Unit) => Q r) (post_ dC dI A (fun (_ : Unit) => ([] : va_W))) A
set_option maxHeartbeats 4000000 in
set_option maxRecDepth 100000 in
theorem c_X9_byRule (l : Launch) (dC : Nat → ClassId) (dI : Nat → Nat → Nat) (cI cJ cZ : ClassId) (sz : Nat)  (p0 : Int32) (p1 : Int32) (Q : Int64 → Prop) (hQ : wp_X9_byRule p0 p1 Q) : Met l yX9_byRule wsX9_byRule rm_X9_byRule (pre_ dC dI cI cJ cZ [.int p0, .int p1] ([] : va_W) sz) (qc_X9_byRule dC dI cI cJ cZ Q (va_A ([] : va_W) sz)) 0 0 (va_A ([] : va_W) sz) := by
  refine Met.ofW (cc := cX9_byRule) (maxL := 7) (ret := (some .long)) (by decide) rfl ?_
  intro p e s m args below meth c s₁ B hml hv
  obtain ⟨rfl, hsz, hP, hK, hN, hD0⟩ := hv
  have hx := B.exec
  have hb := B.bytes
  have hr := B.returns
  have hts := atoms_spec (ws := wsX9_byRule) B.pre
  have hown : s.vm.findClass RX9 = some m.cls := findClass_of_methodNamed B.named
  subst hsz
  have hD := hD0.self (sz := s.heap.size)
  generalize hAe : va_A ([] : va_W) s.heap.size = A at hD ⊢
  have hA : ∀ q : Nat, s.heap.size ≤ q → A q := fun q h => by rw [← hAe]; exact Or.inr h
  have hS : va_S A s.heap s.heap [] := va_S.rf
  have hl := lv_entry ([.int p0, .int p1]) (n := 7) (Nat.le_of_ble_eq_true rfl)
  rw [lg_entry_eq]
  generalize (lg_sl ([.int p0, .int p1]) ++ List.replicate (7 - (lg_sl ([.int p0, .int p1])).length) Slot.unset).toArray = ls at hl ⊢
  have hl : lv_has ls 7 [(0, .int p0), (1, .int p1)] := hl
  have h := hQ
  unfold wp_X9_byRule at h
  refine lv_lconst (v := (1 : Int64)) hx hb dX9_byRule_0 (by decide) ?_
  refine lv_lstore_n (lv' := [(2, .long (1 : Int64)), (0, .int p0), (1, .int p1)]) hx hb dX9_byRule_1 rfl hl (by decide) rfl (fun ls hl => ?_)
  refine lv_iload_n hx hb dX9_byRule_2 rfl (lv_at hl 2 rfl) ?_
  refine lv_istore (lv' := [(4, .int p1), (2, .long (1 : Int64)), (0, .int p0), (1, .int p1)]) hx hb dX9_byRule_3 hl (by decide) rfl (fun ls hl => ?_)
  refine lv_iconst (v := (2 : Int32)) hx hb dX9_byRule_5 (by decide) ?_
  refine lv_istore (lv' := [(5, .int (2 : Int32)), (4, .int p1), (2, .long (1 : Int64)), (0, .int p0), (1, .int p1)]) hx hb dX9_byRule_6 hl (by decide) rfl (fun ls hl => ?_)
  obtain ⟨I_8_0, m_8_0, h0_8_0, hs_8_0⟩ := h
  have key_8_0 : ∀ (n : Nat) (l5_8_0 : Int32) (l4_8_0 : Int32) (l2_8_0 : Int64), m_8_0 l5_8_0 l4_8_0 l2_8_0 < n → I_8_0 l5_8_0 l4_8_0 l2_8_0 → ∀ (ls : Array Slot) (H : Heap) (locs : List Loc), lv_has ls 7 [(5, .int l5_8_0), (4, .int l4_8_0), (2, .long l2_8_0), (0, .int p0)] → va_P (dC, dI) vwCl [] H → va_D A [] → va_S A s.heap H locs → W p l e (headSpec wsX9_byRule rm_X9_byRule).room s m ([.int p0, .int p1] : List Value).toArray below meth c H locs 0 0 (MQ below (qc_X9_byRule dC dI cI cJ cZ Q A) ([.int p0, .int p1] : List Value).toArray s 0 0 A) (F0 m 8 ls []) := by
    intro n
    induction n with
    | zero =>
      intro l5_8_0 l4_8_0 l2_8_0 hm
      exact absurd hm (Nat.not_lt_zero _)
    | succ n ih_8_0 =>
      intro l5_8_0 l4_8_0 l2_8_0 hm_8_0 hI ls H locs hl hP hD hS
      have h := hs_8_0 l5_8_0 l4_8_0 l2_8_0 hI
      refine lv_iload hx hb dX9_byRule_8 (lv_at hl 0 rfl) ?_
      refine lv_iload hx hb dX9_byRule_10 (lv_at hl 1 rfl) ?_
      refine lv_icmp_gt (tgt := 62) hx hb dX9_byRule_12 (by decide) (fun c_2 => ?_) (fun c_2 => ?_)
      · replace h := h.1 c_2
        refine lv_lload_n hx hb dX9_byRule_62 rfl (lv_at hl 2 rfl) ?_
        have hP9 := hP.sub (ws' := []) [] rfl
        have hD9 := hD.sub (ws' := []) [] (by decide) rfl
        exact W.lret (v := l2_8_0) hx hb hr (fun t ht hW => ⟨⟨_, (), rfl, h, by rw [ht]; exact hP9, hD9⟩, hS.F ht⟩) hS.2.2 dX9_byRule_63
      · replace h := h.2 c_2
        refine lv_iconst (v := (0 : Int32)) hx hb dX9_byRule_15 (by decide) ?_
        refine lv_istore (lv' := [(6, .int (0 : Int32)), (5, .int l5_8_0), (4, .int l4_8_0), (2, .long l2_8_0), (0, .int p0)]) hx hb dX9_byRule_16 hl (by decide) rfl (fun ls hl => ?_)
        obtain ⟨I_18_2, m_18_2, h0_18_2, hs_18_2⟩ := h
        have key_18_2 : ∀ (n : Nat) (l6_18_2 : Int32) (l4_18_2 : Int32), m_18_2 l6_18_2 l4_18_2 < n → I_18_2 l6_18_2 l4_18_2 → ∀ (ls : Array Slot) (H : Heap) (locs : List Loc), lv_has ls 7 [(6, .int l6_18_2), (5, .int l5_8_0), (4, .int l4_18_2), (2, .long l2_8_0), (0, .int p0)] → va_P (dC, dI) vwCl [] H → va_D A [] → va_S A s.heap H locs → W p l e (headSpec wsX9_byRule rm_X9_byRule).room s m ([.int p0, .int p1] : List Value).toArray below meth c H locs 0 0 (MQ below (qc_X9_byRule dC dI cI cJ cZ Q A) ([.int p0, .int p1] : List Value).toArray s 0 0 A) (F0 m 18 ls []) := by
          intro n
          induction n with
          | zero =>
            intro l6_18_2 l4_18_2 hm
            exact absurd hm (Nat.not_lt_zero _)
          | succ n ih_18_2 =>
            intro l6_18_2 l4_18_2 hm_18_2 hI ls H locs hl hP hD hS
            have h := hs_18_2 l6_18_2 l4_18_2 hI
            refine lv_iload hx hb dX9_byRule_18 (lv_at hl 2 rfl) ?_
            refine lv_iload hx hb dX9_byRule_20 (lv_at hl 1 rfl) ?_
            obtain ⟨hne_4, h⟩ := h
            refine lv_irem hx hb dX9_byRule_22 hne_4 ?_
            refine lv_if_ne (tgt := 39) hx hb dX9_byRule_23 (by decide) (fun c_5 => ?_) (fun c_5 => ?_)
            · replace h := h.2 c_5
              refine lv_iload hx hb dX9_byRule_39 (lv_at hl 0 rfl) ?_
              refine lv_if_le (tgt := 56) hx hb dX9_byRule_41 (by decide) (fun c_6 => ?_) (fun c_6 => ?_)
              · replace h := h.1 c_6
                obtain ⟨x5_7, e_x5_7⟩ : ∃ y : Int32, y = l5_8_0 + (1 : Int32) := ⟨_, rfl⟩
                replace h := h x5_7 e_x5_7
                refine lv_iinc (v := x5_7) (lv' := [(5, .int x5_7), (6, .int l6_18_2), (4, .int l4_18_2), (2, .long l2_8_0), (0, .int p0)]) hx hb dX9_byRule_56 hl (k := 1) rfl (by rw [e_x5_7]; rfl) (by decide) rfl (fun ls hl => ?_)
                refine lv_goto (tgt := 8) hx hb dX9_byRule_59 (by decide) ?_
                exact ih_8_0 x5_7 l4_18_2 l2_8_0 (Nat.lt_of_lt_of_le h.2 (Nat.le_of_lt_succ hm_8_0)) h.1 _ _ _ (lv_sub hl [0, 2, 3, 4] rfl) (hP.sub [] rfl) (hD.sub [] (by decide) rfl) hS
              · replace h := h.2 c_6
                refine lv_lload_n hx hb dX9_byRule_44 rfl (lv_at hl 3 rfl) ?_
                refine lv_iload_n hx hb dX9_byRule_45 rfl (lv_at hl 4 rfl) ?_
                refine lv_iload hx hb dX9_byRule_46 (lv_at hl 1 rfl) ?_
                refine lv_i2l hx hb dX9_byRule_48 rfl ?_
                refine lv_iload hx hb dX9_byRule_49 (lv_at hl 0 rfl) ?_
                have hPc := hP.sub (ws' := []) [] rfl
                have hDc := hD.sub (ws' := []) [] (by decide) rfl
                have hFc := va_free (wc := []) hD hS hA [] rfl
                refine va_calll (va_runS (As := [.int p0, .long l5_8_0.toInt64, .int l6_18_2]) (rest := [.long l2_8_0]) ⟨hx, hb, hml, hown, hts⟩ (c_X9_atPower l dC dI cI cJ cZ _ p0 (l5_8_0.toInt64) l6_18_2 _ h) (va_cwS 3 hts gX9_byRule_X9_atPower rfl rfl rfl (by decide +kernel) ⟨Nat.le_of_ble_eq_true rfl, Nat.le_of_ble_eq_true rfl⟩) ⟨pre_fb, pre_of hPc hDc hK hN⟩ rfl rfl hl.1 rfl (lv_room (Nat.le_of_ble_eq_true rfl)) dX9_byRule_51 ⟨by first | exact Nat.le_of_ble_eq_true rfl | exact Nat.le_refl _, by first | exact Nat.le_of_ble_eq_true rfl | exact Nat.le_refl _⟩) hS (fun q _ h => hFc q h) hFc (fun r_8 u t H1 locs ht hvm h hB hz1 hk1 hS => ?_)
                obtain ⟨hP1, hD1⟩ := hB
                rw [ht] at hP1
                try dsimp only at h
                obtain ⟨hP, hD⟩ := va_join (wr := []) (w1 := []) hP hD [] [] rfl rfl (by decide) (by decide) hk1 hFc hP1 hD1
                generalize H1 = H at hP hS ⊢
                have hP : va_P (dC, dI) vwCl [] H := hP
                have hD : va_D A [] := hD
                refine lv_lmul hx hb dX9_byRule_54 ?_
                refine lv_topl (fun x2_9 e_x2_9 => ?_)
                replace h := h x2_9 e_x2_9
                refine lv_lstore_n (lv' := [(2, .long x2_9), (6, .int l6_18_2), (5, .int l5_8_0), (4, .int l4_18_2), (0, .int p0)]) hx hb dX9_byRule_55 rfl hl (by decide) rfl (fun ls hl => ?_)
                obtain ⟨x5_10, e_x5_10⟩ : ∃ y : Int32, y = l5_8_0 + (1 : Int32) := ⟨_, rfl⟩
                replace h := h x5_10 e_x5_10
                refine lv_iinc (v := x5_10) (lv' := [(5, .int x5_10), (2, .long x2_9), (6, .int l6_18_2), (4, .int l4_18_2), (0, .int p0)]) hx hb dX9_byRule_56 hl (k := 2) rfl (by rw [e_x5_10]; rfl) (by decide) rfl (fun ls hl => ?_)
                refine lv_goto (tgt := 8) hx hb dX9_byRule_59 (by decide) ?_
                exact ih_8_0 x5_10 l4_18_2 x2_9 (Nat.lt_of_lt_of_le h.2 (Nat.le_of_lt_succ hm_8_0)) h.1 _ _ _ (lv_sub hl [0, 3, 1, 4] rfl) (hP.sub [] rfl) (hD.sub [] (by decide) rfl) hS
            · replace h := h.1 c_5
              refine lv_iload hx hb dX9_byRule_26 (lv_at hl 2 rfl) ?_
              refine lv_iload hx hb dX9_byRule_28 (lv_at hl 1 rfl) ?_
              obtain ⟨hne_11, h⟩ := h
              refine lv_idiv hx hb dX9_byRule_30 hne_11 ?_
              refine lv_topi (fun x4_12 e_x4_12 => ?_)
              replace h := h x4_12 e_x4_12
              refine lv_istore (lv' := [(4, .int x4_12), (6, .int l6_18_2), (5, .int l5_8_0), (2, .long l2_8_0), (0, .int p0)]) hx hb dX9_byRule_31 hl (by decide) rfl (fun ls hl => ?_)
              obtain ⟨x6_13, e_x6_13⟩ : ∃ y : Int32, y = l6_18_2 + (1 : Int32) := ⟨_, rfl⟩
              replace h := h x6_13 e_x6_13
              refine lv_iinc (v := x6_13) (lv' := [(6, .int x6_13), (4, .int x4_12), (5, .int l5_8_0), (2, .long l2_8_0), (0, .int p0)]) hx hb dX9_byRule_33 hl (k := 1) rfl (by rw [e_x6_13]; rfl) (by decide) rfl (fun ls hl => ?_)
              refine lv_goto (tgt := 18) hx hb dX9_byRule_36 (by decide) ?_
              exact ih_18_2 x6_13 x4_12 (Nat.lt_of_lt_of_le h.2 (Nat.le_of_lt_succ hm_18_2)) h.1 _ _ _ (lv_sub hl [0, 2, 1, 3, 4] rfl) (hP.sub [] rfl) (hD.sub [] (by decide) rfl) hS
        exact key_18_2 _ (0 : Int32) l4_8_0 (Nat.lt_succ_self _) h0_18_2 _ _ _ (lv_sub hl [0, 1, 2, 3, 4] rfl) (hP.sub [] rfl) (hD.sub [] (by decide) rfl) hS
  exact key_8_0 _ (2 : Int32) p1 (1 : Int64) (Nat.lt_succ_self _) h0_8_0 _ _ _ (lv_sub hl [0, 1, 2, 3] rfl) (hP.sub [] rfl) (hD.sub [] (by decide) rfl) hS
def wp_X9_rule (a0_rows : Int32) (a0_row : Nat → Int64) (p1 : Int32) (Q : Int32 → Int32 → (Nat → Int64) → Prop) : Prop :=
  wp_X9_in (p1.toInt64) (0 : Int64) (9 : Int64) (fun r_1 => ((r_1 = (0 : Int32) → Q (-1 : Int32) a0_rows a0_row) ∧ (¬ r_1 = (0 : Int32) → ((a0_rows = (16 : Int32) → Q (-1 : Int32) a0_rows a0_row) ∧ (¬ a0_rows = (16 : Int32) → (∃ (I_25_3 : Int32 → (Nat → Int64) → Prop) (m_25_3 : Int32 → (Nat → Int64) → Nat), I_25_3 (1 : Int32) a0_row ∧ ∀ (l2_25_3 : Int32) (a0_row_25_3 : Nat → Int64), I_25_3 l2_25_3 a0_row_25_3 → (((600 : Int32) < l2_25_3 → (∀ y_6 : Int32, y_6 = (a0_rows + (1 : Int32)) → Q (y_6 - (1 : Int32)) y_6 a0_row_25_3)) ∧ (¬ (600 : Int32) < l2_25_3 → wp_X9_byRule p1 l2_25_3 (fun r_7 => (vp_in (((601 : Int32) * a0_rows) + l2_25_3) 9616 ∧ (∀ x2_9 : Int32, x2_9 = l2_25_3 + (1 : Int32) → (I_25_3 x2_9 (vp_updL a0_row_25_3 (((601 : Int32) * a0_rows) + l2_25_3).toNatClampNeg r_7) ∧ m_25_3 x2_9 (vp_updL a0_row_25_3 (((601 : Int32) * a0_rows) + l2_25_3).toNatClampNeg r_7) < m_25_3 l2_25_3 a0_row_25_3))))))))))))
abbrev rm_X9_rule : Room := { frames := 3, cells := 0, slots := 0, locals := 77 }
abbrev qc_X9_rule (dC : Nat → ClassId) (dI : Nat → Nat → Nat) (cI cJ cZ : ClassId) (h_a0 : Nat) (a0_primes : Int32) (w_a0_prime : Value) (w_a0_isNone : Value) (a0_hasSpan : Int32) (a0_spanFrom : Int64) (a0_spanMany : Int32) (w_a0_least : Value) (w_a0_greatest : Value) (w_a0_isSquared : Value) (a0_hasPart : Int32) (a0_parted : Int64) (a0_partMany : Int32) (w_a0_partPrime : Value) (w_a0_partPower : Value) (a0_rows : Int32) (a0_row : Nat → Int64) (q_a0_row : Nat) (a0_foundLeast : Int64) (a0_foundGreatest : Int64) (a0_foundSquare : Int32) (Q : Int32 → Int32 → (Nat → Int64) → Prop) (A : Nat → Prop) : Array Value → State → Outcome → State → Prop := va_Qi (fun (r : Int32) (u : Int32 × (Nat → Int64)) => Q r u.1 u.2) (post_ dC dI A (fun (u : Int32 × (Nat → Int64)) => [(h_a0, .inr (8, [.int a0_primes, w_a0_prime, w_a0_isNone, .int a0_hasSpan, .long a0_spanFrom, .int a0_spanMany, w_a0_least, w_a0_greatest, w_a0_isSquared, .int a0_hasPart, .long a0_parted, .int a0_partMany, w_a0_partPrime, w_a0_partPower, .int u.1, .ref q_a0_row, .long a0_foundLeast, .long a0_foundGreatest, .int a0_foundSquare])), (q_a0_row, .inl (cJ, 9616, .inr (.inl (u.2))))])) A
set_option maxHeartbeats 4000000 in
set_option maxRecDepth 100000 in
theorem c_X9_rule (l : Launch) (dC : Nat → ClassId) (dI : Nat → Nat → Nat) (cI cJ cZ : ClassId) (sz : Nat) (h_a0 : Nat) (a0_primes : Int32) (w_a0_prime : Value) (w_a0_isNone : Value) (a0_hasSpan : Int32) (a0_spanFrom : Int64) (a0_spanMany : Int32) (w_a0_least : Value) (w_a0_greatest : Value) (w_a0_isSquared : Value) (a0_hasPart : Int32) (a0_parted : Int64) (a0_partMany : Int32) (w_a0_partPrime : Value) (w_a0_partPower : Value) (a0_rows : Int32) (a0_row : Nat → Int64) (q_a0_row : Nat) (a0_foundLeast : Int64) (a0_foundGreatest : Int64) (a0_foundSquare : Int32) (p1 : Int32) (Q : Int32 → Int32 → (Nat → Int64) → Prop) (hQ : wp_X9_rule a0_rows a0_row p1 Q) : Met l yX9_rule wsX9_rule rm_X9_rule (pre_ dC dI cI cJ cZ [.ref h_a0, .int p1] [(h_a0, .inr (8, [.int a0_primes, w_a0_prime, w_a0_isNone, .int a0_hasSpan, .long a0_spanFrom, .int a0_spanMany, w_a0_least, w_a0_greatest, w_a0_isSquared, .int a0_hasPart, .long a0_parted, .int a0_partMany, w_a0_partPrime, w_a0_partPower, .int a0_rows, .ref q_a0_row, .long a0_foundLeast, .long a0_foundGreatest, .int a0_foundSquare])), (q_a0_row, .inl (cJ, 9616, .inr (.inl a0_row)))] sz) (qc_X9_rule dC dI cI cJ cZ h_a0 a0_primes w_a0_prime w_a0_isNone a0_hasSpan a0_spanFrom a0_spanMany w_a0_least w_a0_greatest w_a0_isSquared a0_hasPart a0_parted a0_partMany w_a0_partPrime w_a0_partPower a0_rows a0_row q_a0_row a0_foundLeast a0_foundGreatest a0_foundSquare Q (va_A [(h_a0, .inr (8, [.int a0_primes, w_a0_prime, w_a0_isNone, .int a0_hasSpan, .long a0_spanFrom, .int a0_spanMany, w_a0_least, w_a0_greatest, w_a0_isSquared, .int a0_hasPart, .long a0_parted, .int a0_partMany, w_a0_partPrime, w_a0_partPower, .int a0_rows, .ref q_a0_row, .long a0_foundLeast, .long a0_foundGreatest, .int a0_foundSquare])), (q_a0_row, .inl (cJ, 9616, .inr (.inl a0_row)))] sz)) 0 0 (va_A [(h_a0, .inr (8, [.int a0_primes, w_a0_prime, w_a0_isNone, .int a0_hasSpan, .long a0_spanFrom, .int a0_spanMany, w_a0_least, w_a0_greatest, w_a0_isSquared, .int a0_hasPart, .long a0_parted, .int a0_partMany, w_a0_partPrime, w_a0_partPower, .int a0_rows, .ref q_a0_row, .long a0_foundLeast, .long a0_foundGreatest, .int a0_foundSquare])), (q_a0_row, .inl (cJ, 9616, .inr (.inl a0_row)))] sz) := by
  refine Met.ofW (cc := cX9_rule) (maxL := 3) (ret := (some .int)) (by decide) rfl ?_
  intro p e s m args below meth c s₁ B hml hv
  obtain ⟨rfl, hsz, hP, hK, hN, hD0⟩ := hv
  have hx := B.exec
  have hb := B.bytes
  have hr := B.returns
  have hts := atoms_spec (ws := wsX9_rule) B.pre
  have hown : s.vm.findClass RX9 = some m.cls := findClass_of_methodNamed B.named
  subst hsz
  have hD := hD0.self (sz := s.heap.size)
  generalize hAe : va_A [(h_a0, .inr (8, [.int a0_primes, w_a0_prime, w_a0_isNone, .int a0_hasSpan, .long a0_spanFrom, .int a0_spanMany, w_a0_least, w_a0_greatest, w_a0_isSquared, .int a0_hasPart, .long a0_parted, .int a0_partMany, w_a0_partPrime, w_a0_partPower, .int a0_rows, .ref q_a0_row, .long a0_foundLeast, .long a0_foundGreatest, .int a0_foundSquare])), (q_a0_row, .inl (cJ, 9616, .inr (.inl a0_row)))] s.heap.size = A at hD ⊢
  have hA : ∀ q : Nat, s.heap.size ≤ q → A q := fun q h => by rw [← hAe]; exact Or.inr h
  have hS : va_S A s.heap s.heap [] := va_S.rf
  have hl := lv_entry ([.ref h_a0, .int p1]) (n := 3) (Nat.le_of_ble_eq_true rfl)
  rw [lg_entry_eq]
  generalize (lg_sl ([.ref h_a0, .int p1]) ++ List.replicate (3 - (lg_sl ([.ref h_a0, .int p1])).length) Slot.unset).toArray = ls at hl ⊢
  have hl : lv_has ls 3 [(0, .ref h_a0), (1, .int p1)] := hl
  have h := hQ
  unfold wp_X9_rule at h
  have hw_0 := hts (.constantLong RX9 123 (9)) (by decide +kernel)
  have hw_1 := hts (.fieldLink RX9 112 "NumberSievesModel" "rows" "I") (by decide +kernel)
  have hin_X9 : ∀ w ∈ wsX90, w ∈ wsX9_rule := by decide +kernel
  have hw_3 := hts (.fieldLink RX9 34 "NumberSievesModel" "row" "[J") (by decide +kernel)
  refine lv_iload_n hx hb dX9_rule_0 rfl (lv_at hl 1 rfl) ?_
  refine lv_i2l hx hb dX9_rule_1 rfl ?_
  refine lv_lconst (v := (0 : Int64)) hx hb dX9_rule_2 (by decide) ?_
  refine lv_ldc2 hx hb hown hw_0 dX9_rule_3 ?_
  have hPc := hP.sub (ws' := []) [] rfl
  have hDc := hD.sub (ws' := []) [] (by decide) rfl
  have hFc := va_free (wc := []) hD hS hA [] rfl
  refine va_calli (va_runS (As := [.long p1.toInt64, .long (0 : Int64), .long (9 : Int64)]) (rest := []) ⟨hx, hb, hml, hown, hts⟩ (c_X9_in l dC dI cI cJ cZ _ (p1.toInt64) (0 : Int64) (9 : Int64) _ h) (va_cwS 3 hts gX9_rule_X9_in rfl rfl rfl (by decide +kernel) ⟨Nat.le_of_ble_eq_true rfl, Nat.le_of_ble_eq_true rfl⟩) ⟨pre_fb, pre_of hPc hDc hK hN⟩ rfl rfl hl.1 rfl (lv_room (Nat.le_of_ble_eq_true rfl)) dX9_rule_6 ⟨by first | exact Nat.le_of_ble_eq_true rfl | exact Nat.le_refl _, by first | exact Nat.le_of_ble_eq_true rfl | exact Nat.le_refl _⟩) hS (fun q _ h => hFc q h) hFc (fun r_1 u t H1 locs ht hvm h hB hz1 hk1 hS => ?_)
  obtain ⟨hP1, hD1⟩ := hB
  rw [ht] at hP1
  try dsimp only at h
  obtain ⟨hP, hD⟩ := va_join (wr := [(h_a0, .inr (8, [.int a0_primes, w_a0_prime, w_a0_isNone, .int a0_hasSpan, .long a0_spanFrom, .int a0_spanMany, w_a0_least, w_a0_greatest, w_a0_isSquared, .int a0_hasPart, .long a0_parted, .int a0_partMany, w_a0_partPrime, w_a0_partPower, .int a0_rows, .ref q_a0_row, .long a0_foundLeast, .long a0_foundGreatest, .int a0_foundSquare])), (q_a0_row, .inl (cJ, 9616, .inr (.inl a0_row)))]) (w1 := []) hP hD [] [0, 1] rfl rfl (by decide) (by decide) hk1 hFc hP1 hD1
  generalize H1 = H at hP hS ⊢
  have hP : va_P (dC, dI) vwCl [(h_a0, .inr (8, [.int a0_primes, w_a0_prime, w_a0_isNone, .int a0_hasSpan, .long a0_spanFrom, .int a0_spanMany, w_a0_least, w_a0_greatest, w_a0_isSquared, .int a0_hasPart, .long a0_parted, .int a0_partMany, w_a0_partPrime, w_a0_partPower, .int a0_rows, .ref q_a0_row, .long a0_foundLeast, .long a0_foundGreatest, .int a0_foundSquare])), (q_a0_row, .inl (cJ, 9616, .inr (.inl a0_row)))] H := hP
  have hD : va_D A [(h_a0, .inr (8, [.int a0_primes, w_a0_prime, w_a0_isNone, .int a0_hasSpan, .long a0_spanFrom, .int a0_spanMany, w_a0_least, w_a0_greatest, w_a0_isSquared, .int a0_hasPart, .long a0_parted, .int a0_partMany, w_a0_partPrime, w_a0_partPower, .int a0_rows, .ref q_a0_row, .long a0_foundLeast, .long a0_foundGreatest, .int a0_foundSquare])), (q_a0_row, .inl (cJ, 9616, .inr (.inl a0_row)))] := hD
  refine lv_if_eq (tgt := 21) hx hb dX9_rule_9 (by decide) (fun c_2 => ?_) (fun c_2 => ?_)
  · replace h := h.1 c_2
    refine lv_iconst (v := (-1 : Int32)) hx hb dX9_rule_21 (by decide) ?_
    have hP9 := hP.sub (ws' := [(h_a0, .inr (8, [.int a0_primes, w_a0_prime, w_a0_isNone, .int a0_hasSpan, .long a0_spanFrom, .int a0_spanMany, w_a0_least, w_a0_greatest, w_a0_isSquared, .int a0_hasPart, .long a0_parted, .int a0_partMany, w_a0_partPrime, w_a0_partPower, .int a0_rows, .ref q_a0_row, .long a0_foundLeast, .long a0_foundGreatest, .int a0_foundSquare])), (q_a0_row, .inl (cJ, 9616, .inr (.inl a0_row)))]) [0, 1] rfl
    have hD9 := hD.sub (ws' := [(h_a0, .inr (8, [.int a0_primes, w_a0_prime, w_a0_isNone, .int a0_hasSpan, .long a0_spanFrom, .int a0_spanMany, w_a0_least, w_a0_greatest, w_a0_isSquared, .int a0_hasPart, .long a0_parted, .int a0_partMany, w_a0_partPrime, w_a0_partPower, .int a0_rows, .ref q_a0_row, .long a0_foundLeast, .long a0_foundGreatest, .int a0_foundSquare])), (q_a0_row, .inl (cJ, 9616, .inr (.inl a0_row)))]) [0, 1] (by decide) rfl
    exact W.iret (v := (-1 : Int32)) hx hb hr (fun t ht hW => ⟨⟨_, (a0_rows, a0_row), rfl, h, by rw [ht]; exact hP9, hD9⟩, hS.F ht⟩) hS.2.2 dX9_rule_22
  · replace h := h.2 c_2
    refine lv_aload_n hx hb dX9_rule_12 rfl (lv_at hl 0 rfl) ?_
    refine va_get (D := (dC, dI)) (ci := 8) (v := .int a0_rows) (C := RX9) (T := TX9) (N := 19) hx hb hts hin_X9 hown hK hP 0 rfl rfl 14 (by decide) hw_1 (fun _ h9 => h9) rfl dX9_rule_13 ?_
    refine lv_bipush (v := (16 : Int32)) hx hb dX9_rule_16 (by decide) ?_
    refine lv_icmp_ne (tgt := 23) hx hb dX9_rule_18 (by decide) (fun c_3 => ?_) (fun c_3 => ?_)
    · replace h := h.2 c_3
      refine lv_iconst (v := (1 : Int32)) hx hb dX9_rule_23 (by decide) ?_
      refine lv_istore_n (lv' := [(2, .int (1 : Int32)), (0, .ref h_a0), (1, .int p1)]) hx hb dX9_rule_24 rfl hl (by decide) rfl (fun ls hl => ?_)
      obtain ⟨I_25_3, m_25_3, h0_25_3, hs_25_3⟩ := h
      have key_25_3 : ∀ (n : Nat) (l2_25_3 : Int32) (a0_row_25_3 : Nat → Int64), m_25_3 l2_25_3 a0_row_25_3 < n → I_25_3 l2_25_3 a0_row_25_3 → ∀ (ls : Array Slot) (H : Heap) (locs : List Loc), lv_has ls 3 [(2, .int l2_25_3), (0, .ref h_a0), (1, .int p1)] → va_P (dC, dI) vwCl [(h_a0, .inr (8, [.int a0_primes, w_a0_prime, w_a0_isNone, .int a0_hasSpan, .long a0_spanFrom, .int a0_spanMany, w_a0_least, w_a0_greatest, w_a0_isSquared, .int a0_hasPart, .long a0_parted, .int a0_partMany, w_a0_partPrime, w_a0_partPower, .int a0_rows, .ref q_a0_row, .long a0_foundLeast, .long a0_foundGreatest, .int a0_foundSquare])), (q_a0_row, .inl (cJ, 9616, .inr (.inl a0_row_25_3)))] H → va_D A [(h_a0, .inr (8, [.int a0_primes, w_a0_prime, w_a0_isNone, .int a0_hasSpan, .long a0_spanFrom, .int a0_spanMany, w_a0_least, w_a0_greatest, w_a0_isSquared, .int a0_hasPart, .long a0_parted, .int a0_partMany, w_a0_partPrime, w_a0_partPower, .int a0_rows, .ref q_a0_row, .long a0_foundLeast, .long a0_foundGreatest, .int a0_foundSquare])), (q_a0_row, .inl (cJ, 9616, .inr (.inl a0_row_25_3)))] → va_S A s.heap H locs → W p l e (headSpec wsX9_rule rm_X9_rule).room s m ([.ref h_a0, .int p1] : List Value).toArray below meth c H locs 0 0 (MQ below (qc_X9_rule dC dI cI cJ cZ h_a0 a0_primes w_a0_prime w_a0_isNone a0_hasSpan a0_spanFrom a0_spanMany w_a0_least w_a0_greatest w_a0_isSquared a0_hasPart a0_parted a0_partMany w_a0_partPrime w_a0_partPower a0_rows a0_row q_a0_row a0_foundLeast a0_foundGreatest a0_foundSquare Q A) ([.ref h_a0, .int p1] : List Value).toArray s 0 0 A) (F0 m 25 ls []) := by
        intro n
        induction n with
        | zero =>
          intro l2_25_3 a0_row_25_3 hm
          exact absurd hm (Nat.not_lt_zero _)
        | succ n ih_25_3 =>
          intro l2_25_3 a0_row_25_3 hm_25_3 hI ls H locs hl hP hD hS
          have h := hs_25_3 l2_25_3 a0_row_25_3 hI
          refine lv_iload_n hx hb dX9_rule_25 rfl (lv_at hl 0 rfl) ?_
          refine lv_sipush (v := (600 : Int32)) hx hb dX9_rule_26 (by decide) ?_
          refine lv_icmp_gt (tgt := 58) hx hb dX9_rule_29 (by decide) (fun c_5 => ?_) (fun c_5 => ?_)
          · replace h := h.1 c_5
            refine lv_aload_n hx hb dX9_rule_58 rfl (lv_at hl 1 rfl) ?_
            refine lv_dup hx hb dX9_rule_59 rfl ?_
            refine va_get (D := (dC, dI)) (ci := 8) (v := .int a0_rows) (C := RX9) (T := TX9) (N := 19) hx hb hts hin_X9 hown hK hP 0 rfl rfl 14 (by decide) hw_1 (fun _ h9 => h9) rfl dX9_rule_60 ?_
            refine lv_iconst (v := (1 : Int32)) hx hb dX9_rule_63 (by decide) ?_
            refine lv_iadd hx hb dX9_rule_64 ?_
            refine lv_topi (fun y_6 e_y_6 => ?_)
            replace h := h y_6 e_y_6
            refine va_put (D := (dC, dI)) (ci := 8) (v := .int y_6) (ty := .int) (C := RX9) (T := TX9) (N := 19) hx hb hts hin_X9 tyX9 tyX9_ok nmX9 hown hK hP hD hS 0 rfl rfl 14 (by decide) hw_1 (fun _ h9 => h9) rfl (by decide +kernel) rfl rfl (Nat.le_of_ble_eq_true rfl) dX9_rule_65 (fun H locs hP hD hS => ?_)
            have hP : va_P (dC, dI) vwCl [(h_a0, .inr (8, [.int a0_primes, w_a0_prime, w_a0_isNone, .int a0_hasSpan, .long a0_spanFrom, .int a0_spanMany, w_a0_least, w_a0_greatest, w_a0_isSquared, .int a0_hasPart, .long a0_parted, .int a0_partMany, w_a0_partPrime, w_a0_partPower, .int y_6, .ref q_a0_row, .long a0_foundLeast, .long a0_foundGreatest, .int a0_foundSquare])), (q_a0_row, .inl (cJ, 9616, .inr (.inl a0_row_25_3)))] H := hP
            have hD : va_D A [(h_a0, .inr (8, [.int a0_primes, w_a0_prime, w_a0_isNone, .int a0_hasSpan, .long a0_spanFrom, .int a0_spanMany, w_a0_least, w_a0_greatest, w_a0_isSquared, .int a0_hasPart, .long a0_parted, .int a0_partMany, w_a0_partPrime, w_a0_partPower, .int y_6, .ref q_a0_row, .long a0_foundLeast, .long a0_foundGreatest, .int a0_foundSquare])), (q_a0_row, .inl (cJ, 9616, .inr (.inl a0_row_25_3)))] := hD
            refine lv_aload_n hx hb dX9_rule_68 rfl (lv_at hl 1 rfl) ?_
            refine va_get (D := (dC, dI)) (ci := 8) (v := .int y_6) (C := RX9) (T := TX9) (N := 19) hx hb hts hin_X9 hown hK hP 0 rfl rfl 14 (by decide) hw_1 (fun _ h9 => h9) rfl dX9_rule_69 ?_
            refine lv_iconst (v := (1 : Int32)) hx hb dX9_rule_72 (by decide) ?_
            refine lv_isub hx hb dX9_rule_73 ?_
            have hP9 := hP.sub (ws' := [(h_a0, .inr (8, [.int a0_primes, w_a0_prime, w_a0_isNone, .int a0_hasSpan, .long a0_spanFrom, .int a0_spanMany, w_a0_least, w_a0_greatest, w_a0_isSquared, .int a0_hasPart, .long a0_parted, .int a0_partMany, w_a0_partPrime, w_a0_partPower, .int y_6, .ref q_a0_row, .long a0_foundLeast, .long a0_foundGreatest, .int a0_foundSquare])), (q_a0_row, .inl (cJ, 9616, .inr (.inl a0_row_25_3)))]) [0, 1] rfl
            have hD9 := hD.sub (ws' := [(h_a0, .inr (8, [.int a0_primes, w_a0_prime, w_a0_isNone, .int a0_hasSpan, .long a0_spanFrom, .int a0_spanMany, w_a0_least, w_a0_greatest, w_a0_isSquared, .int a0_hasPart, .long a0_parted, .int a0_partMany, w_a0_partPrime, w_a0_partPower, .int y_6, .ref q_a0_row, .long a0_foundLeast, .long a0_foundGreatest, .int a0_foundSquare])), (q_a0_row, .inl (cJ, 9616, .inr (.inl a0_row_25_3)))]) [0, 1] (by decide) rfl
            exact W.iret (v := (y_6 - (1 : Int32))) hx hb hr (fun t ht hW => ⟨⟨_, (y_6, a0_row_25_3), rfl, h, by rw [ht]; exact hP9, hD9⟩, hS.F ht⟩) hS.2.2 dX9_rule_74
          · replace h := h.2 c_5
            refine lv_aload_n hx hb dX9_rule_32 rfl (lv_at hl 1 rfl) ?_
            refine va_get (D := (dC, dI)) (ci := 8) (v := .ref q_a0_row) (C := RX9) (T := TX9) (N := 19) hx hb hts hin_X9 hown hK hP 0 rfl rfl 15 (by decide) hw_3 (fun _ h9 => h9) rfl dX9_rule_33 ?_
            refine lv_sipush (v := (601 : Int32)) hx hb dX9_rule_36 (by decide) ?_
            refine lv_aload_n hx hb dX9_rule_39 rfl (lv_at hl 1 rfl) ?_
            refine va_get (D := (dC, dI)) (ci := 8) (v := .int a0_rows) (C := RX9) (T := TX9) (N := 19) hx hb hts hin_X9 hown hK hP 0 rfl rfl 14 (by decide) hw_1 (fun _ h9 => h9) rfl dX9_rule_40 ?_
            refine lv_imul hx hb dX9_rule_43 ?_
            refine lv_iload_n hx hb dX9_rule_44 rfl (lv_at hl 0 rfl) ?_
            refine lv_iadd hx hb dX9_rule_45 ?_
            refine lv_iload_n hx hb dX9_rule_46 rfl (lv_at hl 2 rfl) ?_
            refine lv_iload_n hx hb dX9_rule_47 rfl (lv_at hl 0 rfl) ?_
            have hPc := hP.sub (ws' := []) [] rfl
            have hDc := hD.sub (ws' := []) [] (by decide) rfl
            have hFc := va_free (wc := []) hD hS hA [] rfl
            refine va_calll (va_runS (As := [.int p1, .int l2_25_3]) (rest := [.int (((601 : Int32) * a0_rows) + l2_25_3), .ref q_a0_row]) ⟨hx, hb, hml, hown, hts⟩ (c_X9_byRule l dC dI cI cJ cZ _ p1 l2_25_3 _ h) (va_cwS 2 hts gX9_rule_X9_byRule rfl rfl rfl (by decide +kernel) ⟨Nat.le_of_ble_eq_true rfl, Nat.le_of_ble_eq_true rfl⟩) ⟨pre_fb, pre_of hPc hDc hK hN⟩ rfl rfl hl.1 rfl (lv_room (Nat.le_of_ble_eq_true rfl)) dX9_rule_48 ⟨by first | exact Nat.le_of_ble_eq_true rfl | exact Nat.le_refl _, by first | exact Nat.le_of_ble_eq_true rfl | exact Nat.le_refl _⟩) hS (fun q _ h => hFc q h) hFc (fun r_7 u t H1 locs ht hvm h hB hz1 hk1 hS => ?_)
            obtain ⟨hP1, hD1⟩ := hB
            rw [ht] at hP1
            try dsimp only at h
            obtain ⟨hP, hD⟩ := va_join (wr := [(h_a0, .inr (8, [.int a0_primes, w_a0_prime, w_a0_isNone, .int a0_hasSpan, .long a0_spanFrom, .int a0_spanMany, w_a0_least, w_a0_greatest, w_a0_isSquared, .int a0_hasPart, .long a0_parted, .int a0_partMany, w_a0_partPrime, w_a0_partPower, .int a0_rows, .ref q_a0_row, .long a0_foundLeast, .long a0_foundGreatest, .int a0_foundSquare])), (q_a0_row, .inl (cJ, 9616, .inr (.inl a0_row_25_3)))]) (w1 := []) hP hD [] [0, 1] rfl rfl (by decide) (by decide) hk1 hFc hP1 hD1
            generalize H1 = H at hP hS ⊢
            have hP : va_P (dC, dI) vwCl [(h_a0, .inr (8, [.int a0_primes, w_a0_prime, w_a0_isNone, .int a0_hasSpan, .long a0_spanFrom, .int a0_spanMany, w_a0_least, w_a0_greatest, w_a0_isSquared, .int a0_hasPart, .long a0_parted, .int a0_partMany, w_a0_partPrime, w_a0_partPower, .int a0_rows, .ref q_a0_row, .long a0_foundLeast, .long a0_foundGreatest, .int a0_foundSquare])), (q_a0_row, .inl (cJ, 9616, .inr (.inl a0_row_25_3)))] H := hP
            have hD : va_D A [(h_a0, .inr (8, [.int a0_primes, w_a0_prime, w_a0_isNone, .int a0_hasSpan, .long a0_spanFrom, .int a0_spanMany, w_a0_least, w_a0_greatest, w_a0_isSquared, .int a0_hasPart, .long a0_parted, .int a0_partMany, w_a0_partPrime, w_a0_partPower, .int a0_rows, .ref q_a0_row, .long a0_foundLeast, .long a0_foundGreatest, .int a0_foundSquare])), (q_a0_row, .inl (cJ, 9616, .inr (.inl a0_row_25_3)))] := hD
            obtain ⟨hin_8, h⟩ := h
            refine va_last hx hb hK hP hD hS 1 1 rfl rfl hin_8 dX9_rule_51 (fun H locs hP hD hS => ?_)
            have hP : va_P (dC, dI) vwCl [(h_a0, .inr (8, [.int a0_primes, w_a0_prime, w_a0_isNone, .int a0_hasSpan, .long a0_spanFrom, .int a0_spanMany, w_a0_least, w_a0_greatest, w_a0_isSquared, .int a0_hasPart, .long a0_parted, .int a0_partMany, w_a0_partPrime, w_a0_partPower, .int a0_rows, .ref q_a0_row, .long a0_foundLeast, .long a0_foundGreatest, .int a0_foundSquare])), (q_a0_row, .inl (cJ, 9616, .inr (.inl (vp_updL a0_row_25_3 (((601 : Int32) * a0_rows) + l2_25_3).toNatClampNeg r_7))))] H := hP
            have hD : va_D A [(h_a0, .inr (8, [.int a0_primes, w_a0_prime, w_a0_isNone, .int a0_hasSpan, .long a0_spanFrom, .int a0_spanMany, w_a0_least, w_a0_greatest, w_a0_isSquared, .int a0_hasPart, .long a0_parted, .int a0_partMany, w_a0_partPrime, w_a0_partPower, .int a0_rows, .ref q_a0_row, .long a0_foundLeast, .long a0_foundGreatest, .int a0_foundSquare])), (q_a0_row, .inl (cJ, 9616, .inr (.inl (vp_updL a0_row_25_3 (((601 : Int32) * a0_rows) + l2_25_3).toNatClampNeg r_7))))] := hD
            obtain ⟨x2_9, e_x2_9⟩ : ∃ y : Int32, y = l2_25_3 + (1 : Int32) := ⟨_, rfl⟩
            replace h := h x2_9 e_x2_9
            refine lv_iinc (v := x2_9) (lv' := [(2, .int x2_9), (0, .ref h_a0), (1, .int p1)]) hx hb dX9_rule_52 hl (k := 0) rfl (by rw [e_x2_9]; rfl) (by decide) rfl (fun ls hl => ?_)
            refine lv_goto (tgt := 25) hx hb dX9_rule_55 (by decide) ?_
            exact ih_25_3 x2_9 (vp_updL a0_row_25_3 (((601 : Int32) * a0_rows) + l2_25_3).toNatClampNeg r_7) (Nat.lt_of_lt_of_le h.2 (Nat.le_of_lt_succ hm_25_3)) h.1 _ _ _ (lv_sub hl [0, 1, 2] rfl) (hP.sub [0, 1] rfl) (hD.sub [0, 1] (by decide) rfl) hS
      exact key_25_3 _ (1 : Int32) a0_row (Nat.lt_succ_self _) h0_25_3 _ _ _ (lv_sub hl [0, 1, 2] rfl) (hP.sub [0, 1] rfl) (hD.sub [0, 1] (by decide) rfl) hS
    · replace h := h.1 c_3
      refine lv_iconst (v := (-1 : Int32)) hx hb dX9_rule_21 (by decide) ?_
      have hP9 := hP.sub (ws' := [(h_a0, .inr (8, [.int a0_primes, w_a0_prime, w_a0_isNone, .int a0_hasSpan, .long a0_spanFrom, .int a0_spanMany, w_a0_least, w_a0_greatest, w_a0_isSquared, .int a0_hasPart, .long a0_parted, .int a0_partMany, w_a0_partPrime, w_a0_partPower, .int a0_rows, .ref q_a0_row, .long a0_foundLeast, .long a0_foundGreatest, .int a0_foundSquare])), (q_a0_row, .inl (cJ, 9616, .inr (.inl a0_row)))]) [0, 1] rfl
      have hD9 := hD.sub (ws' := [(h_a0, .inr (8, [.int a0_primes, w_a0_prime, w_a0_isNone, .int a0_hasSpan, .long a0_spanFrom, .int a0_spanMany, w_a0_least, w_a0_greatest, w_a0_isSquared, .int a0_hasPart, .long a0_parted, .int a0_partMany, w_a0_partPrime, w_a0_partPower, .int a0_rows, .ref q_a0_row, .long a0_foundLeast, .long a0_foundGreatest, .int a0_foundSquare])), (q_a0_row, .inl (cJ, 9616, .inr (.inl a0_row)))]) [0, 1] (by decide) rfl
      exact W.iret (v := (-1 : Int32)) hx hb hr (fun t ht hW => ⟨⟨_, (a0_rows, a0_row), rfl, h, by rw [ht]; exact hP9, hD9⟩, hS.F ht⟩) hS.2.2 dX9_rule_22
def wp_X9_sheet (a0_rows : Int32) (a0_row : Nat → Int64)  (Q : Int32 → Int32 → (Nat → Int64) → Prop) : Prop :=
  ((a0_rows = (16 : Int32) → Q (-1 : Int32) a0_rows a0_row) ∧ (¬ a0_rows = (16 : Int32) → (∃ (I_13_1 : Int32 → (Nat → Int64) → Prop) (m_13_1 : Int32 → (Nat → Int64) → Nat), I_13_1 (0 : Int32) a0_row ∧ ∀ (l1_13_1 : Int32) (a0_row_13_1 : Nat → Int64), I_13_1 l1_13_1 a0_row_13_1 → (((600 : Int32) < l1_13_1 → (∀ y_4 : Int32, y_4 = (a0_rows + (1 : Int32)) → Q (y_4 - (1 : Int32)) y_4 a0_row_13_1)) ∧ (¬ (600 : Int32) < l1_13_1 → (vp_in (((601 : Int32) * a0_rows) + l1_13_1) 9616 ∧ (∀ x1_6 : Int32, x1_6 = l1_13_1 + (1 : Int32) → (I_13_1 x1_6 (vp_updL a0_row_13_1 (((601 : Int32) * a0_rows) + l1_13_1).toNatClampNeg (0 : Int64)) ∧ m_13_1 x1_6 (vp_updL a0_row_13_1 (((601 : Int32) * a0_rows) + l1_13_1).toNatClampNeg (0 : Int64)) < m_13_1 l1_13_1 a0_row_13_1))))))))
abbrev rm_X9_sheet : Room := { frames := 0, cells := 0, slots := 0, locals := 0 }
abbrev qc_X9_sheet (dC : Nat → ClassId) (dI : Nat → Nat → Nat) (cI cJ cZ : ClassId) (h_a0 : Nat) (a0_primes : Int32) (w_a0_prime : Value) (w_a0_isNone : Value) (a0_hasSpan : Int32) (a0_spanFrom : Int64) (a0_spanMany : Int32) (w_a0_least : Value) (w_a0_greatest : Value) (w_a0_isSquared : Value) (a0_hasPart : Int32) (a0_parted : Int64) (a0_partMany : Int32) (w_a0_partPrime : Value) (w_a0_partPower : Value) (a0_rows : Int32) (a0_row : Nat → Int64) (q_a0_row : Nat) (a0_foundLeast : Int64) (a0_foundGreatest : Int64) (a0_foundSquare : Int32) (Q : Int32 → Int32 → (Nat → Int64) → Prop) (A : Nat → Prop) : Array Value → State → Outcome → State → Prop := va_Qi (fun (r : Int32) (u : Int32 × (Nat → Int64)) => Q r u.1 u.2) (post_ dC dI A (fun (u : Int32 × (Nat → Int64)) => [(h_a0, .inr (8, [.int a0_primes, w_a0_prime, w_a0_isNone, .int a0_hasSpan, .long a0_spanFrom, .int a0_spanMany, w_a0_least, w_a0_greatest, w_a0_isSquared, .int a0_hasPart, .long a0_parted, .int a0_partMany, w_a0_partPrime, w_a0_partPower, .int u.1, .ref q_a0_row, .long a0_foundLeast, .long a0_foundGreatest, .int a0_foundSquare])), (q_a0_row, .inl (cJ, 9616, .inr (.inl (u.2))))])) A
set_option maxHeartbeats 4000000 in
set_option maxRecDepth 100000 in
theorem c_X9_sheet (l : Launch) (dC : Nat → ClassId) (dI : Nat → Nat → Nat) (cI cJ cZ : ClassId) (sz : Nat) (h_a0 : Nat) (a0_primes : Int32) (w_a0_prime : Value) (w_a0_isNone : Value) (a0_hasSpan : Int32) (a0_spanFrom : Int64) (a0_spanMany : Int32) (w_a0_least : Value) (w_a0_greatest : Value) (w_a0_isSquared : Value) (a0_hasPart : Int32) (a0_parted : Int64) (a0_partMany : Int32) (w_a0_partPrime : Value) (w_a0_partPower : Value) (a0_rows : Int32) (a0_row : Nat → Int64) (q_a0_row : Nat) (a0_foundLeast : Int64) (a0_foundGreatest : Int64) (a0_foundSquare : Int32)  (Q : Int32 → Int32 → (Nat → Int64) → Prop) (hQ : wp_X9_sheet a0_rows a0_row Q) : Met l yX9_sheet wsX9_sheet rm_X9_sheet (pre_ dC dI cI cJ cZ [.ref h_a0] [(h_a0, .inr (8, [.int a0_primes, w_a0_prime, w_a0_isNone, .int a0_hasSpan, .long a0_spanFrom, .int a0_spanMany, w_a0_least, w_a0_greatest, w_a0_isSquared, .int a0_hasPart, .long a0_parted, .int a0_partMany, w_a0_partPrime, w_a0_partPower, .int a0_rows, .ref q_a0_row, .long a0_foundLeast, .long a0_foundGreatest, .int a0_foundSquare])), (q_a0_row, .inl (cJ, 9616, .inr (.inl a0_row)))] sz) (qc_X9_sheet dC dI cI cJ cZ h_a0 a0_primes w_a0_prime w_a0_isNone a0_hasSpan a0_spanFrom a0_spanMany w_a0_least w_a0_greatest w_a0_isSquared a0_hasPart a0_parted a0_partMany w_a0_partPrime w_a0_partPower a0_rows a0_row q_a0_row a0_foundLeast a0_foundGreatest a0_foundSquare Q (va_A [(h_a0, .inr (8, [.int a0_primes, w_a0_prime, w_a0_isNone, .int a0_hasSpan, .long a0_spanFrom, .int a0_spanMany, w_a0_least, w_a0_greatest, w_a0_isSquared, .int a0_hasPart, .long a0_parted, .int a0_partMany, w_a0_partPrime, w_a0_partPower, .int a0_rows, .ref q_a0_row, .long a0_foundLeast, .long a0_foundGreatest, .int a0_foundSquare])), (q_a0_row, .inl (cJ, 9616, .inr (.inl a0_row)))] sz)) 0 0 (va_A [(h_a0, .inr (8, [.int a0_primes, w_a0_prime, w_a0_isNone, .int a0_hasSpan, .long a0_spanFrom, .int a0_spanMany, w_a0_least, w_a0_greatest, w_a0_isSquared, .int a0_hasPart, .long a0_parted, .int a0_partMany, w_a0_partPrime, w_a0_partPower, .int a0_rows, .ref q_a0_row, .long a0_foundLeast, .long a0_foundGreatest, .int a0_foundSquare])), (q_a0_row, .inl (cJ, 9616, .inr (.inl a0_row)))] sz) := by
  refine Met.ofW (cc := cX9_sheet) (maxL := 2) (ret := (some .int)) (by decide) rfl ?_
  intro p e s m args below meth c s₁ B hml hv
  obtain ⟨rfl, hsz, hP, hK, hN, hD0⟩ := hv
  have hx := B.exec
  have hb := B.bytes
  have hr := B.returns
  have hts := atoms_spec (ws := wsX9_sheet) B.pre
  have hown : s.vm.findClass RX9 = some m.cls := findClass_of_methodNamed B.named
  subst hsz
  have hD := hD0.self (sz := s.heap.size)
  generalize hAe : va_A [(h_a0, .inr (8, [.int a0_primes, w_a0_prime, w_a0_isNone, .int a0_hasSpan, .long a0_spanFrom, .int a0_spanMany, w_a0_least, w_a0_greatest, w_a0_isSquared, .int a0_hasPart, .long a0_parted, .int a0_partMany, w_a0_partPrime, w_a0_partPower, .int a0_rows, .ref q_a0_row, .long a0_foundLeast, .long a0_foundGreatest, .int a0_foundSquare])), (q_a0_row, .inl (cJ, 9616, .inr (.inl a0_row)))] s.heap.size = A at hD ⊢
  have hA : ∀ q : Nat, s.heap.size ≤ q → A q := fun q h => by rw [← hAe]; exact Or.inr h
  have hS : va_S A s.heap s.heap [] := va_S.rf
  have hl := lv_entry ([.ref h_a0]) (n := 2) (Nat.le_of_ble_eq_true rfl)
  rw [lg_entry_eq]
  generalize (lg_sl ([.ref h_a0]) ++ List.replicate (2 - (lg_sl ([.ref h_a0])).length) Slot.unset).toArray = ls at hl ⊢
  have hl : lv_has ls 2 [(0, .ref h_a0)] := hl
  have h := hQ
  unfold wp_X9_sheet at h
  have hw_0 := hts (.fieldLink RX9 112 "NumberSievesModel" "rows" "I") (by decide +kernel)
  have hin_X9 : ∀ w ∈ wsX90, w ∈ wsX9_sheet := by decide +kernel
  have hw_2 := hts (.fieldLink RX9 34 "NumberSievesModel" "row" "[J") (by decide +kernel)
  refine lv_aload_n hx hb dX9_sheet_0 rfl (lv_at hl 0 rfl) ?_
  refine va_get (D := (dC, dI)) (ci := 8) (v := .int a0_rows) (C := RX9) (T := TX9) (N := 19) hx hb hts hin_X9 hown hK hP 0 rfl rfl 14 (by decide) hw_0 (fun _ h9 => h9) rfl dX9_sheet_1 ?_
  refine lv_bipush (v := (16 : Int32)) hx hb dX9_sheet_4 (by decide) ?_
  refine lv_icmp_ne (tgt := 11) hx hb dX9_sheet_6 (by decide) (fun c_1 => ?_) (fun c_1 => ?_)
  · replace h := h.2 c_1
    refine lv_iconst (v := (0 : Int32)) hx hb dX9_sheet_11 (by decide) ?_
    refine lv_istore_n (lv' := [(1, .int (0 : Int32)), (0, .ref h_a0)]) hx hb dX9_sheet_12 rfl hl (by decide) rfl (fun ls hl => ?_)
    obtain ⟨I_13_1, m_13_1, h0_13_1, hs_13_1⟩ := h
    have key_13_1 : ∀ (n : Nat) (l1_13_1 : Int32) (a0_row_13_1 : Nat → Int64), m_13_1 l1_13_1 a0_row_13_1 < n → I_13_1 l1_13_1 a0_row_13_1 → ∀ (ls : Array Slot) (H : Heap) (locs : List Loc), lv_has ls 2 [(1, .int l1_13_1), (0, .ref h_a0)] → va_P (dC, dI) vwCl [(h_a0, .inr (8, [.int a0_primes, w_a0_prime, w_a0_isNone, .int a0_hasSpan, .long a0_spanFrom, .int a0_spanMany, w_a0_least, w_a0_greatest, w_a0_isSquared, .int a0_hasPart, .long a0_parted, .int a0_partMany, w_a0_partPrime, w_a0_partPower, .int a0_rows, .ref q_a0_row, .long a0_foundLeast, .long a0_foundGreatest, .int a0_foundSquare])), (q_a0_row, .inl (cJ, 9616, .inr (.inl a0_row_13_1)))] H → va_D A [(h_a0, .inr (8, [.int a0_primes, w_a0_prime, w_a0_isNone, .int a0_hasSpan, .long a0_spanFrom, .int a0_spanMany, w_a0_least, w_a0_greatest, w_a0_isSquared, .int a0_hasPart, .long a0_parted, .int a0_partMany, w_a0_partPrime, w_a0_partPower, .int a0_rows, .ref q_a0_row, .long a0_foundLeast, .long a0_foundGreatest, .int a0_foundSquare])), (q_a0_row, .inl (cJ, 9616, .inr (.inl a0_row_13_1)))] → va_S A s.heap H locs → W p l e (headSpec wsX9_sheet rm_X9_sheet).room s m ([.ref h_a0] : List Value).toArray below meth c H locs 0 0 (MQ below (qc_X9_sheet dC dI cI cJ cZ h_a0 a0_primes w_a0_prime w_a0_isNone a0_hasSpan a0_spanFrom a0_spanMany w_a0_least w_a0_greatest w_a0_isSquared a0_hasPart a0_parted a0_partMany w_a0_partPrime w_a0_partPower a0_rows a0_row q_a0_row a0_foundLeast a0_foundGreatest a0_foundSquare Q A) ([.ref h_a0] : List Value).toArray s 0 0 A) (F0 m 13 ls []) := by
      intro n
      induction n with
      | zero =>
        intro l1_13_1 a0_row_13_1 hm
        exact absurd hm (Nat.not_lt_zero _)
      | succ n ih_13_1 =>
        intro l1_13_1 a0_row_13_1 hm_13_1 hI ls H locs hl hP hD hS
        have h := hs_13_1 l1_13_1 a0_row_13_1 hI
        refine lv_iload_n hx hb dX9_sheet_13 rfl (lv_at hl 0 rfl) ?_
        refine lv_sipush (v := (600 : Int32)) hx hb dX9_sheet_14 (by decide) ?_
        refine lv_icmp_gt (tgt := 42) hx hb dX9_sheet_17 (by decide) (fun c_3 => ?_) (fun c_3 => ?_)
        · replace h := h.1 c_3
          refine lv_aload_n hx hb dX9_sheet_42 rfl (lv_at hl 1 rfl) ?_
          refine lv_dup hx hb dX9_sheet_43 rfl ?_
          refine va_get (D := (dC, dI)) (ci := 8) (v := .int a0_rows) (C := RX9) (T := TX9) (N := 19) hx hb hts hin_X9 hown hK hP 0 rfl rfl 14 (by decide) hw_0 (fun _ h9 => h9) rfl dX9_sheet_44 ?_
          refine lv_iconst (v := (1 : Int32)) hx hb dX9_sheet_47 (by decide) ?_
          refine lv_iadd hx hb dX9_sheet_48 ?_
          refine lv_topi (fun y_4 e_y_4 => ?_)
          replace h := h y_4 e_y_4
          refine va_put (D := (dC, dI)) (ci := 8) (v := .int y_4) (ty := .int) (C := RX9) (T := TX9) (N := 19) hx hb hts hin_X9 tyX9 tyX9_ok nmX9 hown hK hP hD hS 0 rfl rfl 14 (by decide) hw_0 (fun _ h9 => h9) rfl (by decide +kernel) rfl rfl (Nat.le_of_ble_eq_true rfl) dX9_sheet_49 (fun H locs hP hD hS => ?_)
          have hP : va_P (dC, dI) vwCl [(h_a0, .inr (8, [.int a0_primes, w_a0_prime, w_a0_isNone, .int a0_hasSpan, .long a0_spanFrom, .int a0_spanMany, w_a0_least, w_a0_greatest, w_a0_isSquared, .int a0_hasPart, .long a0_parted, .int a0_partMany, w_a0_partPrime, w_a0_partPower, .int y_4, .ref q_a0_row, .long a0_foundLeast, .long a0_foundGreatest, .int a0_foundSquare])), (q_a0_row, .inl (cJ, 9616, .inr (.inl a0_row_13_1)))] H := hP
          have hD : va_D A [(h_a0, .inr (8, [.int a0_primes, w_a0_prime, w_a0_isNone, .int a0_hasSpan, .long a0_spanFrom, .int a0_spanMany, w_a0_least, w_a0_greatest, w_a0_isSquared, .int a0_hasPart, .long a0_parted, .int a0_partMany, w_a0_partPrime, w_a0_partPower, .int y_4, .ref q_a0_row, .long a0_foundLeast, .long a0_foundGreatest, .int a0_foundSquare])), (q_a0_row, .inl (cJ, 9616, .inr (.inl a0_row_13_1)))] := hD
          refine lv_aload_n hx hb dX9_sheet_52 rfl (lv_at hl 1 rfl) ?_
          refine va_get (D := (dC, dI)) (ci := 8) (v := .int y_4) (C := RX9) (T := TX9) (N := 19) hx hb hts hin_X9 hown hK hP 0 rfl rfl 14 (by decide) hw_0 (fun _ h9 => h9) rfl dX9_sheet_53 ?_
          refine lv_iconst (v := (1 : Int32)) hx hb dX9_sheet_56 (by decide) ?_
          refine lv_isub hx hb dX9_sheet_57 ?_
          have hP9 := hP.sub (ws' := [(h_a0, .inr (8, [.int a0_primes, w_a0_prime, w_a0_isNone, .int a0_hasSpan, .long a0_spanFrom, .int a0_spanMany, w_a0_least, w_a0_greatest, w_a0_isSquared, .int a0_hasPart, .long a0_parted, .int a0_partMany, w_a0_partPrime, w_a0_partPower, .int y_4, .ref q_a0_row, .long a0_foundLeast, .long a0_foundGreatest, .int a0_foundSquare])), (q_a0_row, .inl (cJ, 9616, .inr (.inl a0_row_13_1)))]) [0, 1] rfl
          have hD9 := hD.sub (ws' := [(h_a0, .inr (8, [.int a0_primes, w_a0_prime, w_a0_isNone, .int a0_hasSpan, .long a0_spanFrom, .int a0_spanMany, w_a0_least, w_a0_greatest, w_a0_isSquared, .int a0_hasPart, .long a0_parted, .int a0_partMany, w_a0_partPrime, w_a0_partPower, .int y_4, .ref q_a0_row, .long a0_foundLeast, .long a0_foundGreatest, .int a0_foundSquare])), (q_a0_row, .inl (cJ, 9616, .inr (.inl a0_row_13_1)))]) [0, 1] (by decide) rfl
          exact W.iret (v := (y_4 - (1 : Int32))) hx hb hr (fun t ht hW => ⟨⟨_, (y_4, a0_row_13_1), rfl, h, by rw [ht]; exact hP9, hD9⟩, hS.F ht⟩) hS.2.2 dX9_sheet_58
        · replace h := h.2 c_3
          refine lv_aload_n hx hb dX9_sheet_20 rfl (lv_at hl 1 rfl) ?_
          refine va_get (D := (dC, dI)) (ci := 8) (v := .ref q_a0_row) (C := RX9) (T := TX9) (N := 19) hx hb hts hin_X9 hown hK hP 0 rfl rfl 15 (by decide) hw_2 (fun _ h9 => h9) rfl dX9_sheet_21 ?_
          refine lv_sipush (v := (601 : Int32)) hx hb dX9_sheet_24 (by decide) ?_
          refine lv_aload_n hx hb dX9_sheet_27 rfl (lv_at hl 1 rfl) ?_
          refine va_get (D := (dC, dI)) (ci := 8) (v := .int a0_rows) (C := RX9) (T := TX9) (N := 19) hx hb hts hin_X9 hown hK hP 0 rfl rfl 14 (by decide) hw_0 (fun _ h9 => h9) rfl dX9_sheet_28 ?_
          refine lv_imul hx hb dX9_sheet_31 ?_
          refine lv_iload_n hx hb dX9_sheet_32 rfl (lv_at hl 0 rfl) ?_
          refine lv_iadd hx hb dX9_sheet_33 ?_
          refine lv_lconst (v := (0 : Int64)) hx hb dX9_sheet_34 (by decide) ?_
          obtain ⟨hin_5, h⟩ := h
          refine va_last hx hb hK hP hD hS 1 1 rfl rfl hin_5 dX9_sheet_35 (fun H locs hP hD hS => ?_)
          have hP : va_P (dC, dI) vwCl [(h_a0, .inr (8, [.int a0_primes, w_a0_prime, w_a0_isNone, .int a0_hasSpan, .long a0_spanFrom, .int a0_spanMany, w_a0_least, w_a0_greatest, w_a0_isSquared, .int a0_hasPart, .long a0_parted, .int a0_partMany, w_a0_partPrime, w_a0_partPower, .int a0_rows, .ref q_a0_row, .long a0_foundLeast, .long a0_foundGreatest, .int a0_foundSquare])), (q_a0_row, .inl (cJ, 9616, .inr (.inl (vp_updL a0_row_13_1 (((601 : Int32) * a0_rows) + l1_13_1).toNatClampNeg (0 : Int64)))))] H := hP
          have hD : va_D A [(h_a0, .inr (8, [.int a0_primes, w_a0_prime, w_a0_isNone, .int a0_hasSpan, .long a0_spanFrom, .int a0_spanMany, w_a0_least, w_a0_greatest, w_a0_isSquared, .int a0_hasPart, .long a0_parted, .int a0_partMany, w_a0_partPrime, w_a0_partPower, .int a0_rows, .ref q_a0_row, .long a0_foundLeast, .long a0_foundGreatest, .int a0_foundSquare])), (q_a0_row, .inl (cJ, 9616, .inr (.inl (vp_updL a0_row_13_1 (((601 : Int32) * a0_rows) + l1_13_1).toNatClampNeg (0 : Int64)))))] := hD
          obtain ⟨x1_6, e_x1_6⟩ : ∃ y : Int32, y = l1_13_1 + (1 : Int32) := ⟨_, rfl⟩
          replace h := h x1_6 e_x1_6
          refine lv_iinc (v := x1_6) (lv' := [(1, .int x1_6), (0, .ref h_a0)]) hx hb dX9_sheet_36 hl (k := 0) rfl (by rw [e_x1_6]; rfl) (by decide) rfl (fun ls hl => ?_)
          refine lv_goto (tgt := 13) hx hb dX9_sheet_39 (by decide) ?_
          exact ih_13_1 x1_6 (vp_updL a0_row_13_1 (((601 : Int32) * a0_rows) + l1_13_1).toNatClampNeg (0 : Int64)) (Nat.lt_of_lt_of_le h.2 (Nat.le_of_lt_succ hm_13_1)) h.1 _ _ _ (lv_sub hl [0, 1] rfl) (hP.sub [0, 1] rfl) (hD.sub [0, 1] (by decide) rfl) hS
    exact key_13_1 _ (0 : Int32) a0_row (Nat.lt_succ_self _) h0_13_1 _ _ _ (lv_sub hl [0, 1] rfl) (hP.sub [0, 1] rfl) (hD.sub [0, 1] (by decide) rfl) hS
  · replace h := h.1 c_1
    refine lv_iconst (v := (-1 : Int32)) hx hb dX9_sheet_9 (by decide) ?_
    have hP9 := hP.sub (ws' := [(h_a0, .inr (8, [.int a0_primes, w_a0_prime, w_a0_isNone, .int a0_hasSpan, .long a0_spanFrom, .int a0_spanMany, w_a0_least, w_a0_greatest, w_a0_isSquared, .int a0_hasPart, .long a0_parted, .int a0_partMany, w_a0_partPrime, w_a0_partPower, .int a0_rows, .ref q_a0_row, .long a0_foundLeast, .long a0_foundGreatest, .int a0_foundSquare])), (q_a0_row, .inl (cJ, 9616, .inr (.inl a0_row)))]) [0, 1] rfl
    have hD9 := hD.sub (ws' := [(h_a0, .inr (8, [.int a0_primes, w_a0_prime, w_a0_isNone, .int a0_hasSpan, .long a0_spanFrom, .int a0_spanMany, w_a0_least, w_a0_greatest, w_a0_isSquared, .int a0_hasPart, .long a0_parted, .int a0_partMany, w_a0_partPrime, w_a0_partPower, .int a0_rows, .ref q_a0_row, .long a0_foundLeast, .long a0_foundGreatest, .int a0_foundSquare])), (q_a0_row, .inl (cJ, 9616, .inr (.inl a0_row)))]) [0, 1] (by decide) rfl
    exact W.iret (v := (-1 : Int32)) hx hb hr (fun t ht hW => ⟨⟨_, (a0_rows, a0_row), rfl, h, by rw [ht]; exact hP9, hD9⟩, hS.F ht⟩) hS.2.2 dX9_sheet_10
def wp_X9_tell (a0_rows : Int32) (a0_row : Nat → Int64) (p1 : Int32) (p2 : Int32) (p3 : Int64) (Q : Int32 → (Nat → Int64) → Prop) : Prop :=
  wp_X9_isRow a0_rows p1 (fun r_1 => ((r_1 = (0 : Int32) → Q (0 : Int32) a0_row) ∧ (¬ r_1 = (0 : Int32) → wp_X9_in (p2.toInt64) (1 : Int64) (600 : Int64) (fun r_3 => ((r_3 = (0 : Int32) → Q (0 : Int32) a0_row) ∧ (¬ r_3 = (0 : Int32) → (vp_in (((601 : Int32) * p1) + p2) 9616 ∧ Q (1 : Int32) (vp_updL a0_row (((601 : Int32) * p1) + p2).toNatClampNeg p3))))))))
abbrev rm_X9_tell : Room := { frames := 2, cells := 0, slots := 0, locals := 46 }
abbrev qc_X9_tell (dC : Nat → ClassId) (dI : Nat → Nat → Nat) (cI cJ cZ : ClassId) (h_a0 : Nat) (a0_primes : Int32) (w_a0_prime : Value) (w_a0_isNone : Value) (a0_hasSpan : Int32) (a0_spanFrom : Int64) (a0_spanMany : Int32) (w_a0_least : Value) (w_a0_greatest : Value) (w_a0_isSquared : Value) (a0_hasPart : Int32) (a0_parted : Int64) (a0_partMany : Int32) (w_a0_partPrime : Value) (w_a0_partPower : Value) (a0_rows : Int32) (a0_row : Nat → Int64) (q_a0_row : Nat) (a0_foundLeast : Int64) (a0_foundGreatest : Int64) (a0_foundSquare : Int32) (Q : Int32 → (Nat → Int64) → Prop) (A : Nat → Prop) : Array Value → State → Outcome → State → Prop := va_Qi (fun (r : Int32) (u : (Nat → Int64)) => Q r u) (post_ dC dI A (fun (u : (Nat → Int64)) => [(h_a0, .inr (8, [.int a0_primes, w_a0_prime, w_a0_isNone, .int a0_hasSpan, .long a0_spanFrom, .int a0_spanMany, w_a0_least, w_a0_greatest, w_a0_isSquared, .int a0_hasPart, .long a0_parted, .int a0_partMany, w_a0_partPrime, w_a0_partPower, .int a0_rows, .ref q_a0_row, .long a0_foundLeast, .long a0_foundGreatest, .int a0_foundSquare])), (q_a0_row, .inl (cJ, 9616, .inr (.inl u)))])) A
set_option maxHeartbeats 4000000 in
set_option maxRecDepth 100000 in
theorem c_X9_tell (l : Launch) (dC : Nat → ClassId) (dI : Nat → Nat → Nat) (cI cJ cZ : ClassId) (sz : Nat) (h_a0 : Nat) (a0_primes : Int32) (w_a0_prime : Value) (w_a0_isNone : Value) (a0_hasSpan : Int32) (a0_spanFrom : Int64) (a0_spanMany : Int32) (w_a0_least : Value) (w_a0_greatest : Value) (w_a0_isSquared : Value) (a0_hasPart : Int32) (a0_parted : Int64) (a0_partMany : Int32) (w_a0_partPrime : Value) (w_a0_partPower : Value) (a0_rows : Int32) (a0_row : Nat → Int64) (q_a0_row : Nat) (a0_foundLeast : Int64) (a0_foundGreatest : Int64) (a0_foundSquare : Int32) (p1 : Int32) (p2 : Int32) (p3 : Int64) (Q : Int32 → (Nat → Int64) → Prop) (hQ : wp_X9_tell a0_rows a0_row p1 p2 p3 Q) : Met l yX9_tell wsX9_tell rm_X9_tell (pre_ dC dI cI cJ cZ [.ref h_a0, .int p1, .int p2, .long p3] [(h_a0, .inr (8, [.int a0_primes, w_a0_prime, w_a0_isNone, .int a0_hasSpan, .long a0_spanFrom, .int a0_spanMany, w_a0_least, w_a0_greatest, w_a0_isSquared, .int a0_hasPart, .long a0_parted, .int a0_partMany, w_a0_partPrime, w_a0_partPower, .int a0_rows, .ref q_a0_row, .long a0_foundLeast, .long a0_foundGreatest, .int a0_foundSquare])), (q_a0_row, .inl (cJ, 9616, .inr (.inl a0_row)))] sz) (qc_X9_tell dC dI cI cJ cZ h_a0 a0_primes w_a0_prime w_a0_isNone a0_hasSpan a0_spanFrom a0_spanMany w_a0_least w_a0_greatest w_a0_isSquared a0_hasPart a0_parted a0_partMany w_a0_partPrime w_a0_partPower a0_rows a0_row q_a0_row a0_foundLeast a0_foundGreatest a0_foundSquare Q (va_A [(h_a0, .inr (8, [.int a0_primes, w_a0_prime, w_a0_isNone, .int a0_hasSpan, .long a0_spanFrom, .int a0_spanMany, w_a0_least, w_a0_greatest, w_a0_isSquared, .int a0_hasPart, .long a0_parted, .int a0_partMany, w_a0_partPrime, w_a0_partPower, .int a0_rows, .ref q_a0_row, .long a0_foundLeast, .long a0_foundGreatest, .int a0_foundSquare])), (q_a0_row, .inl (cJ, 9616, .inr (.inl a0_row)))] sz)) 0 0 (va_A [(h_a0, .inr (8, [.int a0_primes, w_a0_prime, w_a0_isNone, .int a0_hasSpan, .long a0_spanFrom, .int a0_spanMany, w_a0_least, w_a0_greatest, w_a0_isSquared, .int a0_hasPart, .long a0_parted, .int a0_partMany, w_a0_partPrime, w_a0_partPower, .int a0_rows, .ref q_a0_row, .long a0_foundLeast, .long a0_foundGreatest, .int a0_foundSquare])), (q_a0_row, .inl (cJ, 9616, .inr (.inl a0_row)))] sz) := by
  refine Met.ofW (cc := cX9_tell) (maxL := 5) (ret := (some .boolean)) (by decide) rfl ?_
  intro p e s m args below meth c s₁ B hml hv
  obtain ⟨rfl, hsz, hP, hK, hN, hD0⟩ := hv
  have hx := B.exec
  have hb := B.bytes
  have hr := B.returns
  have hts := atoms_spec (ws := wsX9_tell) B.pre
  have hown : s.vm.findClass RX9 = some m.cls := findClass_of_methodNamed B.named
  subst hsz
  have hD := hD0.self (sz := s.heap.size)
  generalize hAe : va_A [(h_a0, .inr (8, [.int a0_primes, w_a0_prime, w_a0_isNone, .int a0_hasSpan, .long a0_spanFrom, .int a0_spanMany, w_a0_least, w_a0_greatest, w_a0_isSquared, .int a0_hasPart, .long a0_parted, .int a0_partMany, w_a0_partPrime, w_a0_partPower, .int a0_rows, .ref q_a0_row, .long a0_foundLeast, .long a0_foundGreatest, .int a0_foundSquare])), (q_a0_row, .inl (cJ, 9616, .inr (.inl a0_row)))] s.heap.size = A at hD ⊢
  have hA : ∀ q : Nat, s.heap.size ≤ q → A q := fun q h => by rw [← hAe]; exact Or.inr h
  have hS : va_S A s.heap s.heap [] := va_S.rf
  have hl := lv_entry ([.ref h_a0, .int p1, .int p2, .long p3]) (n := 5) (Nat.le_of_ble_eq_true rfl)
  rw [lg_entry_eq]
  generalize (lg_sl ([.ref h_a0, .int p1, .int p2, .long p3]) ++ List.replicate (5 - (lg_sl ([.ref h_a0, .int p1, .int p2, .long p3])).length) Slot.unset).toArray = ls at hl ⊢
  have hl : lv_has ls 5 [(0, .ref h_a0), (1, .int p1), (2, .int p2), (3, .long p3)] := hl
  have h := hQ
  unfold wp_X9_tell at h
  have hw_0 := hts (.constantLong RX9 132 (600)) (by decide +kernel)
  have hw_1 := hts (.fieldLink RX9 34 "NumberSievesModel" "row" "[J") (by decide +kernel)
  have hin_X9 : ∀ w ∈ wsX90, w ∈ wsX9_tell := by decide +kernel
  refine lv_aload_n hx hb dX9_tell_0 rfl (lv_at hl 0 rfl) ?_
  refine lv_iload_n hx hb dX9_tell_1 rfl (lv_at hl 1 rfl) ?_
  have hPc := hP.sub (ws' := [(h_a0, .inr (8, [.int a0_primes, w_a0_prime, w_a0_isNone, .int a0_hasSpan, .long a0_spanFrom, .int a0_spanMany, w_a0_least, w_a0_greatest, w_a0_isSquared, .int a0_hasPart, .long a0_parted, .int a0_partMany, w_a0_partPrime, w_a0_partPower, .int a0_rows, .ref q_a0_row, .long a0_foundLeast, .long a0_foundGreatest, .int a0_foundSquare]))]) [0] rfl
  have hDc := hD.sub (ws' := [(h_a0, .inr (8, [.int a0_primes, w_a0_prime, w_a0_isNone, .int a0_hasSpan, .long a0_spanFrom, .int a0_spanMany, w_a0_least, w_a0_greatest, w_a0_isSquared, .int a0_hasPart, .long a0_parted, .int a0_partMany, w_a0_partPrime, w_a0_partPower, .int a0_rows, .ref q_a0_row, .long a0_foundLeast, .long a0_foundGreatest, .int a0_foundSquare]))]) [0] (by decide) rfl
  have hFc := va_free (wc := [(h_a0, .inr (8, [.int a0_primes, w_a0_prime, w_a0_isNone, .int a0_hasSpan, .long a0_spanFrom, .int a0_spanMany, w_a0_least, w_a0_greatest, w_a0_isSquared, .int a0_hasPart, .long a0_parted, .int a0_partMany, w_a0_partPrime, w_a0_partPower, .int a0_rows, .ref q_a0_row, .long a0_foundLeast, .long a0_foundGreatest, .int a0_foundSquare]))]) hD hS hA [0] rfl
  refine va_calli (va_runV (As := [.int p1]) (rest := []) ⟨hx, hb, hml, hown, hts⟩ (c_X9_isRow l dC dI cI cJ cZ _ h_a0 a0_primes (w_a0_prime) (w_a0_isNone) a0_hasSpan a0_spanFrom a0_spanMany (w_a0_least) (w_a0_greatest) (w_a0_isSquared) a0_hasPart a0_parted a0_partMany (w_a0_partPrime) (w_a0_partPower) a0_rows (.ref q_a0_row) a0_foundLeast a0_foundGreatest a0_foundSquare p1 _ h) (cwV 1 hts gX9_tell_X9_isRow rfl rfl rfl (by decide +kernel) ⟨Nat.le_of_ble_eq_true rfl, Nat.le_of_ble_eq_true rfl⟩) ⟨pre_fb, va_recv hK hPc (ci := 8) (q0 := 0) rfl rfl, pre_of hPc hDc hK hN⟩ rfl rfl hl.1 rfl (lv_room (Nat.le_of_ble_eq_true rfl)) dX9_tell_2 ⟨by first | exact Nat.le_of_ble_eq_true rfl | exact Nat.le_refl _, by first | exact Nat.le_of_ble_eq_true rfl | exact Nat.le_refl _⟩) hS (fun q _ h => hFc q h) hFc (fun r_1 u t H1 locs ht hvm h hB hz1 hk1 hS => ?_)
  obtain ⟨hP1, hD1⟩ := hB
  rw [ht] at hP1
  try dsimp only at h
  obtain ⟨hP, hD⟩ := va_join (wr := [(q_a0_row, .inl (cJ, 9616, .inr (.inl a0_row)))]) (w1 := [(h_a0, .inr (8, [.int a0_primes, w_a0_prime, w_a0_isNone, .int a0_hasSpan, .long a0_spanFrom, .int a0_spanMany, w_a0_least, w_a0_greatest, w_a0_isSquared, .int a0_hasPart, .long a0_parted, .int a0_partMany, w_a0_partPrime, w_a0_partPower, .int a0_rows, .ref q_a0_row, .long a0_foundLeast, .long a0_foundGreatest, .int a0_foundSquare]))]) hP hD [0] [1] rfl rfl (by decide) (by decide) hk1 hFc hP1 hD1
  generalize H1 = H at hP hS ⊢
  have hP : va_P (dC, dI) vwCl [(q_a0_row, .inl (cJ, 9616, .inr (.inl a0_row))), (h_a0, .inr (8, [.int a0_primes, w_a0_prime, w_a0_isNone, .int a0_hasSpan, .long a0_spanFrom, .int a0_spanMany, w_a0_least, w_a0_greatest, w_a0_isSquared, .int a0_hasPart, .long a0_parted, .int a0_partMany, w_a0_partPrime, w_a0_partPower, .int a0_rows, .ref q_a0_row, .long a0_foundLeast, .long a0_foundGreatest, .int a0_foundSquare]))] H := hP
  have hD : va_D A [(q_a0_row, .inl (cJ, 9616, .inr (.inl a0_row))), (h_a0, .inr (8, [.int a0_primes, w_a0_prime, w_a0_isNone, .int a0_hasSpan, .long a0_spanFrom, .int a0_spanMany, w_a0_least, w_a0_greatest, w_a0_isSquared, .int a0_hasPart, .long a0_parted, .int a0_partMany, w_a0_partPrime, w_a0_partPower, .int a0_rows, .ref q_a0_row, .long a0_foundLeast, .long a0_foundGreatest, .int a0_foundSquare]))] := hD
  refine lv_if_eq (tgt := 20) hx hb dX9_tell_5 (by decide) (fun c_2 => ?_) (fun c_2 => ?_)
  · replace h := h.1 c_2
    refine lv_iconst (v := (0 : Int32)) hx hb dX9_tell_20 (by decide) ?_
    have hP9 := hP.sub (ws' := [(h_a0, .inr (8, [.int a0_primes, w_a0_prime, w_a0_isNone, .int a0_hasSpan, .long a0_spanFrom, .int a0_spanMany, w_a0_least, w_a0_greatest, w_a0_isSquared, .int a0_hasPart, .long a0_parted, .int a0_partMany, w_a0_partPrime, w_a0_partPower, .int a0_rows, .ref q_a0_row, .long a0_foundLeast, .long a0_foundGreatest, .int a0_foundSquare])), (q_a0_row, .inl (cJ, 9616, .inr (.inl a0_row)))]) [1, 0] rfl
    have hD9 := hD.sub (ws' := [(h_a0, .inr (8, [.int a0_primes, w_a0_prime, w_a0_isNone, .int a0_hasSpan, .long a0_spanFrom, .int a0_spanMany, w_a0_least, w_a0_greatest, w_a0_isSquared, .int a0_hasPart, .long a0_parted, .int a0_partMany, w_a0_partPrime, w_a0_partPower, .int a0_rows, .ref q_a0_row, .long a0_foundLeast, .long a0_foundGreatest, .int a0_foundSquare])), (q_a0_row, .inl (cJ, 9616, .inr (.inl a0_row)))]) [1, 0] (by decide) rfl
    exact W.zret (v := (0 : Int32)) hx hb hr (by decide) (fun t ht hW => ⟨⟨_, a0_row, rfl, h, by rw [ht]; exact hP9, hD9⟩, hS.F ht⟩) hS.2.2 dX9_tell_21
  · replace h := h.2 c_2
    refine lv_iload_n hx hb dX9_tell_8 rfl (lv_at hl 2 rfl) ?_
    refine lv_i2l hx hb dX9_tell_9 rfl ?_
    refine lv_lconst (v := (1 : Int64)) hx hb dX9_tell_10 (by decide) ?_
    refine lv_ldc2 hx hb hown hw_0 dX9_tell_11 ?_
    have hPc := hP.sub (ws' := []) [] rfl
    have hDc := hD.sub (ws' := []) [] (by decide) rfl
    have hFc := va_free (wc := []) hD hS hA [] rfl
    refine va_calli (va_runS (As := [.long p2.toInt64, .long (1 : Int64), .long (600 : Int64)]) (rest := []) ⟨hx, hb, hml, hown, hts⟩ (c_X9_in l dC dI cI cJ cZ _ (p2.toInt64) (1 : Int64) (600 : Int64) _ h) (va_cwS 3 hts gX9_tell_X9_in rfl rfl rfl (by decide +kernel) ⟨Nat.le_of_ble_eq_true rfl, Nat.le_of_ble_eq_true rfl⟩) ⟨pre_fb, pre_of hPc hDc hK hN⟩ rfl rfl hl.1 rfl (lv_room (Nat.le_of_ble_eq_true rfl)) dX9_tell_14 ⟨by first | exact Nat.le_of_ble_eq_true rfl | exact Nat.le_refl _, by first | exact Nat.le_of_ble_eq_true rfl | exact Nat.le_refl _⟩) hS (fun q _ h => hFc q h) hFc (fun r_3 u t H1 locs ht hvm h hB hz1 hk1 hS => ?_)
    obtain ⟨hP1, hD1⟩ := hB
    rw [ht] at hP1
    try dsimp only at h
    obtain ⟨hP, hD⟩ := va_join (wr := [(q_a0_row, .inl (cJ, 9616, .inr (.inl a0_row))), (h_a0, .inr (8, [.int a0_primes, w_a0_prime, w_a0_isNone, .int a0_hasSpan, .long a0_spanFrom, .int a0_spanMany, w_a0_least, w_a0_greatest, w_a0_isSquared, .int a0_hasPart, .long a0_parted, .int a0_partMany, w_a0_partPrime, w_a0_partPower, .int a0_rows, .ref q_a0_row, .long a0_foundLeast, .long a0_foundGreatest, .int a0_foundSquare]))]) (w1 := []) hP hD [] [0, 1] rfl rfl (by decide) (by decide) hk1 hFc hP1 hD1
    generalize H1 = H at hP hS ⊢
    have hP : va_P (dC, dI) vwCl [(q_a0_row, .inl (cJ, 9616, .inr (.inl a0_row))), (h_a0, .inr (8, [.int a0_primes, w_a0_prime, w_a0_isNone, .int a0_hasSpan, .long a0_spanFrom, .int a0_spanMany, w_a0_least, w_a0_greatest, w_a0_isSquared, .int a0_hasPart, .long a0_parted, .int a0_partMany, w_a0_partPrime, w_a0_partPower, .int a0_rows, .ref q_a0_row, .long a0_foundLeast, .long a0_foundGreatest, .int a0_foundSquare]))] H := hP
    have hD : va_D A [(q_a0_row, .inl (cJ, 9616, .inr (.inl a0_row))), (h_a0, .inr (8, [.int a0_primes, w_a0_prime, w_a0_isNone, .int a0_hasSpan, .long a0_spanFrom, .int a0_spanMany, w_a0_least, w_a0_greatest, w_a0_isSquared, .int a0_hasPart, .long a0_parted, .int a0_partMany, w_a0_partPrime, w_a0_partPower, .int a0_rows, .ref q_a0_row, .long a0_foundLeast, .long a0_foundGreatest, .int a0_foundSquare]))] := hD
    refine lv_if_ne (tgt := 22) hx hb dX9_tell_17 (by decide) (fun c_4 => ?_) (fun c_4 => ?_)
    · replace h := h.2 c_4
      refine lv_aload_n hx hb dX9_tell_22 rfl (lv_at hl 0 rfl) ?_
      refine va_get (D := (dC, dI)) (ci := 8) (v := .ref q_a0_row) (C := RX9) (T := TX9) (N := 19) hx hb hts hin_X9 hown hK hP 1 rfl rfl 15 (by decide) hw_1 (fun _ h9 => h9) rfl dX9_tell_23 ?_
      refine lv_sipush (v := (601 : Int32)) hx hb dX9_tell_26 (by decide) ?_
      refine lv_iload_n hx hb dX9_tell_29 rfl (lv_at hl 1 rfl) ?_
      refine lv_imul hx hb dX9_tell_30 ?_
      refine lv_iload_n hx hb dX9_tell_31 rfl (lv_at hl 2 rfl) ?_
      refine lv_iadd hx hb dX9_tell_32 ?_
      refine lv_lload_n hx hb dX9_tell_33 rfl (lv_at hl 3 rfl) ?_
      obtain ⟨hin_5, h⟩ := h
      refine va_last hx hb hK hP hD hS 0 1 rfl rfl hin_5 dX9_tell_34 (fun H locs hP hD hS => ?_)
      have hP : va_P (dC, dI) vwCl [(q_a0_row, .inl (cJ, 9616, .inr (.inl (vp_updL a0_row (((601 : Int32) * p1) + p2).toNatClampNeg p3)))), (h_a0, .inr (8, [.int a0_primes, w_a0_prime, w_a0_isNone, .int a0_hasSpan, .long a0_spanFrom, .int a0_spanMany, w_a0_least, w_a0_greatest, w_a0_isSquared, .int a0_hasPart, .long a0_parted, .int a0_partMany, w_a0_partPrime, w_a0_partPower, .int a0_rows, .ref q_a0_row, .long a0_foundLeast, .long a0_foundGreatest, .int a0_foundSquare]))] H := hP
      have hD : va_D A [(q_a0_row, .inl (cJ, 9616, .inr (.inl (vp_updL a0_row (((601 : Int32) * p1) + p2).toNatClampNeg p3)))), (h_a0, .inr (8, [.int a0_primes, w_a0_prime, w_a0_isNone, .int a0_hasSpan, .long a0_spanFrom, .int a0_spanMany, w_a0_least, w_a0_greatest, w_a0_isSquared, .int a0_hasPart, .long a0_parted, .int a0_partMany, w_a0_partPrime, w_a0_partPower, .int a0_rows, .ref q_a0_row, .long a0_foundLeast, .long a0_foundGreatest, .int a0_foundSquare]))] := hD
      refine lv_iconst (v := (1 : Int32)) hx hb dX9_tell_35 (by decide) ?_
      have hP9 := hP.sub (ws' := [(h_a0, .inr (8, [.int a0_primes, w_a0_prime, w_a0_isNone, .int a0_hasSpan, .long a0_spanFrom, .int a0_spanMany, w_a0_least, w_a0_greatest, w_a0_isSquared, .int a0_hasPart, .long a0_parted, .int a0_partMany, w_a0_partPrime, w_a0_partPower, .int a0_rows, .ref q_a0_row, .long a0_foundLeast, .long a0_foundGreatest, .int a0_foundSquare])), (q_a0_row, .inl (cJ, 9616, .inr (.inl (vp_updL a0_row (((601 : Int32) * p1) + p2).toNatClampNeg p3))))]) [1, 0] rfl
      have hD9 := hD.sub (ws' := [(h_a0, .inr (8, [.int a0_primes, w_a0_prime, w_a0_isNone, .int a0_hasSpan, .long a0_spanFrom, .int a0_spanMany, w_a0_least, w_a0_greatest, w_a0_isSquared, .int a0_hasPart, .long a0_parted, .int a0_partMany, w_a0_partPrime, w_a0_partPower, .int a0_rows, .ref q_a0_row, .long a0_foundLeast, .long a0_foundGreatest, .int a0_foundSquare])), (q_a0_row, .inl (cJ, 9616, .inr (.inl (vp_updL a0_row (((601 : Int32) * p1) + p2).toNatClampNeg p3))))]) [1, 0] (by decide) rfl
      exact W.zret (v := (1 : Int32)) hx hb hr (by decide) (fun t ht hW => ⟨⟨_, (vp_updL a0_row (((601 : Int32) * p1) + p2).toNatClampNeg p3), rfl, h, by rw [ht]; exact hP9, hD9⟩, hS.F ht⟩) hS.2.2 dX9_tell_36
    · replace h := h.1 c_4
      refine lv_iconst (v := (0 : Int32)) hx hb dX9_tell_20 (by decide) ?_
      have hP9 := hP.sub (ws' := [(h_a0, .inr (8, [.int a0_primes, w_a0_prime, w_a0_isNone, .int a0_hasSpan, .long a0_spanFrom, .int a0_spanMany, w_a0_least, w_a0_greatest, w_a0_isSquared, .int a0_hasPart, .long a0_parted, .int a0_partMany, w_a0_partPrime, w_a0_partPower, .int a0_rows, .ref q_a0_row, .long a0_foundLeast, .long a0_foundGreatest, .int a0_foundSquare])), (q_a0_row, .inl (cJ, 9616, .inr (.inl a0_row)))]) [1, 0] rfl
      have hD9 := hD.sub (ws' := [(h_a0, .inr (8, [.int a0_primes, w_a0_prime, w_a0_isNone, .int a0_hasSpan, .long a0_spanFrom, .int a0_spanMany, w_a0_least, w_a0_greatest, w_a0_isSquared, .int a0_hasPart, .long a0_parted, .int a0_partMany, w_a0_partPrime, w_a0_partPower, .int a0_rows, .ref q_a0_row, .long a0_foundLeast, .long a0_foundGreatest, .int a0_foundSquare])), (q_a0_row, .inl (cJ, 9616, .inr (.inl a0_row)))]) [1, 0] (by decide) rfl
      exact W.zret (v := (0 : Int32)) hx hb hr (by decide) (fun t ht hW => ⟨⟨_, a0_row, rfl, h, by rw [ht]; exact hP9, hD9⟩, hS.F ht⟩) hS.2.2 dX9_tell_21
def wp_X9_product (a0_rows : Int32) (a0_row : Nat → Int64) (p1 : Int32) (p2 : Int32) (Q : Int32 → Int32 → (Nat → Int64) → Prop) : Prop :=
  wp_X9_isRow a0_rows p1 (fun r_1 => ((r_1 = (0 : Int32) → Q (-1 : Int32) a0_rows a0_row) ∧ (¬ r_1 = (0 : Int32) → wp_X9_isRow a0_rows p2 (fun r_3 => ((r_3 = (0 : Int32) → Q (-1 : Int32) a0_rows a0_row) ∧ (¬ r_3 = (0 : Int32) → ((a0_rows = (16 : Int32) → Q (-1 : Int32) a0_rows a0_row) ∧ (¬ a0_rows = (16 : Int32) → (∃ (I_29_5 : Int32 → (Nat → Int64) → Prop) (m_29_5 : Int32 → (Nat → Int64) → Nat), I_29_5 (1 : Int32) a0_row ∧ ∀ (l3_29_5 : Int32) (a0_row_29_5 : Nat → Int64), I_29_5 l3_29_5 a0_row_29_5 → (((600 : Int32) < l3_29_5 → (∀ y_8 : Int32, y_8 = (a0_rows + (1 : Int32)) → Q (y_8 - (1 : Int32)) y_8 a0_row_29_5)) ∧ (¬ (600 : Int32) < l3_29_5 → (∃ (I_42_8 : Int32 → Int64 → Prop) (m_42_8 : Int32 → Int64 → Nat), I_42_8 (1 : Int32) (0 : Int64) ∧ ∀ (l6_42_8 : Int32) (l4_42_8 : Int64), I_42_8 l6_42_8 l4_42_8 → ((l3_29_5 < l6_42_8 → (vp_in (((601 : Int32) * a0_rows) + l3_29_5) 9616 ∧ (∀ x3_12 : Int32, x3_12 = l3_29_5 + (1 : Int32) → (I_29_5 x3_12 (vp_updL a0_row_29_5 (((601 : Int32) * a0_rows) + l3_29_5).toNatClampNeg l4_42_8) ∧ m_29_5 x3_12 (vp_updL a0_row_29_5 (((601 : Int32) * a0_rows) + l3_29_5).toNatClampNeg l4_42_8) < m_29_5 l3_29_5 a0_row_29_5)))) ∧ (¬ l3_29_5 < l6_42_8 → (¬ l6_42_8 = 0 ∧ (((l3_29_5 - l3_29_5 / l6_42_8 * l6_42_8) = (0 : Int32) → (vp_in (((601 : Int32) * p1) + l6_42_8) 9616 ∧ (¬ l6_42_8 = 0 ∧ (vp_in (((601 : Int32) * p2) + (l3_29_5 / l6_42_8)) 9616 ∧ (∀ x4_20 : Int64, x4_20 = (l4_42_8 + ((a0_row_29_5 (((601 : Int32) * p1) + l6_42_8).toNatClampNeg) * (a0_row_29_5 (((601 : Int32) * p2) + (l3_29_5 / l6_42_8)).toNatClampNeg))) → (∀ x6_21 : Int32, x6_21 = l6_42_8 + (1 : Int32) → (I_42_8 x6_21 x4_20 ∧ m_42_8 x6_21 x4_20 < m_42_8 l6_42_8 l4_42_8))))))) ∧ (¬ (l3_29_5 - l3_29_5 / l6_42_8 * l6_42_8) = (0 : Int32) → (∀ x4_15 : Int64, x4_15 = (l4_42_8 + (0 : Int64)) → (∀ x6_16 : Int32, x6_16 = l6_42_8 + (1 : Int32) → (I_42_8 x6_16 x4_15 ∧ m_42_8 x6_16 x4_15 < m_42_8 l6_42_8 l4_42_8))))))))))))))))))))
abbrev rm_X9_product : Room := { frames := 2, cells := 0, slots := 0, locals := 46 }
abbrev qc_X9_product (dC : Nat → ClassId) (dI : Nat → Nat → Nat) (cI cJ cZ : ClassId) (h_a0 : Nat) (a0_primes : Int32) (w_a0_prime : Value) (w_a0_isNone : Value) (a0_hasSpan : Int32) (a0_spanFrom : Int64) (a0_spanMany : Int32) (w_a0_least : Value) (w_a0_greatest : Value) (w_a0_isSquared : Value) (a0_hasPart : Int32) (a0_parted : Int64) (a0_partMany : Int32) (w_a0_partPrime : Value) (w_a0_partPower : Value) (a0_rows : Int32) (a0_row : Nat → Int64) (q_a0_row : Nat) (a0_foundLeast : Int64) (a0_foundGreatest : Int64) (a0_foundSquare : Int32) (Q : Int32 → Int32 → (Nat → Int64) → Prop) (A : Nat → Prop) : Array Value → State → Outcome → State → Prop := va_Qi (fun (r : Int32) (u : Int32 × (Nat → Int64)) => Q r u.1 u.2) (post_ dC dI A (fun (u : Int32 × (Nat → Int64)) => [(h_a0, .inr (8, [.int a0_primes, w_a0_prime, w_a0_isNone, .int a0_hasSpan, .long a0_spanFrom, .int a0_spanMany, w_a0_least, w_a0_greatest, w_a0_isSquared, .int a0_hasPart, .long a0_parted, .int a0_partMany, w_a0_partPrime, w_a0_partPower, .int u.1, .ref q_a0_row, .long a0_foundLeast, .long a0_foundGreatest, .int a0_foundSquare])), (q_a0_row, .inl (cJ, 9616, .inr (.inl (u.2))))])) A
set_option maxHeartbeats 4000000 in
set_option maxRecDepth 100000 in
theorem c_X9_product (l : Launch) (dC : Nat → ClassId) (dI : Nat → Nat → Nat) (cI cJ cZ : ClassId) (sz : Nat) (h_a0 : Nat) (a0_primes : Int32) (w_a0_prime : Value) (w_a0_isNone : Value) (a0_hasSpan : Int32) (a0_spanFrom : Int64) (a0_spanMany : Int32) (w_a0_least : Value) (w_a0_greatest : Value) (w_a0_isSquared : Value) (a0_hasPart : Int32) (a0_parted : Int64) (a0_partMany : Int32) (w_a0_partPrime : Value) (w_a0_partPower : Value) (a0_rows : Int32) (a0_row : Nat → Int64) (q_a0_row : Nat) (a0_foundLeast : Int64) (a0_foundGreatest : Int64) (a0_foundSquare : Int32) (p1 : Int32) (p2 : Int32) (Q : Int32 → Int32 → (Nat → Int64) → Prop) (hQ : wp_X9_product a0_rows a0_row p1 p2 Q) : Met l yX9_product wsX9_product rm_X9_product (pre_ dC dI cI cJ cZ [.ref h_a0, .int p1, .int p2] [(h_a0, .inr (8, [.int a0_primes, w_a0_prime, w_a0_isNone, .int a0_hasSpan, .long a0_spanFrom, .int a0_spanMany, w_a0_least, w_a0_greatest, w_a0_isSquared, .int a0_hasPart, .long a0_parted, .int a0_partMany, w_a0_partPrime, w_a0_partPower, .int a0_rows, .ref q_a0_row, .long a0_foundLeast, .long a0_foundGreatest, .int a0_foundSquare])), (q_a0_row, .inl (cJ, 9616, .inr (.inl a0_row)))] sz) (qc_X9_product dC dI cI cJ cZ h_a0 a0_primes w_a0_prime w_a0_isNone a0_hasSpan a0_spanFrom a0_spanMany w_a0_least w_a0_greatest w_a0_isSquared a0_hasPart a0_parted a0_partMany w_a0_partPrime w_a0_partPower a0_rows a0_row q_a0_row a0_foundLeast a0_foundGreatest a0_foundSquare Q (va_A [(h_a0, .inr (8, [.int a0_primes, w_a0_prime, w_a0_isNone, .int a0_hasSpan, .long a0_spanFrom, .int a0_spanMany, w_a0_least, w_a0_greatest, w_a0_isSquared, .int a0_hasPart, .long a0_parted, .int a0_partMany, w_a0_partPrime, w_a0_partPower, .int a0_rows, .ref q_a0_row, .long a0_foundLeast, .long a0_foundGreatest, .int a0_foundSquare])), (q_a0_row, .inl (cJ, 9616, .inr (.inl a0_row)))] sz)) 0 0 (va_A [(h_a0, .inr (8, [.int a0_primes, w_a0_prime, w_a0_isNone, .int a0_hasSpan, .long a0_spanFrom, .int a0_spanMany, w_a0_least, w_a0_greatest, w_a0_isSquared, .int a0_hasPart, .long a0_parted, .int a0_partMany, w_a0_partPrime, w_a0_partPower, .int a0_rows, .ref q_a0_row, .long a0_foundLeast, .long a0_foundGreatest, .int a0_foundSquare])), (q_a0_row, .inl (cJ, 9616, .inr (.inl a0_row)))] sz) := by
  refine Met.ofW (cc := cX9_product) (maxL := 7) (ret := (some .int)) (by decide) rfl ?_
  intro p e s m args below meth c s₁ B hml hv
  obtain ⟨rfl, hsz, hP, hK, hN, hD0⟩ := hv
  have hx := B.exec
  have hb := B.bytes
  have hr := B.returns
  have hts := atoms_spec (ws := wsX9_product) B.pre
  have hown : s.vm.findClass RX9 = some m.cls := findClass_of_methodNamed B.named
  subst hsz
  have hD := hD0.self (sz := s.heap.size)
  generalize hAe : va_A [(h_a0, .inr (8, [.int a0_primes, w_a0_prime, w_a0_isNone, .int a0_hasSpan, .long a0_spanFrom, .int a0_spanMany, w_a0_least, w_a0_greatest, w_a0_isSquared, .int a0_hasPart, .long a0_parted, .int a0_partMany, w_a0_partPrime, w_a0_partPower, .int a0_rows, .ref q_a0_row, .long a0_foundLeast, .long a0_foundGreatest, .int a0_foundSquare])), (q_a0_row, .inl (cJ, 9616, .inr (.inl a0_row)))] s.heap.size = A at hD ⊢
  have hA : ∀ q : Nat, s.heap.size ≤ q → A q := fun q h => by rw [← hAe]; exact Or.inr h
  have hS : va_S A s.heap s.heap [] := va_S.rf
  have hl := lv_entry ([.ref h_a0, .int p1, .int p2]) (n := 7) (Nat.le_of_ble_eq_true rfl)
  rw [lg_entry_eq]
  generalize (lg_sl ([.ref h_a0, .int p1, .int p2]) ++ List.replicate (7 - (lg_sl ([.ref h_a0, .int p1, .int p2])).length) Slot.unset).toArray = ls at hl ⊢
  have hl : lv_has ls 7 [(0, .ref h_a0), (1, .int p1), (2, .int p2)] := hl
  have h := hQ
  unfold wp_X9_product at h
  have hw_0 := hts (.fieldLink RX9 112 "NumberSievesModel" "rows" "I") (by decide +kernel)
  have hin_X9 : ∀ w ∈ wsX90, w ∈ wsX9_product := by decide +kernel
  have hw_2 := hts (.fieldLink RX9 34 "NumberSievesModel" "row" "[J") (by decide +kernel)
  refine lv_aload_n hx hb dX9_product_0 rfl (lv_at hl 0 rfl) ?_
  refine lv_iload_n hx hb dX9_product_1 rfl (lv_at hl 1 rfl) ?_
  have hPc := hP.sub (ws' := [(h_a0, .inr (8, [.int a0_primes, w_a0_prime, w_a0_isNone, .int a0_hasSpan, .long a0_spanFrom, .int a0_spanMany, w_a0_least, w_a0_greatest, w_a0_isSquared, .int a0_hasPart, .long a0_parted, .int a0_partMany, w_a0_partPrime, w_a0_partPower, .int a0_rows, .ref q_a0_row, .long a0_foundLeast, .long a0_foundGreatest, .int a0_foundSquare]))]) [0] rfl
  have hDc := hD.sub (ws' := [(h_a0, .inr (8, [.int a0_primes, w_a0_prime, w_a0_isNone, .int a0_hasSpan, .long a0_spanFrom, .int a0_spanMany, w_a0_least, w_a0_greatest, w_a0_isSquared, .int a0_hasPart, .long a0_parted, .int a0_partMany, w_a0_partPrime, w_a0_partPower, .int a0_rows, .ref q_a0_row, .long a0_foundLeast, .long a0_foundGreatest, .int a0_foundSquare]))]) [0] (by decide) rfl
  have hFc := va_free (wc := [(h_a0, .inr (8, [.int a0_primes, w_a0_prime, w_a0_isNone, .int a0_hasSpan, .long a0_spanFrom, .int a0_spanMany, w_a0_least, w_a0_greatest, w_a0_isSquared, .int a0_hasPart, .long a0_parted, .int a0_partMany, w_a0_partPrime, w_a0_partPower, .int a0_rows, .ref q_a0_row, .long a0_foundLeast, .long a0_foundGreatest, .int a0_foundSquare]))]) hD hS hA [0] rfl
  refine va_calli (va_runV (As := [.int p1]) (rest := []) ⟨hx, hb, hml, hown, hts⟩ (c_X9_isRow l dC dI cI cJ cZ _ h_a0 a0_primes (w_a0_prime) (w_a0_isNone) a0_hasSpan a0_spanFrom a0_spanMany (w_a0_least) (w_a0_greatest) (w_a0_isSquared) a0_hasPart a0_parted a0_partMany (w_a0_partPrime) (w_a0_partPower) a0_rows (.ref q_a0_row) a0_foundLeast a0_foundGreatest a0_foundSquare p1 _ h) (cwV 1 hts gX9_product_X9_isRow rfl rfl rfl (by decide +kernel) ⟨Nat.le_of_ble_eq_true rfl, Nat.le_of_ble_eq_true rfl⟩) ⟨pre_fb, va_recv hK hPc (ci := 8) (q0 := 0) rfl rfl, pre_of hPc hDc hK hN⟩ rfl rfl hl.1 rfl (lv_room (Nat.le_of_ble_eq_true rfl)) dX9_product_2 ⟨by first | exact Nat.le_of_ble_eq_true rfl | exact Nat.le_refl _, by first | exact Nat.le_of_ble_eq_true rfl | exact Nat.le_refl _⟩) hS (fun q _ h => hFc q h) hFc (fun r_1 u t H1 locs ht hvm h hB hz1 hk1 hS => ?_)
  obtain ⟨hP1, hD1⟩ := hB
  rw [ht] at hP1
  try dsimp only at h
  obtain ⟨hP, hD⟩ := va_join (wr := [(q_a0_row, .inl (cJ, 9616, .inr (.inl a0_row)))]) (w1 := [(h_a0, .inr (8, [.int a0_primes, w_a0_prime, w_a0_isNone, .int a0_hasSpan, .long a0_spanFrom, .int a0_spanMany, w_a0_least, w_a0_greatest, w_a0_isSquared, .int a0_hasPart, .long a0_parted, .int a0_partMany, w_a0_partPrime, w_a0_partPower, .int a0_rows, .ref q_a0_row, .long a0_foundLeast, .long a0_foundGreatest, .int a0_foundSquare]))]) hP hD [0] [1] rfl rfl (by decide) (by decide) hk1 hFc hP1 hD1
  generalize H1 = H at hP hS ⊢
  have hP : va_P (dC, dI) vwCl [(q_a0_row, .inl (cJ, 9616, .inr (.inl a0_row))), (h_a0, .inr (8, [.int a0_primes, w_a0_prime, w_a0_isNone, .int a0_hasSpan, .long a0_spanFrom, .int a0_spanMany, w_a0_least, w_a0_greatest, w_a0_isSquared, .int a0_hasPart, .long a0_parted, .int a0_partMany, w_a0_partPrime, w_a0_partPower, .int a0_rows, .ref q_a0_row, .long a0_foundLeast, .long a0_foundGreatest, .int a0_foundSquare]))] H := hP
  have hD : va_D A [(q_a0_row, .inl (cJ, 9616, .inr (.inl a0_row))), (h_a0, .inr (8, [.int a0_primes, w_a0_prime, w_a0_isNone, .int a0_hasSpan, .long a0_spanFrom, .int a0_spanMany, w_a0_least, w_a0_greatest, w_a0_isSquared, .int a0_hasPart, .long a0_parted, .int a0_partMany, w_a0_partPrime, w_a0_partPower, .int a0_rows, .ref q_a0_row, .long a0_foundLeast, .long a0_foundGreatest, .int a0_foundSquare]))] := hD
  refine lv_if_eq (tgt := 25) hx hb dX9_product_5 (by decide) (fun c_2 => ?_) (fun c_2 => ?_)
  · replace h := h.1 c_2
    refine lv_iconst (v := (-1 : Int32)) hx hb dX9_product_25 (by decide) ?_
    have hP9 := hP.sub (ws' := [(h_a0, .inr (8, [.int a0_primes, w_a0_prime, w_a0_isNone, .int a0_hasSpan, .long a0_spanFrom, .int a0_spanMany, w_a0_least, w_a0_greatest, w_a0_isSquared, .int a0_hasPart, .long a0_parted, .int a0_partMany, w_a0_partPrime, w_a0_partPower, .int a0_rows, .ref q_a0_row, .long a0_foundLeast, .long a0_foundGreatest, .int a0_foundSquare])), (q_a0_row, .inl (cJ, 9616, .inr (.inl a0_row)))]) [1, 0] rfl
    have hD9 := hD.sub (ws' := [(h_a0, .inr (8, [.int a0_primes, w_a0_prime, w_a0_isNone, .int a0_hasSpan, .long a0_spanFrom, .int a0_spanMany, w_a0_least, w_a0_greatest, w_a0_isSquared, .int a0_hasPart, .long a0_parted, .int a0_partMany, w_a0_partPrime, w_a0_partPower, .int a0_rows, .ref q_a0_row, .long a0_foundLeast, .long a0_foundGreatest, .int a0_foundSquare])), (q_a0_row, .inl (cJ, 9616, .inr (.inl a0_row)))]) [1, 0] (by decide) rfl
    exact W.iret (v := (-1 : Int32)) hx hb hr (fun t ht hW => ⟨⟨_, (a0_rows, a0_row), rfl, h, by rw [ht]; exact hP9, hD9⟩, hS.F ht⟩) hS.2.2 dX9_product_26
  · replace h := h.2 c_2
    refine lv_aload_n hx hb dX9_product_8 rfl (lv_at hl 0 rfl) ?_
    refine lv_iload_n hx hb dX9_product_9 rfl (lv_at hl 2 rfl) ?_
    have hPc := hP.sub (ws' := [(h_a0, .inr (8, [.int a0_primes, w_a0_prime, w_a0_isNone, .int a0_hasSpan, .long a0_spanFrom, .int a0_spanMany, w_a0_least, w_a0_greatest, w_a0_isSquared, .int a0_hasPart, .long a0_parted, .int a0_partMany, w_a0_partPrime, w_a0_partPower, .int a0_rows, .ref q_a0_row, .long a0_foundLeast, .long a0_foundGreatest, .int a0_foundSquare]))]) [1] rfl
    have hDc := hD.sub (ws' := [(h_a0, .inr (8, [.int a0_primes, w_a0_prime, w_a0_isNone, .int a0_hasSpan, .long a0_spanFrom, .int a0_spanMany, w_a0_least, w_a0_greatest, w_a0_isSquared, .int a0_hasPart, .long a0_parted, .int a0_partMany, w_a0_partPrime, w_a0_partPower, .int a0_rows, .ref q_a0_row, .long a0_foundLeast, .long a0_foundGreatest, .int a0_foundSquare]))]) [1] (by decide) rfl
    have hFc := va_free (wc := [(h_a0, .inr (8, [.int a0_primes, w_a0_prime, w_a0_isNone, .int a0_hasSpan, .long a0_spanFrom, .int a0_spanMany, w_a0_least, w_a0_greatest, w_a0_isSquared, .int a0_hasPart, .long a0_parted, .int a0_partMany, w_a0_partPrime, w_a0_partPower, .int a0_rows, .ref q_a0_row, .long a0_foundLeast, .long a0_foundGreatest, .int a0_foundSquare]))]) hD hS hA [1] rfl
    refine va_calli (va_runV (As := [.int p2]) (rest := []) ⟨hx, hb, hml, hown, hts⟩ (c_X9_isRow l dC dI cI cJ cZ _ h_a0 a0_primes (w_a0_prime) (w_a0_isNone) a0_hasSpan a0_spanFrom a0_spanMany (w_a0_least) (w_a0_greatest) (w_a0_isSquared) a0_hasPart a0_parted a0_partMany (w_a0_partPrime) (w_a0_partPower) a0_rows (.ref q_a0_row) a0_foundLeast a0_foundGreatest a0_foundSquare p2 _ h) (cwV 1 hts gX9_product_X9_isRow rfl rfl rfl (by decide +kernel) ⟨Nat.le_of_ble_eq_true rfl, Nat.le_of_ble_eq_true rfl⟩) ⟨pre_fb, va_recv hK hPc (ci := 8) (q0 := 0) rfl rfl, pre_of hPc hDc hK hN⟩ rfl rfl hl.1 rfl (lv_room (Nat.le_of_ble_eq_true rfl)) dX9_product_10 ⟨by first | exact Nat.le_of_ble_eq_true rfl | exact Nat.le_refl _, by first | exact Nat.le_of_ble_eq_true rfl | exact Nat.le_refl _⟩) hS (fun q _ h => hFc q h) hFc (fun r_3 u t H1 locs ht hvm h hB hz1 hk1 hS => ?_)
    obtain ⟨hP1, hD1⟩ := hB
    rw [ht] at hP1
    try dsimp only at h
    obtain ⟨hP, hD⟩ := va_join (wr := [(q_a0_row, .inl (cJ, 9616, .inr (.inl a0_row)))]) (w1 := [(h_a0, .inr (8, [.int a0_primes, w_a0_prime, w_a0_isNone, .int a0_hasSpan, .long a0_spanFrom, .int a0_spanMany, w_a0_least, w_a0_greatest, w_a0_isSquared, .int a0_hasPart, .long a0_parted, .int a0_partMany, w_a0_partPrime, w_a0_partPower, .int a0_rows, .ref q_a0_row, .long a0_foundLeast, .long a0_foundGreatest, .int a0_foundSquare]))]) hP hD [1] [0] rfl rfl (by decide) (by decide) hk1 hFc hP1 hD1
    generalize H1 = H at hP hS ⊢
    have hP : va_P (dC, dI) vwCl [(q_a0_row, .inl (cJ, 9616, .inr (.inl a0_row))), (h_a0, .inr (8, [.int a0_primes, w_a0_prime, w_a0_isNone, .int a0_hasSpan, .long a0_spanFrom, .int a0_spanMany, w_a0_least, w_a0_greatest, w_a0_isSquared, .int a0_hasPart, .long a0_parted, .int a0_partMany, w_a0_partPrime, w_a0_partPower, .int a0_rows, .ref q_a0_row, .long a0_foundLeast, .long a0_foundGreatest, .int a0_foundSquare]))] H := hP
    have hD : va_D A [(q_a0_row, .inl (cJ, 9616, .inr (.inl a0_row))), (h_a0, .inr (8, [.int a0_primes, w_a0_prime, w_a0_isNone, .int a0_hasSpan, .long a0_spanFrom, .int a0_spanMany, w_a0_least, w_a0_greatest, w_a0_isSquared, .int a0_hasPart, .long a0_parted, .int a0_partMany, w_a0_partPrime, w_a0_partPower, .int a0_rows, .ref q_a0_row, .long a0_foundLeast, .long a0_foundGreatest, .int a0_foundSquare]))] := hD
    refine lv_if_eq (tgt := 25) hx hb dX9_product_13 (by decide) (fun c_4 => ?_) (fun c_4 => ?_)
    · replace h := h.1 c_4
      refine lv_iconst (v := (-1 : Int32)) hx hb dX9_product_25 (by decide) ?_
      have hP9 := hP.sub (ws' := [(h_a0, .inr (8, [.int a0_primes, w_a0_prime, w_a0_isNone, .int a0_hasSpan, .long a0_spanFrom, .int a0_spanMany, w_a0_least, w_a0_greatest, w_a0_isSquared, .int a0_hasPart, .long a0_parted, .int a0_partMany, w_a0_partPrime, w_a0_partPower, .int a0_rows, .ref q_a0_row, .long a0_foundLeast, .long a0_foundGreatest, .int a0_foundSquare])), (q_a0_row, .inl (cJ, 9616, .inr (.inl a0_row)))]) [1, 0] rfl
      have hD9 := hD.sub (ws' := [(h_a0, .inr (8, [.int a0_primes, w_a0_prime, w_a0_isNone, .int a0_hasSpan, .long a0_spanFrom, .int a0_spanMany, w_a0_least, w_a0_greatest, w_a0_isSquared, .int a0_hasPart, .long a0_parted, .int a0_partMany, w_a0_partPrime, w_a0_partPower, .int a0_rows, .ref q_a0_row, .long a0_foundLeast, .long a0_foundGreatest, .int a0_foundSquare])), (q_a0_row, .inl (cJ, 9616, .inr (.inl a0_row)))]) [1, 0] (by decide) rfl
      exact W.iret (v := (-1 : Int32)) hx hb hr (fun t ht hW => ⟨⟨_, (a0_rows, a0_row), rfl, h, by rw [ht]; exact hP9, hD9⟩, hS.F ht⟩) hS.2.2 dX9_product_26
    · replace h := h.2 c_4
      refine lv_aload_n hx hb dX9_product_16 rfl (lv_at hl 0 rfl) ?_
      refine va_get (D := (dC, dI)) (ci := 8) (v := .int a0_rows) (C := RX9) (T := TX9) (N := 19) hx hb hts hin_X9 hown hK hP 1 rfl rfl 14 (by decide) hw_0 (fun _ h9 => h9) rfl dX9_product_17 ?_
      refine lv_bipush (v := (16 : Int32)) hx hb dX9_product_20 (by decide) ?_
      refine lv_icmp_ne (tgt := 27) hx hb dX9_product_22 (by decide) (fun c_5 => ?_) (fun c_5 => ?_)
      · replace h := h.2 c_5
        refine lv_iconst (v := (1 : Int32)) hx hb dX9_product_27 (by decide) ?_
        refine lv_istore_n (lv' := [(3, .int (1 : Int32)), (0, .ref h_a0), (1, .int p1), (2, .int p2)]) hx hb dX9_product_28 rfl hl (by decide) rfl (fun ls hl => ?_)
        obtain ⟨I_29_5, m_29_5, h0_29_5, hs_29_5⟩ := h
        have key_29_5 : ∀ (n : Nat) (l3_29_5 : Int32) (a0_row_29_5 : Nat → Int64), m_29_5 l3_29_5 a0_row_29_5 < n → I_29_5 l3_29_5 a0_row_29_5 → ∀ (ls : Array Slot) (H : Heap) (locs : List Loc), lv_has ls 7 [(3, .int l3_29_5), (0, .ref h_a0), (1, .int p1), (2, .int p2)] → va_P (dC, dI) vwCl [(q_a0_row, .inl (cJ, 9616, .inr (.inl a0_row_29_5))), (h_a0, .inr (8, [.int a0_primes, w_a0_prime, w_a0_isNone, .int a0_hasSpan, .long a0_spanFrom, .int a0_spanMany, w_a0_least, w_a0_greatest, w_a0_isSquared, .int a0_hasPart, .long a0_parted, .int a0_partMany, w_a0_partPrime, w_a0_partPower, .int a0_rows, .ref q_a0_row, .long a0_foundLeast, .long a0_foundGreatest, .int a0_foundSquare]))] H → va_D A [(q_a0_row, .inl (cJ, 9616, .inr (.inl a0_row_29_5))), (h_a0, .inr (8, [.int a0_primes, w_a0_prime, w_a0_isNone, .int a0_hasSpan, .long a0_spanFrom, .int a0_spanMany, w_a0_least, w_a0_greatest, w_a0_isSquared, .int a0_hasPart, .long a0_parted, .int a0_partMany, w_a0_partPrime, w_a0_partPower, .int a0_rows, .ref q_a0_row, .long a0_foundLeast, .long a0_foundGreatest, .int a0_foundSquare]))] → va_S A s.heap H locs → W p l e (headSpec wsX9_product rm_X9_product).room s m ([.ref h_a0, .int p1, .int p2] : List Value).toArray below meth c H locs 0 0 (MQ below (qc_X9_product dC dI cI cJ cZ h_a0 a0_primes w_a0_prime w_a0_isNone a0_hasSpan a0_spanFrom a0_spanMany w_a0_least w_a0_greatest w_a0_isSquared a0_hasPart a0_parted a0_partMany w_a0_partPrime w_a0_partPower a0_rows a0_row q_a0_row a0_foundLeast a0_foundGreatest a0_foundSquare Q A) ([.ref h_a0, .int p1, .int p2] : List Value).toArray s 0 0 A) (F0 m 29 ls []) := by
          intro n
          induction n with
          | zero =>
            intro l3_29_5 a0_row_29_5 hm
            exact absurd hm (Nat.not_lt_zero _)
          | succ n ih_29_5 =>
            intro l3_29_5 a0_row_29_5 hm_29_5 hI ls H locs hl hP hD hS
            have h := hs_29_5 l3_29_5 a0_row_29_5 hI
            refine lv_iload_n hx hb dX9_product_29 rfl (lv_at hl 0 rfl) ?_
            refine lv_sipush (v := (600 : Int32)) hx hb dX9_product_30 (by decide) ?_
            refine lv_icmp_gt (tgt := 122) hx hb dX9_product_33 (by decide) (fun c_7 => ?_) (fun c_7 => ?_)
            · replace h := h.1 c_7
              refine lv_aload_n hx hb dX9_product_122 rfl (lv_at hl 1 rfl) ?_
              refine lv_dup hx hb dX9_product_123 rfl ?_
              refine va_get (D := (dC, dI)) (ci := 8) (v := .int a0_rows) (C := RX9) (T := TX9) (N := 19) hx hb hts hin_X9 hown hK hP 1 rfl rfl 14 (by decide) hw_0 (fun _ h9 => h9) rfl dX9_product_124 ?_
              refine lv_iconst (v := (1 : Int32)) hx hb dX9_product_127 (by decide) ?_
              refine lv_iadd hx hb dX9_product_128 ?_
              refine lv_topi (fun y_8 e_y_8 => ?_)
              replace h := h y_8 e_y_8
              refine va_put (D := (dC, dI)) (ci := 8) (v := .int y_8) (ty := .int) (C := RX9) (T := TX9) (N := 19) hx hb hts hin_X9 tyX9 tyX9_ok nmX9 hown hK hP hD hS 1 rfl rfl 14 (by decide) hw_0 (fun _ h9 => h9) rfl (by decide +kernel) rfl rfl (Nat.le_of_ble_eq_true rfl) dX9_product_129 (fun H locs hP hD hS => ?_)
              have hP : va_P (dC, dI) vwCl [(q_a0_row, .inl (cJ, 9616, .inr (.inl a0_row_29_5))), (h_a0, .inr (8, [.int a0_primes, w_a0_prime, w_a0_isNone, .int a0_hasSpan, .long a0_spanFrom, .int a0_spanMany, w_a0_least, w_a0_greatest, w_a0_isSquared, .int a0_hasPart, .long a0_parted, .int a0_partMany, w_a0_partPrime, w_a0_partPower, .int y_8, .ref q_a0_row, .long a0_foundLeast, .long a0_foundGreatest, .int a0_foundSquare]))] H := hP
              have hD : va_D A [(q_a0_row, .inl (cJ, 9616, .inr (.inl a0_row_29_5))), (h_a0, .inr (8, [.int a0_primes, w_a0_prime, w_a0_isNone, .int a0_hasSpan, .long a0_spanFrom, .int a0_spanMany, w_a0_least, w_a0_greatest, w_a0_isSquared, .int a0_hasPart, .long a0_parted, .int a0_partMany, w_a0_partPrime, w_a0_partPower, .int y_8, .ref q_a0_row, .long a0_foundLeast, .long a0_foundGreatest, .int a0_foundSquare]))] := hD
              refine lv_aload_n hx hb dX9_product_132 rfl (lv_at hl 1 rfl) ?_
              refine va_get (D := (dC, dI)) (ci := 8) (v := .int y_8) (C := RX9) (T := TX9) (N := 19) hx hb hts hin_X9 hown hK hP 1 rfl rfl 14 (by decide) hw_0 (fun _ h9 => h9) rfl dX9_product_133 ?_
              refine lv_iconst (v := (1 : Int32)) hx hb dX9_product_136 (by decide) ?_
              refine lv_isub hx hb dX9_product_137 ?_
              have hP9 := hP.sub (ws' := [(h_a0, .inr (8, [.int a0_primes, w_a0_prime, w_a0_isNone, .int a0_hasSpan, .long a0_spanFrom, .int a0_spanMany, w_a0_least, w_a0_greatest, w_a0_isSquared, .int a0_hasPart, .long a0_parted, .int a0_partMany, w_a0_partPrime, w_a0_partPower, .int y_8, .ref q_a0_row, .long a0_foundLeast, .long a0_foundGreatest, .int a0_foundSquare])), (q_a0_row, .inl (cJ, 9616, .inr (.inl a0_row_29_5)))]) [1, 0] rfl
              have hD9 := hD.sub (ws' := [(h_a0, .inr (8, [.int a0_primes, w_a0_prime, w_a0_isNone, .int a0_hasSpan, .long a0_spanFrom, .int a0_spanMany, w_a0_least, w_a0_greatest, w_a0_isSquared, .int a0_hasPart, .long a0_parted, .int a0_partMany, w_a0_partPrime, w_a0_partPower, .int y_8, .ref q_a0_row, .long a0_foundLeast, .long a0_foundGreatest, .int a0_foundSquare])), (q_a0_row, .inl (cJ, 9616, .inr (.inl a0_row_29_5)))]) [1, 0] (by decide) rfl
              exact W.iret (v := (y_8 - (1 : Int32))) hx hb hr (fun t ht hW => ⟨⟨_, (y_8, a0_row_29_5), rfl, h, by rw [ht]; exact hP9, hD9⟩, hS.F ht⟩) hS.2.2 dX9_product_138
            · replace h := h.2 c_7
              refine lv_lconst (v := (0 : Int64)) hx hb dX9_product_36 (by decide) ?_
              refine lv_lstore (lv' := [(4, .long (0 : Int64)), (3, .int l3_29_5), (0, .ref h_a0), (1, .int p1), (2, .int p2)]) hx hb dX9_product_37 hl (by decide) rfl (fun ls hl => ?_)
              refine lv_iconst (v := (1 : Int32)) hx hb dX9_product_39 (by decide) ?_
              refine lv_istore (lv' := [(6, .int (1 : Int32)), (4, .long (0 : Int64)), (3, .int l3_29_5), (0, .ref h_a0), (1, .int p1), (2, .int p2)]) hx hb dX9_product_40 hl (by decide) rfl (fun ls hl => ?_)
              obtain ⟨I_42_8, m_42_8, h0_42_8, hs_42_8⟩ := h
              have key_42_8 : ∀ (n : Nat) (l6_42_8 : Int32) (l4_42_8 : Int64), m_42_8 l6_42_8 l4_42_8 < n → I_42_8 l6_42_8 l4_42_8 → ∀ (ls : Array Slot) (H : Heap) (locs : List Loc), lv_has ls 7 [(6, .int l6_42_8), (4, .long l4_42_8), (3, .int l3_29_5), (0, .ref h_a0), (1, .int p1), (2, .int p2)] → va_P (dC, dI) vwCl [(q_a0_row, .inl (cJ, 9616, .inr (.inl a0_row_29_5))), (h_a0, .inr (8, [.int a0_primes, w_a0_prime, w_a0_isNone, .int a0_hasSpan, .long a0_spanFrom, .int a0_spanMany, w_a0_least, w_a0_greatest, w_a0_isSquared, .int a0_hasPart, .long a0_parted, .int a0_partMany, w_a0_partPrime, w_a0_partPower, .int a0_rows, .ref q_a0_row, .long a0_foundLeast, .long a0_foundGreatest, .int a0_foundSquare]))] H → va_D A [(q_a0_row, .inl (cJ, 9616, .inr (.inl a0_row_29_5))), (h_a0, .inr (8, [.int a0_primes, w_a0_prime, w_a0_isNone, .int a0_hasSpan, .long a0_spanFrom, .int a0_spanMany, w_a0_least, w_a0_greatest, w_a0_isSquared, .int a0_hasPart, .long a0_parted, .int a0_partMany, w_a0_partPrime, w_a0_partPower, .int a0_rows, .ref q_a0_row, .long a0_foundLeast, .long a0_foundGreatest, .int a0_foundSquare]))] → va_S A s.heap H locs → W p l e (headSpec wsX9_product rm_X9_product).room s m ([.ref h_a0, .int p1, .int p2] : List Value).toArray below meth c H locs 0 0 (MQ below (qc_X9_product dC dI cI cJ cZ h_a0 a0_primes w_a0_prime w_a0_isNone a0_hasSpan a0_spanFrom a0_spanMany w_a0_least w_a0_greatest w_a0_isSquared a0_hasPart a0_parted a0_partMany w_a0_partPrime w_a0_partPower a0_rows a0_row q_a0_row a0_foundLeast a0_foundGreatest a0_foundSquare Q A) ([.ref h_a0, .int p1, .int p2] : List Value).toArray s 0 0 A) (F0 m 42 ls []) := by
                intro n
                induction n with
                | zero =>
                  intro l6_42_8 l4_42_8 hm
                  exact absurd hm (Nat.not_lt_zero _)
                | succ n ih_42_8 =>
                  intro l6_42_8 l4_42_8 hm_42_8 hI ls H locs hl hP hD hS
                  have h := hs_42_8 l6_42_8 l4_42_8 hI
                  refine lv_iload hx hb dX9_product_42 (lv_at hl 0 rfl) ?_
                  refine lv_iload_n hx hb dX9_product_44 rfl (lv_at hl 2 rfl) ?_
                  refine lv_icmp_gt (tgt := 99) hx hb dX9_product_45 (by decide) (fun c_10 => ?_) (fun c_10 => ?_)
                  · replace h := h.1 c_10
                    refine lv_aload_n hx hb dX9_product_99 rfl (lv_at hl 3 rfl) ?_
                    refine va_get (D := (dC, dI)) (ci := 8) (v := .ref q_a0_row) (C := RX9) (T := TX9) (N := 19) hx hb hts hin_X9 hown hK hP 1 rfl rfl 15 (by decide) hw_2 (fun _ h9 => h9) rfl dX9_product_100 ?_
                    refine lv_sipush (v := (601 : Int32)) hx hb dX9_product_103 (by decide) ?_
                    refine lv_aload_n hx hb dX9_product_106 rfl (lv_at hl 3 rfl) ?_
                    refine va_get (D := (dC, dI)) (ci := 8) (v := .int a0_rows) (C := RX9) (T := TX9) (N := 19) hx hb hts hin_X9 hown hK hP 1 rfl rfl 14 (by decide) hw_0 (fun _ h9 => h9) rfl dX9_product_107 ?_
                    refine lv_imul hx hb dX9_product_110 ?_
                    refine lv_iload_n hx hb dX9_product_111 rfl (lv_at hl 2 rfl) ?_
                    refine lv_iadd hx hb dX9_product_112 ?_
                    refine lv_lload hx hb dX9_product_113 (lv_at hl 1 rfl) ?_
                    obtain ⟨hin_11, h⟩ := h
                    refine va_last hx hb hK hP hD hS 0 1 rfl rfl hin_11 dX9_product_115 (fun H locs hP hD hS => ?_)
                    have hP : va_P (dC, dI) vwCl [(q_a0_row, .inl (cJ, 9616, .inr (.inl (vp_updL a0_row_29_5 (((601 : Int32) * a0_rows) + l3_29_5).toNatClampNeg l4_42_8)))), (h_a0, .inr (8, [.int a0_primes, w_a0_prime, w_a0_isNone, .int a0_hasSpan, .long a0_spanFrom, .int a0_spanMany, w_a0_least, w_a0_greatest, w_a0_isSquared, .int a0_hasPart, .long a0_parted, .int a0_partMany, w_a0_partPrime, w_a0_partPower, .int a0_rows, .ref q_a0_row, .long a0_foundLeast, .long a0_foundGreatest, .int a0_foundSquare]))] H := hP
                    have hD : va_D A [(q_a0_row, .inl (cJ, 9616, .inr (.inl (vp_updL a0_row_29_5 (((601 : Int32) * a0_rows) + l3_29_5).toNatClampNeg l4_42_8)))), (h_a0, .inr (8, [.int a0_primes, w_a0_prime, w_a0_isNone, .int a0_hasSpan, .long a0_spanFrom, .int a0_spanMany, w_a0_least, w_a0_greatest, w_a0_isSquared, .int a0_hasPart, .long a0_parted, .int a0_partMany, w_a0_partPrime, w_a0_partPower, .int a0_rows, .ref q_a0_row, .long a0_foundLeast, .long a0_foundGreatest, .int a0_foundSquare]))] := hD
                    obtain ⟨x3_12, e_x3_12⟩ : ∃ y : Int32, y = l3_29_5 + (1 : Int32) := ⟨_, rfl⟩
                    replace h := h x3_12 e_x3_12
                    refine lv_iinc (v := x3_12) (lv' := [(3, .int x3_12), (6, .int l6_42_8), (4, .long l4_42_8), (0, .ref h_a0), (1, .int p1), (2, .int p2)]) hx hb dX9_product_116 hl (k := 2) rfl (by rw [e_x3_12]; rfl) (by decide) rfl (fun ls hl => ?_)
                    refine lv_goto (tgt := 29) hx hb dX9_product_119 (by decide) ?_
                    exact ih_29_5 x3_12 (vp_updL a0_row_29_5 (((601 : Int32) * a0_rows) + l3_29_5).toNatClampNeg l4_42_8) (Nat.lt_of_lt_of_le h.2 (Nat.le_of_lt_succ hm_29_5)) h.1 _ _ _ (lv_sub hl [0, 3, 4, 5] rfl) (hP.sub [0, 1] rfl) (hD.sub [0, 1] (by decide) rfl) hS
                  · replace h := h.2 c_10
                    refine lv_lload hx hb dX9_product_48 (lv_at hl 1 rfl) ?_
                    refine lv_iload_n hx hb dX9_product_50 rfl (lv_at hl 2 rfl) ?_
                    refine lv_iload hx hb dX9_product_51 (lv_at hl 0 rfl) ?_
                    obtain ⟨hne_13, h⟩ := h
                    refine lv_irem hx hb dX9_product_53 hne_13 ?_
                    refine lv_if_ne (tgt := 89) hx hb dX9_product_54 (by decide) (fun c_14 => ?_) (fun c_14 => ?_)
                    · replace h := h.2 c_14
                      refine lv_lconst (v := (0 : Int64)) hx hb dX9_product_89 (by decide) ?_
                      refine lv_ladd hx hb dX9_product_90 ?_
                      refine lv_topl (fun x4_15 e_x4_15 => ?_)
                      replace h := h x4_15 e_x4_15
                      refine lv_lstore (lv' := [(4, .long x4_15), (6, .int l6_42_8), (3, .int l3_29_5), (0, .ref h_a0), (1, .int p1), (2, .int p2)]) hx hb dX9_product_91 hl (by decide) rfl (fun ls hl => ?_)
                      obtain ⟨x6_16, e_x6_16⟩ : ∃ y : Int32, y = l6_42_8 + (1 : Int32) := ⟨_, rfl⟩
                      replace h := h x6_16 e_x6_16
                      refine lv_iinc (v := x6_16) (lv' := [(6, .int x6_16), (4, .long x4_15), (3, .int l3_29_5), (0, .ref h_a0), (1, .int p1), (2, .int p2)]) hx hb dX9_product_93 hl (k := 1) rfl (by rw [e_x6_16]; rfl) (by decide) rfl (fun ls hl => ?_)
                      refine lv_goto (tgt := 42) hx hb dX9_product_96 (by decide) ?_
                      exact ih_42_8 x6_16 x4_15 (Nat.lt_of_lt_of_le h.2 (Nat.le_of_lt_succ hm_42_8)) h.1 _ _ _ (lv_sub hl [0, 1, 2, 3, 4, 5] rfl) (hP.sub [0, 1] rfl) (hD.sub [0, 1] (by decide) rfl) hS
                    · replace h := h.1 c_14
                      refine lv_aload_n hx hb dX9_product_57 rfl (lv_at hl 3 rfl) ?_
                      refine va_get (D := (dC, dI)) (ci := 8) (v := .ref q_a0_row) (C := RX9) (T := TX9) (N := 19) hx hb hts hin_X9 hown hK hP 1 rfl rfl 15 (by decide) hw_2 (fun _ h9 => h9) rfl dX9_product_58 ?_
                      refine lv_sipush (v := (601 : Int32)) hx hb dX9_product_61 (by decide) ?_
                      refine lv_iload_n hx hb dX9_product_64 rfl (lv_at hl 4 rfl) ?_
                      refine lv_imul hx hb dX9_product_65 ?_
                      refine lv_iload hx hb dX9_product_66 (lv_at hl 0 rfl) ?_
                      refine lv_iadd hx hb dX9_product_68 ?_
                      obtain ⟨hin_17, h⟩ := h
                      refine va_lald hx hb hK hP 0 1 rfl rfl hin_17 dX9_product_69 ?_
                      refine lv_aload_n hx hb dX9_product_70 rfl (lv_at hl 3 rfl) ?_
                      refine va_get (D := (dC, dI)) (ci := 8) (v := .ref q_a0_row) (C := RX9) (T := TX9) (N := 19) hx hb hts hin_X9 hown hK hP 1 rfl rfl 15 (by decide) hw_2 (fun _ h9 => h9) rfl dX9_product_71 ?_
                      refine lv_sipush (v := (601 : Int32)) hx hb dX9_product_74 (by decide) ?_
                      refine lv_iload_n hx hb dX9_product_77 rfl (lv_at hl 5 rfl) ?_
                      refine lv_imul hx hb dX9_product_78 ?_
                      refine lv_iload_n hx hb dX9_product_79 rfl (lv_at hl 2 rfl) ?_
                      refine lv_iload hx hb dX9_product_80 (lv_at hl 0 rfl) ?_
                      obtain ⟨hne_18, h⟩ := h
                      refine lv_idiv hx hb dX9_product_82 hne_18 ?_
                      refine lv_iadd hx hb dX9_product_83 ?_
                      obtain ⟨hin_19, h⟩ := h
                      refine va_lald hx hb hK hP 0 1 rfl rfl hin_19 dX9_product_84 ?_
                      refine lv_lmul hx hb dX9_product_85 ?_
                      refine lv_goto (tgt := 90) hx hb dX9_product_86 (by decide) ?_
                      refine lv_ladd hx hb dX9_product_90 ?_
                      refine lv_topl (fun x4_20 e_x4_20 => ?_)
                      replace h := h x4_20 e_x4_20
                      refine lv_lstore (lv' := [(4, .long x4_20), (6, .int l6_42_8), (3, .int l3_29_5), (0, .ref h_a0), (1, .int p1), (2, .int p2)]) hx hb dX9_product_91 hl (by decide) rfl (fun ls hl => ?_)
                      obtain ⟨x6_21, e_x6_21⟩ : ∃ y : Int32, y = l6_42_8 + (1 : Int32) := ⟨_, rfl⟩
                      replace h := h x6_21 e_x6_21
                      refine lv_iinc (v := x6_21) (lv' := [(6, .int x6_21), (4, .long x4_20), (3, .int l3_29_5), (0, .ref h_a0), (1, .int p1), (2, .int p2)]) hx hb dX9_product_93 hl (k := 1) rfl (by rw [e_x6_21]; rfl) (by decide) rfl (fun ls hl => ?_)
                      refine lv_goto (tgt := 42) hx hb dX9_product_96 (by decide) ?_
                      exact ih_42_8 x6_21 x4_20 (Nat.lt_of_lt_of_le h.2 (Nat.le_of_lt_succ hm_42_8)) h.1 _ _ _ (lv_sub hl [0, 1, 2, 3, 4, 5] rfl) (hP.sub [0, 1] rfl) (hD.sub [0, 1] (by decide) rfl) hS
              exact key_42_8 _ (1 : Int32) (0 : Int64) (Nat.lt_succ_self _) h0_42_8 _ _ _ (lv_sub hl [0, 1, 2, 3, 4, 5] rfl) (hP.sub [0, 1] rfl) (hD.sub [0, 1] (by decide) rfl) hS
        exact key_29_5 _ (1 : Int32) a0_row (Nat.lt_succ_self _) h0_29_5 _ _ _ (lv_sub hl [0, 1, 2, 3] rfl) (hP.sub [0, 1] rfl) (hD.sub [0, 1] (by decide) rfl) hS
      · replace h := h.1 c_5
        refine lv_iconst (v := (-1 : Int32)) hx hb dX9_product_25 (by decide) ?_
        have hP9 := hP.sub (ws' := [(h_a0, .inr (8, [.int a0_primes, w_a0_prime, w_a0_isNone, .int a0_hasSpan, .long a0_spanFrom, .int a0_spanMany, w_a0_least, w_a0_greatest, w_a0_isSquared, .int a0_hasPart, .long a0_parted, .int a0_partMany, w_a0_partPrime, w_a0_partPower, .int a0_rows, .ref q_a0_row, .long a0_foundLeast, .long a0_foundGreatest, .int a0_foundSquare])), (q_a0_row, .inl (cJ, 9616, .inr (.inl a0_row)))]) [1, 0] rfl
        have hD9 := hD.sub (ws' := [(h_a0, .inr (8, [.int a0_primes, w_a0_prime, w_a0_isNone, .int a0_hasSpan, .long a0_spanFrom, .int a0_spanMany, w_a0_least, w_a0_greatest, w_a0_isSquared, .int a0_hasPart, .long a0_parted, .int a0_partMany, w_a0_partPrime, w_a0_partPower, .int a0_rows, .ref q_a0_row, .long a0_foundLeast, .long a0_foundGreatest, .int a0_foundSquare])), (q_a0_row, .inl (cJ, 9616, .inr (.inl a0_row)))]) [1, 0] (by decide) rfl
        exact W.iret (v := (-1 : Int32)) hx hb hr (fun t ht hW => ⟨⟨_, (a0_rows, a0_row), rfl, h, by rw [ht]; exact hP9, hD9⟩, hS.F ht⟩) hS.2.2 dX9_product_26
def wp_X9_turned (a0_rows : Int32) (a0_row : Nat → Int64) (p1 : Int32) (Q : Int32 → Int32 → (Nat → Int64) → Prop) : Prop :=
  wp_X9_isRow a0_rows p1 (fun r_1 => ((r_1 = (0 : Int32) → (((0 : Int64) = (1 : Int64) → ((a0_rows = (16 : Int32) → Q (-1 : Int32) a0_rows a0_row) ∧ (¬ a0_rows = (16 : Int32) → (∀ x4_5 : Int32, x4_5 = ((601 : Int32) * a0_rows) → (vp_in (x4_5 + (1 : Int32)) 9616 ∧ (∃ (I_73_6 : Int32 → (Nat → Int64) → Prop) (m_73_6 : Int32 → (Nat → Int64) → Nat), I_73_6 (2 : Int32) (vp_updL a0_row (x4_5 + (1 : Int32)).toNatClampNeg (0 : Int64)) ∧ ∀ (l5_73_6 : Int32) (a0_row_73_6 : Nat → Int64), I_73_6 l5_73_6 a0_row_73_6 → (((600 : Int32) < l5_73_6 → (∀ y_9 : Int32, y_9 = (a0_rows + (1 : Int32)) → Q (y_9 - (1 : Int32)) y_9 a0_row_73_6)) ∧ (¬ (600 : Int32) < l5_73_6 → (∃ (I_87_9 : Int32 → Int64 → Prop) (m_87_9 : Int32 → Int64 → Nat), I_87_9 (1 : Int32) (0 : Int64) ∧ ∀ (l8_87_9 : Int32) (l6_87_9 : Int64), I_87_9 l8_87_9 l6_87_9 → ((l5_73_6 ≤ l8_87_9 → (∀ y_12 : Int64, y_12 = ((-l6_87_9) * (0 : Int64)) → (vp_in (x4_5 + l5_73_6) 9616 ∧ (∀ x5_14 : Int32, x5_14 = l5_73_6 + (1 : Int32) → (I_73_6 x5_14 (vp_updL a0_row_73_6 (x4_5 + l5_73_6).toNatClampNeg y_12) ∧ m_73_6 x5_14 (vp_updL a0_row_73_6 (x4_5 + l5_73_6).toNatClampNeg y_12) < m_73_6 l5_73_6 a0_row_73_6))))) ∧ (¬ l5_73_6 ≤ l8_87_9 → (¬ l8_87_9 = 0 ∧ (((l5_73_6 - l5_73_6 / l8_87_9 * l8_87_9) = (0 : Int32) → (¬ l8_87_9 = 0 ∧ (vp_in (((601 : Int32) * p1) + (l5_73_6 / l8_87_9)) 9616 ∧ (vp_in (x4_5 + l8_87_9) 9616 ∧ (∀ x6_22 : Int64, x6_22 = (l6_87_9 + ((a0_row_73_6 (((601 : Int32) * p1) + (l5_73_6 / l8_87_9)).toNatClampNeg) * (a0_row_73_6 (x4_5 + l8_87_9).toNatClampNeg))) → (∀ x8_23 : Int32, x8_23 = l8_87_9 + (1 : Int32) → (I_87_9 x8_23 x6_22 ∧ m_87_9 x8_23 x6_22 < m_87_9 l8_87_9 l6_87_9))))))) ∧ (¬ (l5_73_6 - l5_73_6 / l8_87_9 * l8_87_9) = (0 : Int32) → (∀ x6_17 : Int64, x6_17 = (l6_87_9 + (0 : Int64)) → (∀ x8_18 : Int32, x8_18 = l8_87_9 + (1 : Int32) → (I_87_9 x8_18 x6_17 ∧ m_87_9 x8_18 x6_17 < m_87_9 l8_87_9 l6_87_9))))))))))))))))) ∧ (¬ (0 : Int64) = (1 : Int64) → (((0 : Int64) = (-1 : Int64) → ((a0_rows = (16 : Int32) → Q (-1 : Int32) a0_rows a0_row) ∧ (¬ a0_rows = (16 : Int32) → (∀ x4_26 : Int32, x4_26 = ((601 : Int32) * a0_rows) → (vp_in (x4_26 + (1 : Int32)) 9616 ∧ (∃ (I_73_27 : Int32 → (Nat → Int64) → Prop) (m_73_27 : Int32 → (Nat → Int64) → Nat), I_73_27 (2 : Int32) (vp_updL a0_row (x4_26 + (1 : Int32)).toNatClampNeg (0 : Int64)) ∧ ∀ (l5_73_27 : Int32) (a0_row_73_27 : Nat → Int64), I_73_27 l5_73_27 a0_row_73_27 → (((600 : Int32) < l5_73_27 → (∀ y_30 : Int32, y_30 = (a0_rows + (1 : Int32)) → Q (y_30 - (1 : Int32)) y_30 a0_row_73_27)) ∧ (¬ (600 : Int32) < l5_73_27 → (∃ (I_87_30 : Int32 → Int64 → Prop) (m_87_30 : Int32 → Int64 → Nat), I_87_30 (1 : Int32) (0 : Int64) ∧ ∀ (l8_87_30 : Int32) (l6_87_30 : Int64), I_87_30 l8_87_30 l6_87_30 → ((l5_73_27 ≤ l8_87_30 → (∀ y_33 : Int64, y_33 = ((-l6_87_30) * (0 : Int64)) → (vp_in (x4_26 + l5_73_27) 9616 ∧ (∀ x5_35 : Int32, x5_35 = l5_73_27 + (1 : Int32) → (I_73_27 x5_35 (vp_updL a0_row_73_27 (x4_26 + l5_73_27).toNatClampNeg y_33) ∧ m_73_27 x5_35 (vp_updL a0_row_73_27 (x4_26 + l5_73_27).toNatClampNeg y_33) < m_73_27 l5_73_27 a0_row_73_27))))) ∧ (¬ l5_73_27 ≤ l8_87_30 → (¬ l8_87_30 = 0 ∧ (((l5_73_27 - l5_73_27 / l8_87_30 * l8_87_30) = (0 : Int32) → (¬ l8_87_30 = 0 ∧ (vp_in (((601 : Int32) * p1) + (l5_73_27 / l8_87_30)) 9616 ∧ (vp_in (x4_26 + l8_87_30) 9616 ∧ (∀ x6_43 : Int64, x6_43 = (l6_87_30 + ((a0_row_73_27 (((601 : Int32) * p1) + (l5_73_27 / l8_87_30)).toNatClampNeg) * (a0_row_73_27 (x4_26 + l8_87_30).toNatClampNeg))) → (∀ x8_44 : Int32, x8_44 = l8_87_30 + (1 : Int32) → (I_87_30 x8_44 x6_43 ∧ m_87_30 x8_44 x6_43 < m_87_30 l8_87_30 l6_87_30))))))) ∧ (¬ (l5_73_27 - l5_73_27 / l8_87_30 * l8_87_30) = (0 : Int32) → (∀ x6_38 : Int64, x6_38 = (l6_87_30 + (0 : Int64)) → (∀ x8_39 : Int32, x8_39 = l8_87_30 + (1 : Int32) → (I_87_30 x8_39 x6_38 ∧ m_87_30 x8_39 x6_38 < m_87_30 l8_87_30 l6_87_30))))))))))))))))) ∧ (¬ (0 : Int64) = (-1 : Int64) → Q (-1 : Int32) a0_rows a0_row))))) ∧ (¬ r_1 = (0 : Int32) → (vp_in (((601 : Int32) * p1) + (1 : Int32)) 9616 ∧ (∀ x2_46 : Int64, x2_46 = (a0_row (((601 : Int32) * p1) + (1 : Int32)).toNatClampNeg) → ((x2_46 = (1 : Int64) → ((a0_rows = (16 : Int32) → Q (-1 : Int32) a0_rows a0_row) ∧ (¬ a0_rows = (16 : Int32) → (∀ x4_49 : Int32, x4_49 = ((601 : Int32) * a0_rows) → (vp_in (x4_49 + (1 : Int32)) 9616 ∧ (∃ (I_73_50 : Int32 → (Nat → Int64) → Prop) (m_73_50 : Int32 → (Nat → Int64) → Nat), I_73_50 (2 : Int32) (vp_updL a0_row (x4_49 + (1 : Int32)).toNatClampNeg x2_46) ∧ ∀ (l5_73_50 : Int32) (a0_row_73_50 : Nat → Int64), I_73_50 l5_73_50 a0_row_73_50 → (((600 : Int32) < l5_73_50 → (∀ y_53 : Int32, y_53 = (a0_rows + (1 : Int32)) → Q (y_53 - (1 : Int32)) y_53 a0_row_73_50)) ∧ (¬ (600 : Int32) < l5_73_50 → (∃ (I_87_53 : Int32 → Int64 → Prop) (m_87_53 : Int32 → Int64 → Nat), I_87_53 (1 : Int32) (0 : Int64) ∧ ∀ (l8_87_53 : Int32) (l6_87_53 : Int64), I_87_53 l8_87_53 l6_87_53 → ((l5_73_50 ≤ l8_87_53 → (∀ y_56 : Int64, y_56 = ((-l6_87_53) * x2_46) → (vp_in (x4_49 + l5_73_50) 9616 ∧ (∀ x5_58 : Int32, x5_58 = l5_73_50 + (1 : Int32) → (I_73_50 x5_58 (vp_updL a0_row_73_50 (x4_49 + l5_73_50).toNatClampNeg y_56) ∧ m_73_50 x5_58 (vp_updL a0_row_73_50 (x4_49 + l5_73_50).toNatClampNeg y_56) < m_73_50 l5_73_50 a0_row_73_50))))) ∧ (¬ l5_73_50 ≤ l8_87_53 → (¬ l8_87_53 = 0 ∧ (((l5_73_50 - l5_73_50 / l8_87_53 * l8_87_53) = (0 : Int32) → (¬ l8_87_53 = 0 ∧ (vp_in (((601 : Int32) * p1) + (l5_73_50 / l8_87_53)) 9616 ∧ (vp_in (x4_49 + l8_87_53) 9616 ∧ (∀ x6_66 : Int64, x6_66 = (l6_87_53 + ((a0_row_73_50 (((601 : Int32) * p1) + (l5_73_50 / l8_87_53)).toNatClampNeg) * (a0_row_73_50 (x4_49 + l8_87_53).toNatClampNeg))) → (∀ x8_67 : Int32, x8_67 = l8_87_53 + (1 : Int32) → (I_87_53 x8_67 x6_66 ∧ m_87_53 x8_67 x6_66 < m_87_53 l8_87_53 l6_87_53))))))) ∧ (¬ (l5_73_50 - l5_73_50 / l8_87_53 * l8_87_53) = (0 : Int32) → (∀ x6_61 : Int64, x6_61 = (l6_87_53 + (0 : Int64)) → (∀ x8_62 : Int32, x8_62 = l8_87_53 + (1 : Int32) → (I_87_53 x8_62 x6_61 ∧ m_87_53 x8_62 x6_61 < m_87_53 l8_87_53 l6_87_53))))))))))))))))) ∧ (¬ x2_46 = (1 : Int64) → ((x2_46 = (-1 : Int64) → ((a0_rows = (16 : Int32) → Q (-1 : Int32) a0_rows a0_row) ∧ (¬ a0_rows = (16 : Int32) → (∀ x4_70 : Int32, x4_70 = ((601 : Int32) * a0_rows) → (vp_in (x4_70 + (1 : Int32)) 9616 ∧ (∃ (I_73_71 : Int32 → (Nat → Int64) → Prop) (m_73_71 : Int32 → (Nat → Int64) → Nat), I_73_71 (2 : Int32) (vp_updL a0_row (x4_70 + (1 : Int32)).toNatClampNeg x2_46) ∧ ∀ (l5_73_71 : Int32) (a0_row_73_71 : Nat → Int64), I_73_71 l5_73_71 a0_row_73_71 → (((600 : Int32) < l5_73_71 → (∀ y_74 : Int32, y_74 = (a0_rows + (1 : Int32)) → Q (y_74 - (1 : Int32)) y_74 a0_row_73_71)) ∧ (¬ (600 : Int32) < l5_73_71 → (∃ (I_87_74 : Int32 → Int64 → Prop) (m_87_74 : Int32 → Int64 → Nat), I_87_74 (1 : Int32) (0 : Int64) ∧ ∀ (l8_87_74 : Int32) (l6_87_74 : Int64), I_87_74 l8_87_74 l6_87_74 → ((l5_73_71 ≤ l8_87_74 → (∀ y_77 : Int64, y_77 = ((-l6_87_74) * x2_46) → (vp_in (x4_70 + l5_73_71) 9616 ∧ (∀ x5_79 : Int32, x5_79 = l5_73_71 + (1 : Int32) → (I_73_71 x5_79 (vp_updL a0_row_73_71 (x4_70 + l5_73_71).toNatClampNeg y_77) ∧ m_73_71 x5_79 (vp_updL a0_row_73_71 (x4_70 + l5_73_71).toNatClampNeg y_77) < m_73_71 l5_73_71 a0_row_73_71))))) ∧ (¬ l5_73_71 ≤ l8_87_74 → (¬ l8_87_74 = 0 ∧ (((l5_73_71 - l5_73_71 / l8_87_74 * l8_87_74) = (0 : Int32) → (¬ l8_87_74 = 0 ∧ (vp_in (((601 : Int32) * p1) + (l5_73_71 / l8_87_74)) 9616 ∧ (vp_in (x4_70 + l8_87_74) 9616 ∧ (∀ x6_87 : Int64, x6_87 = (l6_87_74 + ((a0_row_73_71 (((601 : Int32) * p1) + (l5_73_71 / l8_87_74)).toNatClampNeg) * (a0_row_73_71 (x4_70 + l8_87_74).toNatClampNeg))) → (∀ x8_88 : Int32, x8_88 = l8_87_74 + (1 : Int32) → (I_87_74 x8_88 x6_87 ∧ m_87_74 x8_88 x6_87 < m_87_74 l8_87_74 l6_87_74))))))) ∧ (¬ (l5_73_71 - l5_73_71 / l8_87_74 * l8_87_74) = (0 : Int32) → (∀ x6_82 : Int64, x6_82 = (l6_87_74 + (0 : Int64)) → (∀ x8_83 : Int32, x8_83 = l8_87_74 + (1 : Int32) → (I_87_74 x8_83 x6_82 ∧ m_87_74 x8_83 x6_82 < m_87_74 l8_87_74 l6_87_74))))))))))))))))) ∧ (¬ x2_46 = (-1 : Int64) → Q (-1 : Int32) a0_rows a0_row)))))))))
abbrev rm_X9_turned : Room := { frames := 2, cells := 0, slots := 0, locals := 46 }
abbrev qc_X9_turned (dC : Nat → ClassId) (dI : Nat → Nat → Nat) (cI cJ cZ : ClassId) (h_a0 : Nat) (a0_primes : Int32) (w_a0_prime : Value) (w_a0_isNone : Value) (a0_hasSpan : Int32) (a0_spanFrom : Int64) (a0_spanMany : Int32) (w_a0_least : Value) (w_a0_greatest : Value) (w_a0_isSquared : Value) (a0_hasPart : Int32) (a0_parted : Int64) (a0_partMany : Int32) (w_a0_partPrime : Value) (w_a0_partPower : Value) (a0_rows : Int32) (a0_row : Nat → Int64) (q_a0_row : Nat) (a0_foundLeast : Int64) (a0_foundGreatest : Int64) (a0_foundSquare : Int32) (Q : Int32 → Int32 → (Nat → Int64) → Prop) (A : Nat → Prop) : Array Value → State → Outcome → State → Prop := va_Qi (fun (r : Int32) (u : Int32 × (Nat → Int64)) => Q r u.1 u.2) (post_ dC dI A (fun (u : Int32 × (Nat → Int64)) => [(h_a0, .inr (8, [.int a0_primes, w_a0_prime, w_a0_isNone, .int a0_hasSpan, .long a0_spanFrom, .int a0_spanMany, w_a0_least, w_a0_greatest, w_a0_isSquared, .int a0_hasPart, .long a0_parted, .int a0_partMany, w_a0_partPrime, w_a0_partPower, .int u.1, .ref q_a0_row, .long a0_foundLeast, .long a0_foundGreatest, .int a0_foundSquare])), (q_a0_row, .inl (cJ, 9616, .inr (.inl (u.2))))])) A
set_option maxHeartbeats 4000000 in
set_option maxRecDepth 100000 in
theorem c_X9_turned (l : Launch) (dC : Nat → ClassId) (dI : Nat → Nat → Nat) (cI cJ cZ : ClassId) (sz : Nat) (h_a0 : Nat) (a0_primes : Int32) (w_a0_prime : Value) (w_a0_isNone : Value) (a0_hasSpan : Int32) (a0_spanFrom : Int64) (a0_spanMany : Int32) (w_a0_least : Value) (w_a0_greatest : Value) (w_a0_isSquared : Value) (a0_hasPart : Int32) (a0_parted : Int64) (a0_partMany : Int32) (w_a0_partPrime : Value) (w_a0_partPower : Value) (a0_rows : Int32) (a0_row : Nat → Int64) (q_a0_row : Nat) (a0_foundLeast : Int64) (a0_foundGreatest : Int64) (a0_foundSquare : Int32) (p1 : Int32) (Q : Int32 → Int32 → (Nat → Int64) → Prop) (hQ : wp_X9_turned a0_rows a0_row p1 Q) : Met l yX9_turned wsX9_turned rm_X9_turned (pre_ dC dI cI cJ cZ [.ref h_a0, .int p1] [(h_a0, .inr (8, [.int a0_primes, w_a0_prime, w_a0_isNone, .int a0_hasSpan, .long a0_spanFrom, .int a0_spanMany, w_a0_least, w_a0_greatest, w_a0_isSquared, .int a0_hasPart, .long a0_parted, .int a0_partMany, w_a0_partPrime, w_a0_partPower, .int a0_rows, .ref q_a0_row, .long a0_foundLeast, .long a0_foundGreatest, .int a0_foundSquare])), (q_a0_row, .inl (cJ, 9616, .inr (.inl a0_row)))] sz) (qc_X9_turned dC dI cI cJ cZ h_a0 a0_primes w_a0_prime w_a0_isNone a0_hasSpan a0_spanFrom a0_spanMany w_a0_least w_a0_greatest w_a0_isSquared a0_hasPart a0_parted a0_partMany w_a0_partPrime w_a0_partPower a0_rows a0_row q_a0_row a0_foundLeast a0_foundGreatest a0_foundSquare Q (va_A [(h_a0, .inr (8, [.int a0_primes, w_a0_prime, w_a0_isNone, .int a0_hasSpan, .long a0_spanFrom, .int a0_spanMany, w_a0_least, w_a0_greatest, w_a0_isSquared, .int a0_hasPart, .long a0_parted, .int a0_partMany, w_a0_partPrime, w_a0_partPower, .int a0_rows, .ref q_a0_row, .long a0_foundLeast, .long a0_foundGreatest, .int a0_foundSquare])), (q_a0_row, .inl (cJ, 9616, .inr (.inl a0_row)))] sz)) 0 0 (va_A [(h_a0, .inr (8, [.int a0_primes, w_a0_prime, w_a0_isNone, .int a0_hasSpan, .long a0_spanFrom, .int a0_spanMany, w_a0_least, w_a0_greatest, w_a0_isSquared, .int a0_hasPart, .long a0_parted, .int a0_partMany, w_a0_partPrime, w_a0_partPower, .int a0_rows, .ref q_a0_row, .long a0_foundLeast, .long a0_foundGreatest, .int a0_foundSquare])), (q_a0_row, .inl (cJ, 9616, .inr (.inl a0_row)))] sz) := by
  refine Met.ofW (cc := cX9_turned) (maxL := 9) (ret := (some .int)) (by decide) rfl ?_
  intro p e s m args below meth c s₁ B hml hv
  obtain ⟨rfl, hsz, hP, hK, hN, hD0⟩ := hv
  have hx := B.exec
  have hb := B.bytes
  have hr := B.returns
  have hts := atoms_spec (ws := wsX9_turned) B.pre
  have hown : s.vm.findClass RX9 = some m.cls := findClass_of_methodNamed B.named
  subst hsz
  have hD := hD0.self (sz := s.heap.size)
  generalize hAe : va_A [(h_a0, .inr (8, [.int a0_primes, w_a0_prime, w_a0_isNone, .int a0_hasSpan, .long a0_spanFrom, .int a0_spanMany, w_a0_least, w_a0_greatest, w_a0_isSquared, .int a0_hasPart, .long a0_parted, .int a0_partMany, w_a0_partPrime, w_a0_partPower, .int a0_rows, .ref q_a0_row, .long a0_foundLeast, .long a0_foundGreatest, .int a0_foundSquare])), (q_a0_row, .inl (cJ, 9616, .inr (.inl a0_row)))] s.heap.size = A at hD ⊢
  have hA : ∀ q : Nat, s.heap.size ≤ q → A q := fun q h => by rw [← hAe]; exact Or.inr h
  have hS : va_S A s.heap s.heap [] := va_S.rf
  have hl := lv_entry ([.ref h_a0, .int p1]) (n := 9) (Nat.le_of_ble_eq_true rfl)
  rw [lg_entry_eq]
  generalize (lg_sl ([.ref h_a0, .int p1]) ++ List.replicate (9 - (lg_sl ([.ref h_a0, .int p1])).length) Slot.unset).toArray = ls at hl ⊢
  have hl : lv_has ls 9 [(0, .ref h_a0), (1, .int p1)] := hl
  have h := hQ
  unfold wp_X9_turned at h
  have hw_0 := hts (.fieldLink RX9 112 "NumberSievesModel" "rows" "I") (by decide +kernel)
  have hin_X9 : ∀ w ∈ wsX90, w ∈ wsX9_turned := by decide +kernel
  have hw_2 := hts (.fieldLink RX9 34 "NumberSievesModel" "row" "[J") (by decide +kernel)
  have hw_3 := hts (.constantLong RX9 92 (-1)) (by decide +kernel)
  refine lv_aload_n hx hb dX9_turned_0 rfl (lv_at hl 0 rfl) ?_
  refine lv_iload_n hx hb dX9_turned_1 rfl (lv_at hl 1 rfl) ?_
  have hPc := hP.sub (ws' := [(h_a0, .inr (8, [.int a0_primes, w_a0_prime, w_a0_isNone, .int a0_hasSpan, .long a0_spanFrom, .int a0_spanMany, w_a0_least, w_a0_greatest, w_a0_isSquared, .int a0_hasPart, .long a0_parted, .int a0_partMany, w_a0_partPrime, w_a0_partPower, .int a0_rows, .ref q_a0_row, .long a0_foundLeast, .long a0_foundGreatest, .int a0_foundSquare]))]) [0] rfl
  have hDc := hD.sub (ws' := [(h_a0, .inr (8, [.int a0_primes, w_a0_prime, w_a0_isNone, .int a0_hasSpan, .long a0_spanFrom, .int a0_spanMany, w_a0_least, w_a0_greatest, w_a0_isSquared, .int a0_hasPart, .long a0_parted, .int a0_partMany, w_a0_partPrime, w_a0_partPower, .int a0_rows, .ref q_a0_row, .long a0_foundLeast, .long a0_foundGreatest, .int a0_foundSquare]))]) [0] (by decide) rfl
  have hFc := va_free (wc := [(h_a0, .inr (8, [.int a0_primes, w_a0_prime, w_a0_isNone, .int a0_hasSpan, .long a0_spanFrom, .int a0_spanMany, w_a0_least, w_a0_greatest, w_a0_isSquared, .int a0_hasPart, .long a0_parted, .int a0_partMany, w_a0_partPrime, w_a0_partPower, .int a0_rows, .ref q_a0_row, .long a0_foundLeast, .long a0_foundGreatest, .int a0_foundSquare]))]) hD hS hA [0] rfl
  refine va_calli (va_runV (As := [.int p1]) (rest := []) ⟨hx, hb, hml, hown, hts⟩ (c_X9_isRow l dC dI cI cJ cZ _ h_a0 a0_primes (w_a0_prime) (w_a0_isNone) a0_hasSpan a0_spanFrom a0_spanMany (w_a0_least) (w_a0_greatest) (w_a0_isSquared) a0_hasPart a0_parted a0_partMany (w_a0_partPrime) (w_a0_partPower) a0_rows (.ref q_a0_row) a0_foundLeast a0_foundGreatest a0_foundSquare p1 _ h) (cwV 1 hts gX9_turned_X9_isRow rfl rfl rfl (by decide +kernel) ⟨Nat.le_of_ble_eq_true rfl, Nat.le_of_ble_eq_true rfl⟩) ⟨pre_fb, va_recv hK hPc (ci := 8) (q0 := 0) rfl rfl, pre_of hPc hDc hK hN⟩ rfl rfl hl.1 rfl (lv_room (Nat.le_of_ble_eq_true rfl)) dX9_turned_2 ⟨by first | exact Nat.le_of_ble_eq_true rfl | exact Nat.le_refl _, by first | exact Nat.le_of_ble_eq_true rfl | exact Nat.le_refl _⟩) hS (fun q _ h => hFc q h) hFc (fun r_1 u t H1 locs ht hvm h hB hz1 hk1 hS => ?_)
  obtain ⟨hP1, hD1⟩ := hB
  rw [ht] at hP1
  try dsimp only at h
  obtain ⟨hP, hD⟩ := va_join (wr := [(q_a0_row, .inl (cJ, 9616, .inr (.inl a0_row)))]) (w1 := [(h_a0, .inr (8, [.int a0_primes, w_a0_prime, w_a0_isNone, .int a0_hasSpan, .long a0_spanFrom, .int a0_spanMany, w_a0_least, w_a0_greatest, w_a0_isSquared, .int a0_hasPart, .long a0_parted, .int a0_partMany, w_a0_partPrime, w_a0_partPower, .int a0_rows, .ref q_a0_row, .long a0_foundLeast, .long a0_foundGreatest, .int a0_foundSquare]))]) hP hD [0] [1] rfl rfl (by decide) (by decide) hk1 hFc hP1 hD1
  generalize H1 = H at hP hS ⊢
  have hP : va_P (dC, dI) vwCl [(q_a0_row, .inl (cJ, 9616, .inr (.inl a0_row))), (h_a0, .inr (8, [.int a0_primes, w_a0_prime, w_a0_isNone, .int a0_hasSpan, .long a0_spanFrom, .int a0_spanMany, w_a0_least, w_a0_greatest, w_a0_isSquared, .int a0_hasPart, .long a0_parted, .int a0_partMany, w_a0_partPrime, w_a0_partPower, .int a0_rows, .ref q_a0_row, .long a0_foundLeast, .long a0_foundGreatest, .int a0_foundSquare]))] H := hP
  have hD : va_D A [(q_a0_row, .inl (cJ, 9616, .inr (.inl a0_row))), (h_a0, .inr (8, [.int a0_primes, w_a0_prime, w_a0_isNone, .int a0_hasSpan, .long a0_spanFrom, .int a0_spanMany, w_a0_least, w_a0_greatest, w_a0_isSquared, .int a0_hasPart, .long a0_parted, .int a0_partMany, w_a0_partPrime, w_a0_partPower, .int a0_rows, .ref q_a0_row, .long a0_foundLeast, .long a0_foundGreatest, .int a0_foundSquare]))] := hD
  refine lv_if_eq (tgt := 23) hx hb dX9_turned_5 (by decide) (fun c_2 => ?_) (fun c_2 => ?_)
  · replace h := h.1 c_2
    refine lv_lconst (v := (0 : Int64)) hx hb dX9_turned_23 (by decide) ?_
    refine lv_lstore_n (lv' := [(2, .long (0 : Int64)), (0, .ref h_a0), (1, .int p1)]) hx hb dX9_turned_24 rfl hl (by decide) rfl (fun ls hl => ?_)
    refine lv_lload_n hx hb dX9_turned_25 rfl (lv_at hl 0 rfl) ?_
    refine lv_lconst (v := (1 : Int64)) hx hb dX9_turned_26 (by decide) ?_
    refine W.lcmp hx hb dX9_turned_27 ?_
    refine lv_if_eq (tgt := 39) hx hb dX9_turned_28 (by decide) (fun c_3 => ?_) (fun c_3 => ?_)
    · replace c_3 := (lg_cmp_eq _ _).mp c_3
      replace h := h.1 c_3
      refine lv_aload_n hx hb dX9_turned_39 rfl (lv_at hl 1 rfl) ?_
      refine va_get (D := (dC, dI)) (ci := 8) (v := .int a0_rows) (C := RX9) (T := TX9) (N := 19) hx hb hts hin_X9 hown hK hP 1 rfl rfl 14 (by decide) hw_0 (fun _ h9 => h9) rfl dX9_turned_40 ?_
      refine lv_bipush (v := (16 : Int32)) hx hb dX9_turned_43 (by decide) ?_
      refine lv_icmp_ne (tgt := 50) hx hb dX9_turned_45 (by decide) (fun c_4 => ?_) (fun c_4 => ?_)
      · replace h := h.2 c_4
        refine lv_sipush (v := (601 : Int32)) hx hb dX9_turned_50 (by decide) ?_
        refine lv_aload_n hx hb dX9_turned_53 rfl (lv_at hl 1 rfl) ?_
        refine va_get (D := (dC, dI)) (ci := 8) (v := .int a0_rows) (C := RX9) (T := TX9) (N := 19) hx hb hts hin_X9 hown hK hP 1 rfl rfl 14 (by decide) hw_0 (fun _ h9 => h9) rfl dX9_turned_54 ?_
        refine lv_imul hx hb dX9_turned_57 ?_
        refine lv_topi (fun x4_5 e_x4_5 => ?_)
        replace h := h x4_5 e_x4_5
        refine lv_istore (lv' := [(4, .int x4_5), (2, .long (0 : Int64)), (0, .ref h_a0), (1, .int p1)]) hx hb dX9_turned_58 hl (by decide) rfl (fun ls hl => ?_)
        refine lv_aload_n hx hb dX9_turned_60 rfl (lv_at hl 2 rfl) ?_
        refine va_get (D := (dC, dI)) (ci := 8) (v := .ref q_a0_row) (C := RX9) (T := TX9) (N := 19) hx hb hts hin_X9 hown hK hP 1 rfl rfl 15 (by decide) hw_2 (fun _ h9 => h9) rfl dX9_turned_61 ?_
        refine lv_iload hx hb dX9_turned_64 (lv_at hl 0 rfl) ?_
        refine lv_iconst (v := (1 : Int32)) hx hb dX9_turned_66 (by decide) ?_
        refine lv_iadd hx hb dX9_turned_67 ?_
        refine lv_lload_n hx hb dX9_turned_68 rfl (lv_at hl 1 rfl) ?_
        obtain ⟨hin_6, h⟩ := h
        refine va_last hx hb hK hP hD hS 0 1 rfl rfl hin_6 dX9_turned_69 (fun H locs hP hD hS => ?_)
        have hP : va_P (dC, dI) vwCl [(q_a0_row, .inl (cJ, 9616, .inr (.inl (vp_updL a0_row (x4_5 + (1 : Int32)).toNatClampNeg (0 : Int64))))), (h_a0, .inr (8, [.int a0_primes, w_a0_prime, w_a0_isNone, .int a0_hasSpan, .long a0_spanFrom, .int a0_spanMany, w_a0_least, w_a0_greatest, w_a0_isSquared, .int a0_hasPart, .long a0_parted, .int a0_partMany, w_a0_partPrime, w_a0_partPower, .int a0_rows, .ref q_a0_row, .long a0_foundLeast, .long a0_foundGreatest, .int a0_foundSquare]))] H := hP
        have hD : va_D A [(q_a0_row, .inl (cJ, 9616, .inr (.inl (vp_updL a0_row (x4_5 + (1 : Int32)).toNatClampNeg (0 : Int64))))), (h_a0, .inr (8, [.int a0_primes, w_a0_prime, w_a0_isNone, .int a0_hasSpan, .long a0_spanFrom, .int a0_spanMany, w_a0_least, w_a0_greatest, w_a0_isSquared, .int a0_hasPart, .long a0_parted, .int a0_partMany, w_a0_partPrime, w_a0_partPower, .int a0_rows, .ref q_a0_row, .long a0_foundLeast, .long a0_foundGreatest, .int a0_foundSquare]))] := hD
        refine lv_iconst (v := (2 : Int32)) hx hb dX9_turned_70 (by decide) ?_
        refine lv_istore (lv' := [(5, .int (2 : Int32)), (4, .int x4_5), (2, .long (0 : Int64)), (0, .ref h_a0), (1, .int p1)]) hx hb dX9_turned_71 hl (by decide) rfl (fun ls hl => ?_)
        obtain ⟨I_73_6, m_73_6, h0_73_6, hs_73_6⟩ := h
        have key_73_6 : ∀ (n : Nat) (l5_73_6 : Int32) (a0_row_73_6 : Nat → Int64), m_73_6 l5_73_6 a0_row_73_6 < n → I_73_6 l5_73_6 a0_row_73_6 → ∀ (ls : Array Slot) (H : Heap) (locs : List Loc), lv_has ls 9 [(5, .int l5_73_6), (4, .int x4_5), (2, .long (0 : Int64)), (0, .ref h_a0), (1, .int p1)] → va_P (dC, dI) vwCl [(q_a0_row, .inl (cJ, 9616, .inr (.inl a0_row_73_6))), (h_a0, .inr (8, [.int a0_primes, w_a0_prime, w_a0_isNone, .int a0_hasSpan, .long a0_spanFrom, .int a0_spanMany, w_a0_least, w_a0_greatest, w_a0_isSquared, .int a0_hasPart, .long a0_parted, .int a0_partMany, w_a0_partPrime, w_a0_partPower, .int a0_rows, .ref q_a0_row, .long a0_foundLeast, .long a0_foundGreatest, .int a0_foundSquare]))] H → va_D A [(q_a0_row, .inl (cJ, 9616, .inr (.inl a0_row_73_6))), (h_a0, .inr (8, [.int a0_primes, w_a0_prime, w_a0_isNone, .int a0_hasSpan, .long a0_spanFrom, .int a0_spanMany, w_a0_least, w_a0_greatest, w_a0_isSquared, .int a0_hasPart, .long a0_parted, .int a0_partMany, w_a0_partPrime, w_a0_partPower, .int a0_rows, .ref q_a0_row, .long a0_foundLeast, .long a0_foundGreatest, .int a0_foundSquare]))] → va_S A s.heap H locs → W p l e (headSpec wsX9_turned rm_X9_turned).room s m ([.ref h_a0, .int p1] : List Value).toArray below meth c H locs 0 0 (MQ below (qc_X9_turned dC dI cI cJ cZ h_a0 a0_primes w_a0_prime w_a0_isNone a0_hasSpan a0_spanFrom a0_spanMany w_a0_least w_a0_greatest w_a0_isSquared a0_hasPart a0_parted a0_partMany w_a0_partPrime w_a0_partPower a0_rows a0_row q_a0_row a0_foundLeast a0_foundGreatest a0_foundSquare Q A) ([.ref h_a0, .int p1] : List Value).toArray s 0 0 A) (F0 m 73 ls []) := by
          intro n
          induction n with
          | zero =>
            intro l5_73_6 a0_row_73_6 hm
            exact absurd hm (Nat.not_lt_zero _)
          | succ n ih_73_6 =>
            intro l5_73_6 a0_row_73_6 hm_73_6 hI ls H locs hl hP hD hS
            have h := hs_73_6 l5_73_6 a0_row_73_6 hI
            refine lv_iload hx hb dX9_turned_73 (lv_at hl 0 rfl) ?_
            refine lv_sipush (v := (600 : Int32)) hx hb dX9_turned_75 (by decide) ?_
            refine lv_icmp_gt (tgt := 165) hx hb dX9_turned_78 (by decide) (fun c_8 => ?_) (fun c_8 => ?_)
            · replace h := h.1 c_8
              refine lv_aload_n hx hb dX9_turned_165 rfl (lv_at hl 3 rfl) ?_
              refine lv_dup hx hb dX9_turned_166 rfl ?_
              refine va_get (D := (dC, dI)) (ci := 8) (v := .int a0_rows) (C := RX9) (T := TX9) (N := 19) hx hb hts hin_X9 hown hK hP 1 rfl rfl 14 (by decide) hw_0 (fun _ h9 => h9) rfl dX9_turned_167 ?_
              refine lv_iconst (v := (1 : Int32)) hx hb dX9_turned_170 (by decide) ?_
              refine lv_iadd hx hb dX9_turned_171 ?_
              refine lv_topi (fun y_9 e_y_9 => ?_)
              replace h := h y_9 e_y_9
              refine va_put (D := (dC, dI)) (ci := 8) (v := .int y_9) (ty := .int) (C := RX9) (T := TX9) (N := 19) hx hb hts hin_X9 tyX9 tyX9_ok nmX9 hown hK hP hD hS 1 rfl rfl 14 (by decide) hw_0 (fun _ h9 => h9) rfl (by decide +kernel) rfl rfl (Nat.le_of_ble_eq_true rfl) dX9_turned_172 (fun H locs hP hD hS => ?_)
              have hP : va_P (dC, dI) vwCl [(q_a0_row, .inl (cJ, 9616, .inr (.inl a0_row_73_6))), (h_a0, .inr (8, [.int a0_primes, w_a0_prime, w_a0_isNone, .int a0_hasSpan, .long a0_spanFrom, .int a0_spanMany, w_a0_least, w_a0_greatest, w_a0_isSquared, .int a0_hasPart, .long a0_parted, .int a0_partMany, w_a0_partPrime, w_a0_partPower, .int y_9, .ref q_a0_row, .long a0_foundLeast, .long a0_foundGreatest, .int a0_foundSquare]))] H := hP
              have hD : va_D A [(q_a0_row, .inl (cJ, 9616, .inr (.inl a0_row_73_6))), (h_a0, .inr (8, [.int a0_primes, w_a0_prime, w_a0_isNone, .int a0_hasSpan, .long a0_spanFrom, .int a0_spanMany, w_a0_least, w_a0_greatest, w_a0_isSquared, .int a0_hasPart, .long a0_parted, .int a0_partMany, w_a0_partPrime, w_a0_partPower, .int y_9, .ref q_a0_row, .long a0_foundLeast, .long a0_foundGreatest, .int a0_foundSquare]))] := hD
              refine lv_aload_n hx hb dX9_turned_175 rfl (lv_at hl 3 rfl) ?_
              refine va_get (D := (dC, dI)) (ci := 8) (v := .int y_9) (C := RX9) (T := TX9) (N := 19) hx hb hts hin_X9 hown hK hP 1 rfl rfl 14 (by decide) hw_0 (fun _ h9 => h9) rfl dX9_turned_176 ?_
              refine lv_iconst (v := (1 : Int32)) hx hb dX9_turned_179 (by decide) ?_
              refine lv_isub hx hb dX9_turned_180 ?_
              have hP9 := hP.sub (ws' := [(h_a0, .inr (8, [.int a0_primes, w_a0_prime, w_a0_isNone, .int a0_hasSpan, .long a0_spanFrom, .int a0_spanMany, w_a0_least, w_a0_greatest, w_a0_isSquared, .int a0_hasPart, .long a0_parted, .int a0_partMany, w_a0_partPrime, w_a0_partPower, .int y_9, .ref q_a0_row, .long a0_foundLeast, .long a0_foundGreatest, .int a0_foundSquare])), (q_a0_row, .inl (cJ, 9616, .inr (.inl a0_row_73_6)))]) [1, 0] rfl
              have hD9 := hD.sub (ws' := [(h_a0, .inr (8, [.int a0_primes, w_a0_prime, w_a0_isNone, .int a0_hasSpan, .long a0_spanFrom, .int a0_spanMany, w_a0_least, w_a0_greatest, w_a0_isSquared, .int a0_hasPart, .long a0_parted, .int a0_partMany, w_a0_partPrime, w_a0_partPower, .int y_9, .ref q_a0_row, .long a0_foundLeast, .long a0_foundGreatest, .int a0_foundSquare])), (q_a0_row, .inl (cJ, 9616, .inr (.inl a0_row_73_6)))]) [1, 0] (by decide) rfl
              exact W.iret (v := (y_9 - (1 : Int32))) hx hb hr (fun t ht hW => ⟨⟨_, (y_9, a0_row_73_6), rfl, h, by rw [ht]; exact hP9, hD9⟩, hS.F ht⟩) hS.2.2 dX9_turned_181
            · replace h := h.2 c_8
              refine lv_lconst (v := (0 : Int64)) hx hb dX9_turned_81 (by decide) ?_
              refine lv_lstore (lv' := [(6, .long (0 : Int64)), (5, .int l5_73_6), (4, .int x4_5), (2, .long (0 : Int64)), (0, .ref h_a0), (1, .int p1)]) hx hb dX9_turned_82 hl (by decide) rfl (fun ls hl => ?_)
              refine lv_iconst (v := (1 : Int32)) hx hb dX9_turned_84 (by decide) ?_
              refine lv_istore (lv' := [(8, .int (1 : Int32)), (6, .long (0 : Int64)), (5, .int l5_73_6), (4, .int x4_5), (2, .long (0 : Int64)), (0, .ref h_a0), (1, .int p1)]) hx hb dX9_turned_85 hl (by decide) rfl (fun ls hl => ?_)
              obtain ⟨I_87_9, m_87_9, h0_87_9, hs_87_9⟩ := h
              have key_87_9 : ∀ (n : Nat) (l8_87_9 : Int32) (l6_87_9 : Int64), m_87_9 l8_87_9 l6_87_9 < n → I_87_9 l8_87_9 l6_87_9 → ∀ (ls : Array Slot) (H : Heap) (locs : List Loc), lv_has ls 9 [(8, .int l8_87_9), (6, .long l6_87_9), (5, .int l5_73_6), (4, .int x4_5), (2, .long (0 : Int64)), (0, .ref h_a0), (1, .int p1)] → va_P (dC, dI) vwCl [(q_a0_row, .inl (cJ, 9616, .inr (.inl a0_row_73_6))), (h_a0, .inr (8, [.int a0_primes, w_a0_prime, w_a0_isNone, .int a0_hasSpan, .long a0_spanFrom, .int a0_spanMany, w_a0_least, w_a0_greatest, w_a0_isSquared, .int a0_hasPart, .long a0_parted, .int a0_partMany, w_a0_partPrime, w_a0_partPower, .int a0_rows, .ref q_a0_row, .long a0_foundLeast, .long a0_foundGreatest, .int a0_foundSquare]))] H → va_D A [(q_a0_row, .inl (cJ, 9616, .inr (.inl a0_row_73_6))), (h_a0, .inr (8, [.int a0_primes, w_a0_prime, w_a0_isNone, .int a0_hasSpan, .long a0_spanFrom, .int a0_spanMany, w_a0_least, w_a0_greatest, w_a0_isSquared, .int a0_hasPart, .long a0_parted, .int a0_partMany, w_a0_partPrime, w_a0_partPower, .int a0_rows, .ref q_a0_row, .long a0_foundLeast, .long a0_foundGreatest, .int a0_foundSquare]))] → va_S A s.heap H locs → W p l e (headSpec wsX9_turned rm_X9_turned).room s m ([.ref h_a0, .int p1] : List Value).toArray below meth c H locs 0 0 (MQ below (qc_X9_turned dC dI cI cJ cZ h_a0 a0_primes w_a0_prime w_a0_isNone a0_hasSpan a0_spanFrom a0_spanMany w_a0_least w_a0_greatest w_a0_isSquared a0_hasPart a0_parted a0_partMany w_a0_partPrime w_a0_partPower a0_rows a0_row q_a0_row a0_foundLeast a0_foundGreatest a0_foundSquare Q A) ([.ref h_a0, .int p1] : List Value).toArray s 0 0 A) (F0 m 87 ls []) := by
                intro n
                induction n with
                | zero =>
                  intro l8_87_9 l6_87_9 hm
                  exact absurd hm (Nat.not_lt_zero _)
                | succ n ih_87_9 =>
                  intro l8_87_9 l6_87_9 hm_87_9 hI ls H locs hl hP hD hS
                  have h := hs_87_9 l8_87_9 l6_87_9 hI
                  refine lv_iload hx hb dX9_turned_87 (lv_at hl 0 rfl) ?_
                  refine lv_iload hx hb dX9_turned_89 (lv_at hl 2 rfl) ?_
                  refine lv_icmp_ge (tgt := 144) hx hb dX9_turned_91 (by decide) (fun c_11 => ?_) (fun c_11 => ?_)
                  · replace h := h.1 c_11
                    refine lv_aload_n hx hb dX9_turned_144 rfl (lv_at hl 5 rfl) ?_
                    refine va_get (D := (dC, dI)) (ci := 8) (v := .ref q_a0_row) (C := RX9) (T := TX9) (N := 19) hx hb hts hin_X9 hown hK hP 1 rfl rfl 15 (by decide) hw_2 (fun _ h9 => h9) rfl dX9_turned_145 ?_
                    refine lv_iload hx hb dX9_turned_148 (lv_at hl 3 rfl) ?_
                    refine lv_iload hx hb dX9_turned_150 (lv_at hl 2 rfl) ?_
                    refine lv_iadd hx hb dX9_turned_152 ?_
                    refine lv_lload hx hb dX9_turned_153 (lv_at hl 1 rfl) ?_
                    refine lv_lneg hx hb dX9_turned_155 ?_
                    refine lv_lload_n hx hb dX9_turned_156 rfl (lv_at hl 4 rfl) ?_
                    refine lv_lmul hx hb dX9_turned_157 ?_
                    refine lv_topl (fun y_12 e_y_12 => ?_)
                    replace h := h y_12 e_y_12
                    obtain ⟨hin_13, h⟩ := h
                    refine va_last hx hb hK hP hD hS 0 1 rfl rfl hin_13 dX9_turned_158 (fun H locs hP hD hS => ?_)
                    have hP : va_P (dC, dI) vwCl [(q_a0_row, .inl (cJ, 9616, .inr (.inl (vp_updL a0_row_73_6 (x4_5 + l5_73_6).toNatClampNeg y_12)))), (h_a0, .inr (8, [.int a0_primes, w_a0_prime, w_a0_isNone, .int a0_hasSpan, .long a0_spanFrom, .int a0_spanMany, w_a0_least, w_a0_greatest, w_a0_isSquared, .int a0_hasPart, .long a0_parted, .int a0_partMany, w_a0_partPrime, w_a0_partPower, .int a0_rows, .ref q_a0_row, .long a0_foundLeast, .long a0_foundGreatest, .int a0_foundSquare]))] H := hP
                    have hD : va_D A [(q_a0_row, .inl (cJ, 9616, .inr (.inl (vp_updL a0_row_73_6 (x4_5 + l5_73_6).toNatClampNeg y_12)))), (h_a0, .inr (8, [.int a0_primes, w_a0_prime, w_a0_isNone, .int a0_hasSpan, .long a0_spanFrom, .int a0_spanMany, w_a0_least, w_a0_greatest, w_a0_isSquared, .int a0_hasPart, .long a0_parted, .int a0_partMany, w_a0_partPrime, w_a0_partPower, .int a0_rows, .ref q_a0_row, .long a0_foundLeast, .long a0_foundGreatest, .int a0_foundSquare]))] := hD
                    obtain ⟨x5_14, e_x5_14⟩ : ∃ y : Int32, y = l5_73_6 + (1 : Int32) := ⟨_, rfl⟩
                    replace h := h x5_14 e_x5_14
                    refine lv_iinc (v := x5_14) (lv' := [(5, .int x5_14), (8, .int l8_87_9), (6, .long l6_87_9), (4, .int x4_5), (2, .long (0 : Int64)), (0, .ref h_a0), (1, .int p1)]) hx hb dX9_turned_159 hl (k := 2) rfl (by rw [e_x5_14]; rfl) (by decide) rfl (fun ls hl => ?_)
                    refine lv_goto (tgt := 73) hx hb dX9_turned_162 (by decide) ?_
                    exact ih_73_6 x5_14 (vp_updL a0_row_73_6 (x4_5 + l5_73_6).toNatClampNeg y_12) (Nat.lt_of_lt_of_le h.2 (Nat.le_of_lt_succ hm_73_6)) h.1 _ _ _ (lv_sub hl [0, 3, 4, 5, 6] rfl) (hP.sub [0, 1] rfl) (hD.sub [0, 1] (by decide) rfl) hS
                  · replace h := h.2 c_11
                    refine lv_lload hx hb dX9_turned_94 (lv_at hl 1 rfl) ?_
                    refine lv_iload hx hb dX9_turned_96 (lv_at hl 2 rfl) ?_
                    refine lv_iload hx hb dX9_turned_98 (lv_at hl 0 rfl) ?_
                    obtain ⟨hne_15, h⟩ := h
                    refine lv_irem hx hb dX9_turned_100 hne_15 ?_
                    refine lv_if_ne (tgt := 134) hx hb dX9_turned_101 (by decide) (fun c_16 => ?_) (fun c_16 => ?_)
                    · replace h := h.2 c_16
                      refine lv_lconst (v := (0 : Int64)) hx hb dX9_turned_134 (by decide) ?_
                      refine lv_ladd hx hb dX9_turned_135 ?_
                      refine lv_topl (fun x6_17 e_x6_17 => ?_)
                      replace h := h x6_17 e_x6_17
                      refine lv_lstore (lv' := [(6, .long x6_17), (8, .int l8_87_9), (5, .int l5_73_6), (4, .int x4_5), (2, .long (0 : Int64)), (0, .ref h_a0), (1, .int p1)]) hx hb dX9_turned_136 hl (by decide) rfl (fun ls hl => ?_)
                      obtain ⟨x8_18, e_x8_18⟩ : ∃ y : Int32, y = l8_87_9 + (1 : Int32) := ⟨_, rfl⟩
                      replace h := h x8_18 e_x8_18
                      refine lv_iinc (v := x8_18) (lv' := [(8, .int x8_18), (6, .long x6_17), (5, .int l5_73_6), (4, .int x4_5), (2, .long (0 : Int64)), (0, .ref h_a0), (1, .int p1)]) hx hb dX9_turned_138 hl (k := 1) rfl (by rw [e_x8_18]; rfl) (by decide) rfl (fun ls hl => ?_)
                      refine lv_goto (tgt := 87) hx hb dX9_turned_141 (by decide) ?_
                      exact ih_87_9 x8_18 x6_17 (Nat.lt_of_lt_of_le h.2 (Nat.le_of_lt_succ hm_87_9)) h.1 _ _ _ (lv_sub hl [0, 1, 2, 3, 4, 5, 6] rfl) (hP.sub [0, 1] rfl) (hD.sub [0, 1] (by decide) rfl) hS
                    · replace h := h.1 c_16
                      refine lv_aload_n hx hb dX9_turned_104 rfl (lv_at hl 5 rfl) ?_
                      refine va_get (D := (dC, dI)) (ci := 8) (v := .ref q_a0_row) (C := RX9) (T := TX9) (N := 19) hx hb hts hin_X9 hown hK hP 1 rfl rfl 15 (by decide) hw_2 (fun _ h9 => h9) rfl dX9_turned_105 ?_
                      refine lv_sipush (v := (601 : Int32)) hx hb dX9_turned_108 (by decide) ?_
                      refine lv_iload_n hx hb dX9_turned_111 rfl (lv_at hl 6 rfl) ?_
                      refine lv_imul hx hb dX9_turned_112 ?_
                      refine lv_iload hx hb dX9_turned_113 (lv_at hl 2 rfl) ?_
                      refine lv_iload hx hb dX9_turned_115 (lv_at hl 0 rfl) ?_
                      obtain ⟨hne_19, h⟩ := h
                      refine lv_idiv hx hb dX9_turned_117 hne_19 ?_
                      refine lv_iadd hx hb dX9_turned_118 ?_
                      obtain ⟨hin_20, h⟩ := h
                      refine va_lald hx hb hK hP 0 1 rfl rfl hin_20 dX9_turned_119 ?_
                      refine lv_aload_n hx hb dX9_turned_120 rfl (lv_at hl 5 rfl) ?_
                      refine va_get (D := (dC, dI)) (ci := 8) (v := .ref q_a0_row) (C := RX9) (T := TX9) (N := 19) hx hb hts hin_X9 hown hK hP 1 rfl rfl 15 (by decide) hw_2 (fun _ h9 => h9) rfl dX9_turned_121 ?_
                      refine lv_iload hx hb dX9_turned_124 (lv_at hl 3 rfl) ?_
                      refine lv_iload hx hb dX9_turned_126 (lv_at hl 0 rfl) ?_
                      refine lv_iadd hx hb dX9_turned_128 ?_
                      obtain ⟨hin_21, h⟩ := h
                      refine va_lald hx hb hK hP 0 1 rfl rfl hin_21 dX9_turned_129 ?_
                      refine lv_lmul hx hb dX9_turned_130 ?_
                      refine lv_goto (tgt := 135) hx hb dX9_turned_131 (by decide) ?_
                      refine lv_ladd hx hb dX9_turned_135 ?_
                      refine lv_topl (fun x6_22 e_x6_22 => ?_)
                      replace h := h x6_22 e_x6_22
                      refine lv_lstore (lv' := [(6, .long x6_22), (8, .int l8_87_9), (5, .int l5_73_6), (4, .int x4_5), (2, .long (0 : Int64)), (0, .ref h_a0), (1, .int p1)]) hx hb dX9_turned_136 hl (by decide) rfl (fun ls hl => ?_)
                      obtain ⟨x8_23, e_x8_23⟩ : ∃ y : Int32, y = l8_87_9 + (1 : Int32) := ⟨_, rfl⟩
                      replace h := h x8_23 e_x8_23
                      refine lv_iinc (v := x8_23) (lv' := [(8, .int x8_23), (6, .long x6_22), (5, .int l5_73_6), (4, .int x4_5), (2, .long (0 : Int64)), (0, .ref h_a0), (1, .int p1)]) hx hb dX9_turned_138 hl (k := 1) rfl (by rw [e_x8_23]; rfl) (by decide) rfl (fun ls hl => ?_)
                      refine lv_goto (tgt := 87) hx hb dX9_turned_141 (by decide) ?_
                      exact ih_87_9 x8_23 x6_22 (Nat.lt_of_lt_of_le h.2 (Nat.le_of_lt_succ hm_87_9)) h.1 _ _ _ (lv_sub hl [0, 1, 2, 3, 4, 5, 6] rfl) (hP.sub [0, 1] rfl) (hD.sub [0, 1] (by decide) rfl) hS
              exact key_87_9 _ (1 : Int32) (0 : Int64) (Nat.lt_succ_self _) h0_87_9 _ _ _ (lv_sub hl [0, 1, 2, 3, 4, 5, 6] rfl) (hP.sub [0, 1] rfl) (hD.sub [0, 1] (by decide) rfl) hS
        exact key_73_6 _ (2 : Int32) (vp_updL a0_row (x4_5 + (1 : Int32)).toNatClampNeg (0 : Int64)) (Nat.lt_succ_self _) h0_73_6 _ _ _ (lv_sub hl [0, 1, 2, 3, 4] rfl) (hP.sub [0, 1] rfl) (hD.sub [0, 1] (by decide) rfl) hS
      · replace h := h.1 c_4
        refine lv_iconst (v := (-1 : Int32)) hx hb dX9_turned_48 (by decide) ?_
        have hP9 := hP.sub (ws' := [(h_a0, .inr (8, [.int a0_primes, w_a0_prime, w_a0_isNone, .int a0_hasSpan, .long a0_spanFrom, .int a0_spanMany, w_a0_least, w_a0_greatest, w_a0_isSquared, .int a0_hasPart, .long a0_parted, .int a0_partMany, w_a0_partPrime, w_a0_partPower, .int a0_rows, .ref q_a0_row, .long a0_foundLeast, .long a0_foundGreatest, .int a0_foundSquare])), (q_a0_row, .inl (cJ, 9616, .inr (.inl a0_row)))]) [1, 0] rfl
        have hD9 := hD.sub (ws' := [(h_a0, .inr (8, [.int a0_primes, w_a0_prime, w_a0_isNone, .int a0_hasSpan, .long a0_spanFrom, .int a0_spanMany, w_a0_least, w_a0_greatest, w_a0_isSquared, .int a0_hasPart, .long a0_parted, .int a0_partMany, w_a0_partPrime, w_a0_partPower, .int a0_rows, .ref q_a0_row, .long a0_foundLeast, .long a0_foundGreatest, .int a0_foundSquare])), (q_a0_row, .inl (cJ, 9616, .inr (.inl a0_row)))]) [1, 0] (by decide) rfl
        exact W.iret (v := (-1 : Int32)) hx hb hr (fun t ht hW => ⟨⟨_, (a0_rows, a0_row), rfl, h, by rw [ht]; exact hP9, hD9⟩, hS.F ht⟩) hS.2.2 dX9_turned_49
    · replace c_3 := lc_neq c_3
      replace h := h.2 c_3
      refine lv_lload_n hx hb dX9_turned_31 rfl (lv_at hl 0 rfl) ?_
      refine lv_ldc2 hx hb hown hw_3 dX9_turned_32 ?_
      refine W.lcmp hx hb dX9_turned_35 ?_
      refine lv_if_ne (tgt := 48) hx hb dX9_turned_36 (by decide) (fun c_24 => ?_) (fun c_24 => ?_)
      · replace c_24 := lc_neq c_24
        replace h := h.2 c_24
        refine lv_iconst (v := (-1 : Int32)) hx hb dX9_turned_48 (by decide) ?_
        have hP9 := hP.sub (ws' := [(h_a0, .inr (8, [.int a0_primes, w_a0_prime, w_a0_isNone, .int a0_hasSpan, .long a0_spanFrom, .int a0_spanMany, w_a0_least, w_a0_greatest, w_a0_isSquared, .int a0_hasPart, .long a0_parted, .int a0_partMany, w_a0_partPrime, w_a0_partPower, .int a0_rows, .ref q_a0_row, .long a0_foundLeast, .long a0_foundGreatest, .int a0_foundSquare])), (q_a0_row, .inl (cJ, 9616, .inr (.inl a0_row)))]) [1, 0] rfl
        have hD9 := hD.sub (ws' := [(h_a0, .inr (8, [.int a0_primes, w_a0_prime, w_a0_isNone, .int a0_hasSpan, .long a0_spanFrom, .int a0_spanMany, w_a0_least, w_a0_greatest, w_a0_isSquared, .int a0_hasPart, .long a0_parted, .int a0_partMany, w_a0_partPrime, w_a0_partPower, .int a0_rows, .ref q_a0_row, .long a0_foundLeast, .long a0_foundGreatest, .int a0_foundSquare])), (q_a0_row, .inl (cJ, 9616, .inr (.inl a0_row)))]) [1, 0] (by decide) rfl
        exact W.iret (v := (-1 : Int32)) hx hb hr (fun t ht hW => ⟨⟨_, (a0_rows, a0_row), rfl, h, by rw [ht]; exact hP9, hD9⟩, hS.F ht⟩) hS.2.2 dX9_turned_49
      · replace c_24 := (lg_cmp_eq _ _).mp c_24
        replace h := h.1 c_24
        refine lv_aload_n hx hb dX9_turned_39 rfl (lv_at hl 1 rfl) ?_
        refine va_get (D := (dC, dI)) (ci := 8) (v := .int a0_rows) (C := RX9) (T := TX9) (N := 19) hx hb hts hin_X9 hown hK hP 1 rfl rfl 14 (by decide) hw_0 (fun _ h9 => h9) rfl dX9_turned_40 ?_
        refine lv_bipush (v := (16 : Int32)) hx hb dX9_turned_43 (by decide) ?_
        refine lv_icmp_ne (tgt := 50) hx hb dX9_turned_45 (by decide) (fun c_25 => ?_) (fun c_25 => ?_)
        · replace h := h.2 c_25
          refine lv_sipush (v := (601 : Int32)) hx hb dX9_turned_50 (by decide) ?_
          refine lv_aload_n hx hb dX9_turned_53 rfl (lv_at hl 1 rfl) ?_
          refine va_get (D := (dC, dI)) (ci := 8) (v := .int a0_rows) (C := RX9) (T := TX9) (N := 19) hx hb hts hin_X9 hown hK hP 1 rfl rfl 14 (by decide) hw_0 (fun _ h9 => h9) rfl dX9_turned_54 ?_
          refine lv_imul hx hb dX9_turned_57 ?_
          refine lv_topi (fun x4_26 e_x4_26 => ?_)
          replace h := h x4_26 e_x4_26
          refine lv_istore (lv' := [(4, .int x4_26), (2, .long (0 : Int64)), (0, .ref h_a0), (1, .int p1)]) hx hb dX9_turned_58 hl (by decide) rfl (fun ls hl => ?_)
          refine lv_aload_n hx hb dX9_turned_60 rfl (lv_at hl 2 rfl) ?_
          refine va_get (D := (dC, dI)) (ci := 8) (v := .ref q_a0_row) (C := RX9) (T := TX9) (N := 19) hx hb hts hin_X9 hown hK hP 1 rfl rfl 15 (by decide) hw_2 (fun _ h9 => h9) rfl dX9_turned_61 ?_
          refine lv_iload hx hb dX9_turned_64 (lv_at hl 0 rfl) ?_
          refine lv_iconst (v := (1 : Int32)) hx hb dX9_turned_66 (by decide) ?_
          refine lv_iadd hx hb dX9_turned_67 ?_
          refine lv_lload_n hx hb dX9_turned_68 rfl (lv_at hl 1 rfl) ?_
          obtain ⟨hin_27, h⟩ := h
          refine va_last hx hb hK hP hD hS 0 1 rfl rfl hin_27 dX9_turned_69 (fun H locs hP hD hS => ?_)
          have hP : va_P (dC, dI) vwCl [(q_a0_row, .inl (cJ, 9616, .inr (.inl (vp_updL a0_row (x4_26 + (1 : Int32)).toNatClampNeg (0 : Int64))))), (h_a0, .inr (8, [.int a0_primes, w_a0_prime, w_a0_isNone, .int a0_hasSpan, .long a0_spanFrom, .int a0_spanMany, w_a0_least, w_a0_greatest, w_a0_isSquared, .int a0_hasPart, .long a0_parted, .int a0_partMany, w_a0_partPrime, w_a0_partPower, .int a0_rows, .ref q_a0_row, .long a0_foundLeast, .long a0_foundGreatest, .int a0_foundSquare]))] H := hP
          have hD : va_D A [(q_a0_row, .inl (cJ, 9616, .inr (.inl (vp_updL a0_row (x4_26 + (1 : Int32)).toNatClampNeg (0 : Int64))))), (h_a0, .inr (8, [.int a0_primes, w_a0_prime, w_a0_isNone, .int a0_hasSpan, .long a0_spanFrom, .int a0_spanMany, w_a0_least, w_a0_greatest, w_a0_isSquared, .int a0_hasPart, .long a0_parted, .int a0_partMany, w_a0_partPrime, w_a0_partPower, .int a0_rows, .ref q_a0_row, .long a0_foundLeast, .long a0_foundGreatest, .int a0_foundSquare]))] := hD
          refine lv_iconst (v := (2 : Int32)) hx hb dX9_turned_70 (by decide) ?_
          refine lv_istore (lv' := [(5, .int (2 : Int32)), (4, .int x4_26), (2, .long (0 : Int64)), (0, .ref h_a0), (1, .int p1)]) hx hb dX9_turned_71 hl (by decide) rfl (fun ls hl => ?_)
          obtain ⟨I_73_27, m_73_27, h0_73_27, hs_73_27⟩ := h
          have key_73_27 : ∀ (n : Nat) (l5_73_27 : Int32) (a0_row_73_27 : Nat → Int64), m_73_27 l5_73_27 a0_row_73_27 < n → I_73_27 l5_73_27 a0_row_73_27 → ∀ (ls : Array Slot) (H : Heap) (locs : List Loc), lv_has ls 9 [(5, .int l5_73_27), (4, .int x4_26), (2, .long (0 : Int64)), (0, .ref h_a0), (1, .int p1)] → va_P (dC, dI) vwCl [(q_a0_row, .inl (cJ, 9616, .inr (.inl a0_row_73_27))), (h_a0, .inr (8, [.int a0_primes, w_a0_prime, w_a0_isNone, .int a0_hasSpan, .long a0_spanFrom, .int a0_spanMany, w_a0_least, w_a0_greatest, w_a0_isSquared, .int a0_hasPart, .long a0_parted, .int a0_partMany, w_a0_partPrime, w_a0_partPower, .int a0_rows, .ref q_a0_row, .long a0_foundLeast, .long a0_foundGreatest, .int a0_foundSquare]))] H → va_D A [(q_a0_row, .inl (cJ, 9616, .inr (.inl a0_row_73_27))), (h_a0, .inr (8, [.int a0_primes, w_a0_prime, w_a0_isNone, .int a0_hasSpan, .long a0_spanFrom, .int a0_spanMany, w_a0_least, w_a0_greatest, w_a0_isSquared, .int a0_hasPart, .long a0_parted, .int a0_partMany, w_a0_partPrime, w_a0_partPower, .int a0_rows, .ref q_a0_row, .long a0_foundLeast, .long a0_foundGreatest, .int a0_foundSquare]))] → va_S A s.heap H locs → W p l e (headSpec wsX9_turned rm_X9_turned).room s m ([.ref h_a0, .int p1] : List Value).toArray below meth c H locs 0 0 (MQ below (qc_X9_turned dC dI cI cJ cZ h_a0 a0_primes w_a0_prime w_a0_isNone a0_hasSpan a0_spanFrom a0_spanMany w_a0_least w_a0_greatest w_a0_isSquared a0_hasPart a0_parted a0_partMany w_a0_partPrime w_a0_partPower a0_rows a0_row q_a0_row a0_foundLeast a0_foundGreatest a0_foundSquare Q A) ([.ref h_a0, .int p1] : List Value).toArray s 0 0 A) (F0 m 73 ls []) := by
            intro n
            induction n with
            | zero =>
              intro l5_73_27 a0_row_73_27 hm
              exact absurd hm (Nat.not_lt_zero _)
            | succ n ih_73_27 =>
              intro l5_73_27 a0_row_73_27 hm_73_27 hI ls H locs hl hP hD hS
              have h := hs_73_27 l5_73_27 a0_row_73_27 hI
              refine lv_iload hx hb dX9_turned_73 (lv_at hl 0 rfl) ?_
              refine lv_sipush (v := (600 : Int32)) hx hb dX9_turned_75 (by decide) ?_
              refine lv_icmp_gt (tgt := 165) hx hb dX9_turned_78 (by decide) (fun c_29 => ?_) (fun c_29 => ?_)
              · replace h := h.1 c_29
                refine lv_aload_n hx hb dX9_turned_165 rfl (lv_at hl 3 rfl) ?_
                refine lv_dup hx hb dX9_turned_166 rfl ?_
                refine va_get (D := (dC, dI)) (ci := 8) (v := .int a0_rows) (C := RX9) (T := TX9) (N := 19) hx hb hts hin_X9 hown hK hP 1 rfl rfl 14 (by decide) hw_0 (fun _ h9 => h9) rfl dX9_turned_167 ?_
                refine lv_iconst (v := (1 : Int32)) hx hb dX9_turned_170 (by decide) ?_
                refine lv_iadd hx hb dX9_turned_171 ?_
                refine lv_topi (fun y_30 e_y_30 => ?_)
                replace h := h y_30 e_y_30
                refine va_put (D := (dC, dI)) (ci := 8) (v := .int y_30) (ty := .int) (C := RX9) (T := TX9) (N := 19) hx hb hts hin_X9 tyX9 tyX9_ok nmX9 hown hK hP hD hS 1 rfl rfl 14 (by decide) hw_0 (fun _ h9 => h9) rfl (by decide +kernel) rfl rfl (Nat.le_of_ble_eq_true rfl) dX9_turned_172 (fun H locs hP hD hS => ?_)
                have hP : va_P (dC, dI) vwCl [(q_a0_row, .inl (cJ, 9616, .inr (.inl a0_row_73_27))), (h_a0, .inr (8, [.int a0_primes, w_a0_prime, w_a0_isNone, .int a0_hasSpan, .long a0_spanFrom, .int a0_spanMany, w_a0_least, w_a0_greatest, w_a0_isSquared, .int a0_hasPart, .long a0_parted, .int a0_partMany, w_a0_partPrime, w_a0_partPower, .int y_30, .ref q_a0_row, .long a0_foundLeast, .long a0_foundGreatest, .int a0_foundSquare]))] H := hP
                have hD : va_D A [(q_a0_row, .inl (cJ, 9616, .inr (.inl a0_row_73_27))), (h_a0, .inr (8, [.int a0_primes, w_a0_prime, w_a0_isNone, .int a0_hasSpan, .long a0_spanFrom, .int a0_spanMany, w_a0_least, w_a0_greatest, w_a0_isSquared, .int a0_hasPart, .long a0_parted, .int a0_partMany, w_a0_partPrime, w_a0_partPower, .int y_30, .ref q_a0_row, .long a0_foundLeast, .long a0_foundGreatest, .int a0_foundSquare]))] := hD
                refine lv_aload_n hx hb dX9_turned_175 rfl (lv_at hl 3 rfl) ?_
                refine va_get (D := (dC, dI)) (ci := 8) (v := .int y_30) (C := RX9) (T := TX9) (N := 19) hx hb hts hin_X9 hown hK hP 1 rfl rfl 14 (by decide) hw_0 (fun _ h9 => h9) rfl dX9_turned_176 ?_
                refine lv_iconst (v := (1 : Int32)) hx hb dX9_turned_179 (by decide) ?_
                refine lv_isub hx hb dX9_turned_180 ?_
                have hP9 := hP.sub (ws' := [(h_a0, .inr (8, [.int a0_primes, w_a0_prime, w_a0_isNone, .int a0_hasSpan, .long a0_spanFrom, .int a0_spanMany, w_a0_least, w_a0_greatest, w_a0_isSquared, .int a0_hasPart, .long a0_parted, .int a0_partMany, w_a0_partPrime, w_a0_partPower, .int y_30, .ref q_a0_row, .long a0_foundLeast, .long a0_foundGreatest, .int a0_foundSquare])), (q_a0_row, .inl (cJ, 9616, .inr (.inl a0_row_73_27)))]) [1, 0] rfl
                have hD9 := hD.sub (ws' := [(h_a0, .inr (8, [.int a0_primes, w_a0_prime, w_a0_isNone, .int a0_hasSpan, .long a0_spanFrom, .int a0_spanMany, w_a0_least, w_a0_greatest, w_a0_isSquared, .int a0_hasPart, .long a0_parted, .int a0_partMany, w_a0_partPrime, w_a0_partPower, .int y_30, .ref q_a0_row, .long a0_foundLeast, .long a0_foundGreatest, .int a0_foundSquare])), (q_a0_row, .inl (cJ, 9616, .inr (.inl a0_row_73_27)))]) [1, 0] (by decide) rfl
                exact W.iret (v := (y_30 - (1 : Int32))) hx hb hr (fun t ht hW => ⟨⟨_, (y_30, a0_row_73_27), rfl, h, by rw [ht]; exact hP9, hD9⟩, hS.F ht⟩) hS.2.2 dX9_turned_181
              · replace h := h.2 c_29
                refine lv_lconst (v := (0 : Int64)) hx hb dX9_turned_81 (by decide) ?_
                refine lv_lstore (lv' := [(6, .long (0 : Int64)), (5, .int l5_73_27), (4, .int x4_26), (2, .long (0 : Int64)), (0, .ref h_a0), (1, .int p1)]) hx hb dX9_turned_82 hl (by decide) rfl (fun ls hl => ?_)
                refine lv_iconst (v := (1 : Int32)) hx hb dX9_turned_84 (by decide) ?_
                refine lv_istore (lv' := [(8, .int (1 : Int32)), (6, .long (0 : Int64)), (5, .int l5_73_27), (4, .int x4_26), (2, .long (0 : Int64)), (0, .ref h_a0), (1, .int p1)]) hx hb dX9_turned_85 hl (by decide) rfl (fun ls hl => ?_)
                obtain ⟨I_87_30, m_87_30, h0_87_30, hs_87_30⟩ := h
                have key_87_30 : ∀ (n : Nat) (l8_87_30 : Int32) (l6_87_30 : Int64), m_87_30 l8_87_30 l6_87_30 < n → I_87_30 l8_87_30 l6_87_30 → ∀ (ls : Array Slot) (H : Heap) (locs : List Loc), lv_has ls 9 [(8, .int l8_87_30), (6, .long l6_87_30), (5, .int l5_73_27), (4, .int x4_26), (2, .long (0 : Int64)), (0, .ref h_a0), (1, .int p1)] → va_P (dC, dI) vwCl [(q_a0_row, .inl (cJ, 9616, .inr (.inl a0_row_73_27))), (h_a0, .inr (8, [.int a0_primes, w_a0_prime, w_a0_isNone, .int a0_hasSpan, .long a0_spanFrom, .int a0_spanMany, w_a0_least, w_a0_greatest, w_a0_isSquared, .int a0_hasPart, .long a0_parted, .int a0_partMany, w_a0_partPrime, w_a0_partPower, .int a0_rows, .ref q_a0_row, .long a0_foundLeast, .long a0_foundGreatest, .int a0_foundSquare]))] H → va_D A [(q_a0_row, .inl (cJ, 9616, .inr (.inl a0_row_73_27))), (h_a0, .inr (8, [.int a0_primes, w_a0_prime, w_a0_isNone, .int a0_hasSpan, .long a0_spanFrom, .int a0_spanMany, w_a0_least, w_a0_greatest, w_a0_isSquared, .int a0_hasPart, .long a0_parted, .int a0_partMany, w_a0_partPrime, w_a0_partPower, .int a0_rows, .ref q_a0_row, .long a0_foundLeast, .long a0_foundGreatest, .int a0_foundSquare]))] → va_S A s.heap H locs → W p l e (headSpec wsX9_turned rm_X9_turned).room s m ([.ref h_a0, .int p1] : List Value).toArray below meth c H locs 0 0 (MQ below (qc_X9_turned dC dI cI cJ cZ h_a0 a0_primes w_a0_prime w_a0_isNone a0_hasSpan a0_spanFrom a0_spanMany w_a0_least w_a0_greatest w_a0_isSquared a0_hasPart a0_parted a0_partMany w_a0_partPrime w_a0_partPower a0_rows a0_row q_a0_row a0_foundLeast a0_foundGreatest a0_foundSquare Q A) ([.ref h_a0, .int p1] : List Value).toArray s 0 0 A) (F0 m 87 ls []) := by
                  intro n
                  induction n with
                  | zero =>
                    intro l8_87_30 l6_87_30 hm
                    exact absurd hm (Nat.not_lt_zero _)
                  | succ n ih_87_30 =>
                    intro l8_87_30 l6_87_30 hm_87_30 hI ls H locs hl hP hD hS
                    have h := hs_87_30 l8_87_30 l6_87_30 hI
                    refine lv_iload hx hb dX9_turned_87 (lv_at hl 0 rfl) ?_
                    refine lv_iload hx hb dX9_turned_89 (lv_at hl 2 rfl) ?_
                    refine lv_icmp_ge (tgt := 144) hx hb dX9_turned_91 (by decide) (fun c_32 => ?_) (fun c_32 => ?_)
                    · replace h := h.1 c_32
                      refine lv_aload_n hx hb dX9_turned_144 rfl (lv_at hl 5 rfl) ?_
                      refine va_get (D := (dC, dI)) (ci := 8) (v := .ref q_a0_row) (C := RX9) (T := TX9) (N := 19) hx hb hts hin_X9 hown hK hP 1 rfl rfl 15 (by decide) hw_2 (fun _ h9 => h9) rfl dX9_turned_145 ?_
                      refine lv_iload hx hb dX9_turned_148 (lv_at hl 3 rfl) ?_
                      refine lv_iload hx hb dX9_turned_150 (lv_at hl 2 rfl) ?_
                      refine lv_iadd hx hb dX9_turned_152 ?_
                      refine lv_lload hx hb dX9_turned_153 (lv_at hl 1 rfl) ?_
                      refine lv_lneg hx hb dX9_turned_155 ?_
                      refine lv_lload_n hx hb dX9_turned_156 rfl (lv_at hl 4 rfl) ?_
                      refine lv_lmul hx hb dX9_turned_157 ?_
                      refine lv_topl (fun y_33 e_y_33 => ?_)
                      replace h := h y_33 e_y_33
                      obtain ⟨hin_34, h⟩ := h
                      refine va_last hx hb hK hP hD hS 0 1 rfl rfl hin_34 dX9_turned_158 (fun H locs hP hD hS => ?_)
                      have hP : va_P (dC, dI) vwCl [(q_a0_row, .inl (cJ, 9616, .inr (.inl (vp_updL a0_row_73_27 (x4_26 + l5_73_27).toNatClampNeg y_33)))), (h_a0, .inr (8, [.int a0_primes, w_a0_prime, w_a0_isNone, .int a0_hasSpan, .long a0_spanFrom, .int a0_spanMany, w_a0_least, w_a0_greatest, w_a0_isSquared, .int a0_hasPart, .long a0_parted, .int a0_partMany, w_a0_partPrime, w_a0_partPower, .int a0_rows, .ref q_a0_row, .long a0_foundLeast, .long a0_foundGreatest, .int a0_foundSquare]))] H := hP
                      have hD : va_D A [(q_a0_row, .inl (cJ, 9616, .inr (.inl (vp_updL a0_row_73_27 (x4_26 + l5_73_27).toNatClampNeg y_33)))), (h_a0, .inr (8, [.int a0_primes, w_a0_prime, w_a0_isNone, .int a0_hasSpan, .long a0_spanFrom, .int a0_spanMany, w_a0_least, w_a0_greatest, w_a0_isSquared, .int a0_hasPart, .long a0_parted, .int a0_partMany, w_a0_partPrime, w_a0_partPower, .int a0_rows, .ref q_a0_row, .long a0_foundLeast, .long a0_foundGreatest, .int a0_foundSquare]))] := hD
                      obtain ⟨x5_35, e_x5_35⟩ : ∃ y : Int32, y = l5_73_27 + (1 : Int32) := ⟨_, rfl⟩
                      replace h := h x5_35 e_x5_35
                      refine lv_iinc (v := x5_35) (lv' := [(5, .int x5_35), (8, .int l8_87_30), (6, .long l6_87_30), (4, .int x4_26), (2, .long (0 : Int64)), (0, .ref h_a0), (1, .int p1)]) hx hb dX9_turned_159 hl (k := 2) rfl (by rw [e_x5_35]; rfl) (by decide) rfl (fun ls hl => ?_)
                      refine lv_goto (tgt := 73) hx hb dX9_turned_162 (by decide) ?_
                      exact ih_73_27 x5_35 (vp_updL a0_row_73_27 (x4_26 + l5_73_27).toNatClampNeg y_33) (Nat.lt_of_lt_of_le h.2 (Nat.le_of_lt_succ hm_73_27)) h.1 _ _ _ (lv_sub hl [0, 3, 4, 5, 6] rfl) (hP.sub [0, 1] rfl) (hD.sub [0, 1] (by decide) rfl) hS
                    · replace h := h.2 c_32
                      refine lv_lload hx hb dX9_turned_94 (lv_at hl 1 rfl) ?_
                      refine lv_iload hx hb dX9_turned_96 (lv_at hl 2 rfl) ?_
                      refine lv_iload hx hb dX9_turned_98 (lv_at hl 0 rfl) ?_
                      obtain ⟨hne_36, h⟩ := h
                      refine lv_irem hx hb dX9_turned_100 hne_36 ?_
                      refine lv_if_ne (tgt := 134) hx hb dX9_turned_101 (by decide) (fun c_37 => ?_) (fun c_37 => ?_)
                      · replace h := h.2 c_37
                        refine lv_lconst (v := (0 : Int64)) hx hb dX9_turned_134 (by decide) ?_
                        refine lv_ladd hx hb dX9_turned_135 ?_
                        refine lv_topl (fun x6_38 e_x6_38 => ?_)
                        replace h := h x6_38 e_x6_38
                        refine lv_lstore (lv' := [(6, .long x6_38), (8, .int l8_87_30), (5, .int l5_73_27), (4, .int x4_26), (2, .long (0 : Int64)), (0, .ref h_a0), (1, .int p1)]) hx hb dX9_turned_136 hl (by decide) rfl (fun ls hl => ?_)
                        obtain ⟨x8_39, e_x8_39⟩ : ∃ y : Int32, y = l8_87_30 + (1 : Int32) := ⟨_, rfl⟩
                        replace h := h x8_39 e_x8_39
                        refine lv_iinc (v := x8_39) (lv' := [(8, .int x8_39), (6, .long x6_38), (5, .int l5_73_27), (4, .int x4_26), (2, .long (0 : Int64)), (0, .ref h_a0), (1, .int p1)]) hx hb dX9_turned_138 hl (k := 1) rfl (by rw [e_x8_39]; rfl) (by decide) rfl (fun ls hl => ?_)
                        refine lv_goto (tgt := 87) hx hb dX9_turned_141 (by decide) ?_
                        exact ih_87_30 x8_39 x6_38 (Nat.lt_of_lt_of_le h.2 (Nat.le_of_lt_succ hm_87_30)) h.1 _ _ _ (lv_sub hl [0, 1, 2, 3, 4, 5, 6] rfl) (hP.sub [0, 1] rfl) (hD.sub [0, 1] (by decide) rfl) hS
                      · replace h := h.1 c_37
                        refine lv_aload_n hx hb dX9_turned_104 rfl (lv_at hl 5 rfl) ?_
                        refine va_get (D := (dC, dI)) (ci := 8) (v := .ref q_a0_row) (C := RX9) (T := TX9) (N := 19) hx hb hts hin_X9 hown hK hP 1 rfl rfl 15 (by decide) hw_2 (fun _ h9 => h9) rfl dX9_turned_105 ?_
                        refine lv_sipush (v := (601 : Int32)) hx hb dX9_turned_108 (by decide) ?_
                        refine lv_iload_n hx hb dX9_turned_111 rfl (lv_at hl 6 rfl) ?_
                        refine lv_imul hx hb dX9_turned_112 ?_
                        refine lv_iload hx hb dX9_turned_113 (lv_at hl 2 rfl) ?_
                        refine lv_iload hx hb dX9_turned_115 (lv_at hl 0 rfl) ?_
                        obtain ⟨hne_40, h⟩ := h
                        refine lv_idiv hx hb dX9_turned_117 hne_40 ?_
                        refine lv_iadd hx hb dX9_turned_118 ?_
                        obtain ⟨hin_41, h⟩ := h
                        refine va_lald hx hb hK hP 0 1 rfl rfl hin_41 dX9_turned_119 ?_
                        refine lv_aload_n hx hb dX9_turned_120 rfl (lv_at hl 5 rfl) ?_
                        refine va_get (D := (dC, dI)) (ci := 8) (v := .ref q_a0_row) (C := RX9) (T := TX9) (N := 19) hx hb hts hin_X9 hown hK hP 1 rfl rfl 15 (by decide) hw_2 (fun _ h9 => h9) rfl dX9_turned_121 ?_
                        refine lv_iload hx hb dX9_turned_124 (lv_at hl 3 rfl) ?_
                        refine lv_iload hx hb dX9_turned_126 (lv_at hl 0 rfl) ?_
                        refine lv_iadd hx hb dX9_turned_128 ?_
                        obtain ⟨hin_42, h⟩ := h
                        refine va_lald hx hb hK hP 0 1 rfl rfl hin_42 dX9_turned_129 ?_
                        refine lv_lmul hx hb dX9_turned_130 ?_
                        refine lv_goto (tgt := 135) hx hb dX9_turned_131 (by decide) ?_
                        refine lv_ladd hx hb dX9_turned_135 ?_
                        refine lv_topl (fun x6_43 e_x6_43 => ?_)
                        replace h := h x6_43 e_x6_43
                        refine lv_lstore (lv' := [(6, .long x6_43), (8, .int l8_87_30), (5, .int l5_73_27), (4, .int x4_26), (2, .long (0 : Int64)), (0, .ref h_a0), (1, .int p1)]) hx hb dX9_turned_136 hl (by decide) rfl (fun ls hl => ?_)
                        obtain ⟨x8_44, e_x8_44⟩ : ∃ y : Int32, y = l8_87_30 + (1 : Int32) := ⟨_, rfl⟩
                        replace h := h x8_44 e_x8_44
                        refine lv_iinc (v := x8_44) (lv' := [(8, .int x8_44), (6, .long x6_43), (5, .int l5_73_27), (4, .int x4_26), (2, .long (0 : Int64)), (0, .ref h_a0), (1, .int p1)]) hx hb dX9_turned_138 hl (k := 1) rfl (by rw [e_x8_44]; rfl) (by decide) rfl (fun ls hl => ?_)
                        refine lv_goto (tgt := 87) hx hb dX9_turned_141 (by decide) ?_
                        exact ih_87_30 x8_44 x6_43 (Nat.lt_of_lt_of_le h.2 (Nat.le_of_lt_succ hm_87_30)) h.1 _ _ _ (lv_sub hl [0, 1, 2, 3, 4, 5, 6] rfl) (hP.sub [0, 1] rfl) (hD.sub [0, 1] (by decide) rfl) hS
                exact key_87_30 _ (1 : Int32) (0 : Int64) (Nat.lt_succ_self _) h0_87_30 _ _ _ (lv_sub hl [0, 1, 2, 3, 4, 5, 6] rfl) (hP.sub [0, 1] rfl) (hD.sub [0, 1] (by decide) rfl) hS
          exact key_73_27 _ (2 : Int32) (vp_updL a0_row (x4_26 + (1 : Int32)).toNatClampNeg (0 : Int64)) (Nat.lt_succ_self _) h0_73_27 _ _ _ (lv_sub hl [0, 1, 2, 3, 4] rfl) (hP.sub [0, 1] rfl) (hD.sub [0, 1] (by decide) rfl) hS
        · replace h := h.1 c_25
          refine lv_iconst (v := (-1 : Int32)) hx hb dX9_turned_48 (by decide) ?_
          have hP9 := hP.sub (ws' := [(h_a0, .inr (8, [.int a0_primes, w_a0_prime, w_a0_isNone, .int a0_hasSpan, .long a0_spanFrom, .int a0_spanMany, w_a0_least, w_a0_greatest, w_a0_isSquared, .int a0_hasPart, .long a0_parted, .int a0_partMany, w_a0_partPrime, w_a0_partPower, .int a0_rows, .ref q_a0_row, .long a0_foundLeast, .long a0_foundGreatest, .int a0_foundSquare])), (q_a0_row, .inl (cJ, 9616, .inr (.inl a0_row)))]) [1, 0] rfl
          have hD9 := hD.sub (ws' := [(h_a0, .inr (8, [.int a0_primes, w_a0_prime, w_a0_isNone, .int a0_hasSpan, .long a0_spanFrom, .int a0_spanMany, w_a0_least, w_a0_greatest, w_a0_isSquared, .int a0_hasPart, .long a0_parted, .int a0_partMany, w_a0_partPrime, w_a0_partPower, .int a0_rows, .ref q_a0_row, .long a0_foundLeast, .long a0_foundGreatest, .int a0_foundSquare])), (q_a0_row, .inl (cJ, 9616, .inr (.inl a0_row)))]) [1, 0] (by decide) rfl
          exact W.iret (v := (-1 : Int32)) hx hb hr (fun t ht hW => ⟨⟨_, (a0_rows, a0_row), rfl, h, by rw [ht]; exact hP9, hD9⟩, hS.F ht⟩) hS.2.2 dX9_turned_49
  · replace h := h.2 c_2
    refine lv_aload_n hx hb dX9_turned_8 rfl (lv_at hl 0 rfl) ?_
    refine va_get (D := (dC, dI)) (ci := 8) (v := .ref q_a0_row) (C := RX9) (T := TX9) (N := 19) hx hb hts hin_X9 hown hK hP 1 rfl rfl 15 (by decide) hw_2 (fun _ h9 => h9) rfl dX9_turned_9 ?_
    refine lv_sipush (v := (601 : Int32)) hx hb dX9_turned_12 (by decide) ?_
    refine lv_iload_n hx hb dX9_turned_15 rfl (lv_at hl 1 rfl) ?_
    refine lv_imul hx hb dX9_turned_16 ?_
    refine lv_iconst (v := (1 : Int32)) hx hb dX9_turned_17 (by decide) ?_
    refine lv_iadd hx hb dX9_turned_18 ?_
    obtain ⟨hin_45, h⟩ := h
    refine va_lald hx hb hK hP 0 1 rfl rfl hin_45 dX9_turned_19 ?_
    refine lv_goto (tgt := 24) hx hb dX9_turned_20 (by decide) ?_
    refine lv_topl (fun x2_46 e_x2_46 => ?_)
    replace h := h x2_46 e_x2_46
    refine lv_lstore_n (lv' := [(2, .long x2_46), (0, .ref h_a0), (1, .int p1)]) hx hb dX9_turned_24 rfl hl (by decide) rfl (fun ls hl => ?_)
    refine lv_lload_n hx hb dX9_turned_25 rfl (lv_at hl 0 rfl) ?_
    refine lv_lconst (v := (1 : Int64)) hx hb dX9_turned_26 (by decide) ?_
    refine W.lcmp hx hb dX9_turned_27 ?_
    refine lv_if_eq (tgt := 39) hx hb dX9_turned_28 (by decide) (fun c_47 => ?_) (fun c_47 => ?_)
    · replace c_47 := (lg_cmp_eq _ _).mp c_47
      replace h := h.1 c_47
      refine lv_aload_n hx hb dX9_turned_39 rfl (lv_at hl 1 rfl) ?_
      refine va_get (D := (dC, dI)) (ci := 8) (v := .int a0_rows) (C := RX9) (T := TX9) (N := 19) hx hb hts hin_X9 hown hK hP 1 rfl rfl 14 (by decide) hw_0 (fun _ h9 => h9) rfl dX9_turned_40 ?_
      refine lv_bipush (v := (16 : Int32)) hx hb dX9_turned_43 (by decide) ?_
      refine lv_icmp_ne (tgt := 50) hx hb dX9_turned_45 (by decide) (fun c_48 => ?_) (fun c_48 => ?_)
      · replace h := h.2 c_48
        refine lv_sipush (v := (601 : Int32)) hx hb dX9_turned_50 (by decide) ?_
        refine lv_aload_n hx hb dX9_turned_53 rfl (lv_at hl 1 rfl) ?_
        refine va_get (D := (dC, dI)) (ci := 8) (v := .int a0_rows) (C := RX9) (T := TX9) (N := 19) hx hb hts hin_X9 hown hK hP 1 rfl rfl 14 (by decide) hw_0 (fun _ h9 => h9) rfl dX9_turned_54 ?_
        refine lv_imul hx hb dX9_turned_57 ?_
        refine lv_topi (fun x4_49 e_x4_49 => ?_)
        replace h := h x4_49 e_x4_49
        refine lv_istore (lv' := [(4, .int x4_49), (2, .long x2_46), (0, .ref h_a0), (1, .int p1)]) hx hb dX9_turned_58 hl (by decide) rfl (fun ls hl => ?_)
        refine lv_aload_n hx hb dX9_turned_60 rfl (lv_at hl 2 rfl) ?_
        refine va_get (D := (dC, dI)) (ci := 8) (v := .ref q_a0_row) (C := RX9) (T := TX9) (N := 19) hx hb hts hin_X9 hown hK hP 1 rfl rfl 15 (by decide) hw_2 (fun _ h9 => h9) rfl dX9_turned_61 ?_
        refine lv_iload hx hb dX9_turned_64 (lv_at hl 0 rfl) ?_
        refine lv_iconst (v := (1 : Int32)) hx hb dX9_turned_66 (by decide) ?_
        refine lv_iadd hx hb dX9_turned_67 ?_
        refine lv_lload_n hx hb dX9_turned_68 rfl (lv_at hl 1 rfl) ?_
        obtain ⟨hin_50, h⟩ := h
        refine va_last hx hb hK hP hD hS 0 1 rfl rfl hin_50 dX9_turned_69 (fun H locs hP hD hS => ?_)
        have hP : va_P (dC, dI) vwCl [(q_a0_row, .inl (cJ, 9616, .inr (.inl (vp_updL a0_row (x4_49 + (1 : Int32)).toNatClampNeg x2_46)))), (h_a0, .inr (8, [.int a0_primes, w_a0_prime, w_a0_isNone, .int a0_hasSpan, .long a0_spanFrom, .int a0_spanMany, w_a0_least, w_a0_greatest, w_a0_isSquared, .int a0_hasPart, .long a0_parted, .int a0_partMany, w_a0_partPrime, w_a0_partPower, .int a0_rows, .ref q_a0_row, .long a0_foundLeast, .long a0_foundGreatest, .int a0_foundSquare]))] H := hP
        have hD : va_D A [(q_a0_row, .inl (cJ, 9616, .inr (.inl (vp_updL a0_row (x4_49 + (1 : Int32)).toNatClampNeg x2_46)))), (h_a0, .inr (8, [.int a0_primes, w_a0_prime, w_a0_isNone, .int a0_hasSpan, .long a0_spanFrom, .int a0_spanMany, w_a0_least, w_a0_greatest, w_a0_isSquared, .int a0_hasPart, .long a0_parted, .int a0_partMany, w_a0_partPrime, w_a0_partPower, .int a0_rows, .ref q_a0_row, .long a0_foundLeast, .long a0_foundGreatest, .int a0_foundSquare]))] := hD
        refine lv_iconst (v := (2 : Int32)) hx hb dX9_turned_70 (by decide) ?_
        refine lv_istore (lv' := [(5, .int (2 : Int32)), (4, .int x4_49), (2, .long x2_46), (0, .ref h_a0), (1, .int p1)]) hx hb dX9_turned_71 hl (by decide) rfl (fun ls hl => ?_)
        obtain ⟨I_73_50, m_73_50, h0_73_50, hs_73_50⟩ := h
        have key_73_50 : ∀ (n : Nat) (l5_73_50 : Int32) (a0_row_73_50 : Nat → Int64), m_73_50 l5_73_50 a0_row_73_50 < n → I_73_50 l5_73_50 a0_row_73_50 → ∀ (ls : Array Slot) (H : Heap) (locs : List Loc), lv_has ls 9 [(5, .int l5_73_50), (4, .int x4_49), (2, .long x2_46), (0, .ref h_a0), (1, .int p1)] → va_P (dC, dI) vwCl [(q_a0_row, .inl (cJ, 9616, .inr (.inl a0_row_73_50))), (h_a0, .inr (8, [.int a0_primes, w_a0_prime, w_a0_isNone, .int a0_hasSpan, .long a0_spanFrom, .int a0_spanMany, w_a0_least, w_a0_greatest, w_a0_isSquared, .int a0_hasPart, .long a0_parted, .int a0_partMany, w_a0_partPrime, w_a0_partPower, .int a0_rows, .ref q_a0_row, .long a0_foundLeast, .long a0_foundGreatest, .int a0_foundSquare]))] H → va_D A [(q_a0_row, .inl (cJ, 9616, .inr (.inl a0_row_73_50))), (h_a0, .inr (8, [.int a0_primes, w_a0_prime, w_a0_isNone, .int a0_hasSpan, .long a0_spanFrom, .int a0_spanMany, w_a0_least, w_a0_greatest, w_a0_isSquared, .int a0_hasPart, .long a0_parted, .int a0_partMany, w_a0_partPrime, w_a0_partPower, .int a0_rows, .ref q_a0_row, .long a0_foundLeast, .long a0_foundGreatest, .int a0_foundSquare]))] → va_S A s.heap H locs → W p l e (headSpec wsX9_turned rm_X9_turned).room s m ([.ref h_a0, .int p1] : List Value).toArray below meth c H locs 0 0 (MQ below (qc_X9_turned dC dI cI cJ cZ h_a0 a0_primes w_a0_prime w_a0_isNone a0_hasSpan a0_spanFrom a0_spanMany w_a0_least w_a0_greatest w_a0_isSquared a0_hasPart a0_parted a0_partMany w_a0_partPrime w_a0_partPower a0_rows a0_row q_a0_row a0_foundLeast a0_foundGreatest a0_foundSquare Q A) ([.ref h_a0, .int p1] : List Value).toArray s 0 0 A) (F0 m 73 ls []) := by
          intro n
          induction n with
          | zero =>
            intro l5_73_50 a0_row_73_50 hm
            exact absurd hm (Nat.not_lt_zero _)
          | succ n ih_73_50 =>
            intro l5_73_50 a0_row_73_50 hm_73_50 hI ls H locs hl hP hD hS
            have h := hs_73_50 l5_73_50 a0_row_73_50 hI
            refine lv_iload hx hb dX9_turned_73 (lv_at hl 0 rfl) ?_
            refine lv_sipush (v := (600 : Int32)) hx hb dX9_turned_75 (by decide) ?_
            refine lv_icmp_gt (tgt := 165) hx hb dX9_turned_78 (by decide) (fun c_52 => ?_) (fun c_52 => ?_)
            · replace h := h.1 c_52
              refine lv_aload_n hx hb dX9_turned_165 rfl (lv_at hl 3 rfl) ?_
              refine lv_dup hx hb dX9_turned_166 rfl ?_
              refine va_get (D := (dC, dI)) (ci := 8) (v := .int a0_rows) (C := RX9) (T := TX9) (N := 19) hx hb hts hin_X9 hown hK hP 1 rfl rfl 14 (by decide) hw_0 (fun _ h9 => h9) rfl dX9_turned_167 ?_
              refine lv_iconst (v := (1 : Int32)) hx hb dX9_turned_170 (by decide) ?_
              refine lv_iadd hx hb dX9_turned_171 ?_
              refine lv_topi (fun y_53 e_y_53 => ?_)
              replace h := h y_53 e_y_53
              refine va_put (D := (dC, dI)) (ci := 8) (v := .int y_53) (ty := .int) (C := RX9) (T := TX9) (N := 19) hx hb hts hin_X9 tyX9 tyX9_ok nmX9 hown hK hP hD hS 1 rfl rfl 14 (by decide) hw_0 (fun _ h9 => h9) rfl (by decide +kernel) rfl rfl (Nat.le_of_ble_eq_true rfl) dX9_turned_172 (fun H locs hP hD hS => ?_)
              have hP : va_P (dC, dI) vwCl [(q_a0_row, .inl (cJ, 9616, .inr (.inl a0_row_73_50))), (h_a0, .inr (8, [.int a0_primes, w_a0_prime, w_a0_isNone, .int a0_hasSpan, .long a0_spanFrom, .int a0_spanMany, w_a0_least, w_a0_greatest, w_a0_isSquared, .int a0_hasPart, .long a0_parted, .int a0_partMany, w_a0_partPrime, w_a0_partPower, .int y_53, .ref q_a0_row, .long a0_foundLeast, .long a0_foundGreatest, .int a0_foundSquare]))] H := hP
              have hD : va_D A [(q_a0_row, .inl (cJ, 9616, .inr (.inl a0_row_73_50))), (h_a0, .inr (8, [.int a0_primes, w_a0_prime, w_a0_isNone, .int a0_hasSpan, .long a0_spanFrom, .int a0_spanMany, w_a0_least, w_a0_greatest, w_a0_isSquared, .int a0_hasPart, .long a0_parted, .int a0_partMany, w_a0_partPrime, w_a0_partPower, .int y_53, .ref q_a0_row, .long a0_foundLeast, .long a0_foundGreatest, .int a0_foundSquare]))] := hD
              refine lv_aload_n hx hb dX9_turned_175 rfl (lv_at hl 3 rfl) ?_
              refine va_get (D := (dC, dI)) (ci := 8) (v := .int y_53) (C := RX9) (T := TX9) (N := 19) hx hb hts hin_X9 hown hK hP 1 rfl rfl 14 (by decide) hw_0 (fun _ h9 => h9) rfl dX9_turned_176 ?_
              refine lv_iconst (v := (1 : Int32)) hx hb dX9_turned_179 (by decide) ?_
              refine lv_isub hx hb dX9_turned_180 ?_
              have hP9 := hP.sub (ws' := [(h_a0, .inr (8, [.int a0_primes, w_a0_prime, w_a0_isNone, .int a0_hasSpan, .long a0_spanFrom, .int a0_spanMany, w_a0_least, w_a0_greatest, w_a0_isSquared, .int a0_hasPart, .long a0_parted, .int a0_partMany, w_a0_partPrime, w_a0_partPower, .int y_53, .ref q_a0_row, .long a0_foundLeast, .long a0_foundGreatest, .int a0_foundSquare])), (q_a0_row, .inl (cJ, 9616, .inr (.inl a0_row_73_50)))]) [1, 0] rfl
              have hD9 := hD.sub (ws' := [(h_a0, .inr (8, [.int a0_primes, w_a0_prime, w_a0_isNone, .int a0_hasSpan, .long a0_spanFrom, .int a0_spanMany, w_a0_least, w_a0_greatest, w_a0_isSquared, .int a0_hasPart, .long a0_parted, .int a0_partMany, w_a0_partPrime, w_a0_partPower, .int y_53, .ref q_a0_row, .long a0_foundLeast, .long a0_foundGreatest, .int a0_foundSquare])), (q_a0_row, .inl (cJ, 9616, .inr (.inl a0_row_73_50)))]) [1, 0] (by decide) rfl
              exact W.iret (v := (y_53 - (1 : Int32))) hx hb hr (fun t ht hW => ⟨⟨_, (y_53, a0_row_73_50), rfl, h, by rw [ht]; exact hP9, hD9⟩, hS.F ht⟩) hS.2.2 dX9_turned_181
            · replace h := h.2 c_52
              refine lv_lconst (v := (0 : Int64)) hx hb dX9_turned_81 (by decide) ?_
              refine lv_lstore (lv' := [(6, .long (0 : Int64)), (5, .int l5_73_50), (4, .int x4_49), (2, .long x2_46), (0, .ref h_a0), (1, .int p1)]) hx hb dX9_turned_82 hl (by decide) rfl (fun ls hl => ?_)
              refine lv_iconst (v := (1 : Int32)) hx hb dX9_turned_84 (by decide) ?_
              refine lv_istore (lv' := [(8, .int (1 : Int32)), (6, .long (0 : Int64)), (5, .int l5_73_50), (4, .int x4_49), (2, .long x2_46), (0, .ref h_a0), (1, .int p1)]) hx hb dX9_turned_85 hl (by decide) rfl (fun ls hl => ?_)
              obtain ⟨I_87_53, m_87_53, h0_87_53, hs_87_53⟩ := h
              have key_87_53 : ∀ (n : Nat) (l8_87_53 : Int32) (l6_87_53 : Int64), m_87_53 l8_87_53 l6_87_53 < n → I_87_53 l8_87_53 l6_87_53 → ∀ (ls : Array Slot) (H : Heap) (locs : List Loc), lv_has ls 9 [(8, .int l8_87_53), (6, .long l6_87_53), (5, .int l5_73_50), (4, .int x4_49), (2, .long x2_46), (0, .ref h_a0), (1, .int p1)] → va_P (dC, dI) vwCl [(q_a0_row, .inl (cJ, 9616, .inr (.inl a0_row_73_50))), (h_a0, .inr (8, [.int a0_primes, w_a0_prime, w_a0_isNone, .int a0_hasSpan, .long a0_spanFrom, .int a0_spanMany, w_a0_least, w_a0_greatest, w_a0_isSquared, .int a0_hasPart, .long a0_parted, .int a0_partMany, w_a0_partPrime, w_a0_partPower, .int a0_rows, .ref q_a0_row, .long a0_foundLeast, .long a0_foundGreatest, .int a0_foundSquare]))] H → va_D A [(q_a0_row, .inl (cJ, 9616, .inr (.inl a0_row_73_50))), (h_a0, .inr (8, [.int a0_primes, w_a0_prime, w_a0_isNone, .int a0_hasSpan, .long a0_spanFrom, .int a0_spanMany, w_a0_least, w_a0_greatest, w_a0_isSquared, .int a0_hasPart, .long a0_parted, .int a0_partMany, w_a0_partPrime, w_a0_partPower, .int a0_rows, .ref q_a0_row, .long a0_foundLeast, .long a0_foundGreatest, .int a0_foundSquare]))] → va_S A s.heap H locs → W p l e (headSpec wsX9_turned rm_X9_turned).room s m ([.ref h_a0, .int p1] : List Value).toArray below meth c H locs 0 0 (MQ below (qc_X9_turned dC dI cI cJ cZ h_a0 a0_primes w_a0_prime w_a0_isNone a0_hasSpan a0_spanFrom a0_spanMany w_a0_least w_a0_greatest w_a0_isSquared a0_hasPart a0_parted a0_partMany w_a0_partPrime w_a0_partPower a0_rows a0_row q_a0_row a0_foundLeast a0_foundGreatest a0_foundSquare Q A) ([.ref h_a0, .int p1] : List Value).toArray s 0 0 A) (F0 m 87 ls []) := by
                intro n
                induction n with
                | zero =>
                  intro l8_87_53 l6_87_53 hm
                  exact absurd hm (Nat.not_lt_zero _)
                | succ n ih_87_53 =>
                  intro l8_87_53 l6_87_53 hm_87_53 hI ls H locs hl hP hD hS
                  have h := hs_87_53 l8_87_53 l6_87_53 hI
                  refine lv_iload hx hb dX9_turned_87 (lv_at hl 0 rfl) ?_
                  refine lv_iload hx hb dX9_turned_89 (lv_at hl 2 rfl) ?_
                  refine lv_icmp_ge (tgt := 144) hx hb dX9_turned_91 (by decide) (fun c_55 => ?_) (fun c_55 => ?_)
                  · replace h := h.1 c_55
                    refine lv_aload_n hx hb dX9_turned_144 rfl (lv_at hl 5 rfl) ?_
                    refine va_get (D := (dC, dI)) (ci := 8) (v := .ref q_a0_row) (C := RX9) (T := TX9) (N := 19) hx hb hts hin_X9 hown hK hP 1 rfl rfl 15 (by decide) hw_2 (fun _ h9 => h9) rfl dX9_turned_145 ?_
                    refine lv_iload hx hb dX9_turned_148 (lv_at hl 3 rfl) ?_
                    refine lv_iload hx hb dX9_turned_150 (lv_at hl 2 rfl) ?_
                    refine lv_iadd hx hb dX9_turned_152 ?_
                    refine lv_lload hx hb dX9_turned_153 (lv_at hl 1 rfl) ?_
                    refine lv_lneg hx hb dX9_turned_155 ?_
                    refine lv_lload_n hx hb dX9_turned_156 rfl (lv_at hl 4 rfl) ?_
                    refine lv_lmul hx hb dX9_turned_157 ?_
                    refine lv_topl (fun y_56 e_y_56 => ?_)
                    replace h := h y_56 e_y_56
                    obtain ⟨hin_57, h⟩ := h
                    refine va_last hx hb hK hP hD hS 0 1 rfl rfl hin_57 dX9_turned_158 (fun H locs hP hD hS => ?_)
                    have hP : va_P (dC, dI) vwCl [(q_a0_row, .inl (cJ, 9616, .inr (.inl (vp_updL a0_row_73_50 (x4_49 + l5_73_50).toNatClampNeg y_56)))), (h_a0, .inr (8, [.int a0_primes, w_a0_prime, w_a0_isNone, .int a0_hasSpan, .long a0_spanFrom, .int a0_spanMany, w_a0_least, w_a0_greatest, w_a0_isSquared, .int a0_hasPart, .long a0_parted, .int a0_partMany, w_a0_partPrime, w_a0_partPower, .int a0_rows, .ref q_a0_row, .long a0_foundLeast, .long a0_foundGreatest, .int a0_foundSquare]))] H := hP
                    have hD : va_D A [(q_a0_row, .inl (cJ, 9616, .inr (.inl (vp_updL a0_row_73_50 (x4_49 + l5_73_50).toNatClampNeg y_56)))), (h_a0, .inr (8, [.int a0_primes, w_a0_prime, w_a0_isNone, .int a0_hasSpan, .long a0_spanFrom, .int a0_spanMany, w_a0_least, w_a0_greatest, w_a0_isSquared, .int a0_hasPart, .long a0_parted, .int a0_partMany, w_a0_partPrime, w_a0_partPower, .int a0_rows, .ref q_a0_row, .long a0_foundLeast, .long a0_foundGreatest, .int a0_foundSquare]))] := hD
                    obtain ⟨x5_58, e_x5_58⟩ : ∃ y : Int32, y = l5_73_50 + (1 : Int32) := ⟨_, rfl⟩
                    replace h := h x5_58 e_x5_58
                    refine lv_iinc (v := x5_58) (lv' := [(5, .int x5_58), (8, .int l8_87_53), (6, .long l6_87_53), (4, .int x4_49), (2, .long x2_46), (0, .ref h_a0), (1, .int p1)]) hx hb dX9_turned_159 hl (k := 2) rfl (by rw [e_x5_58]; rfl) (by decide) rfl (fun ls hl => ?_)
                    refine lv_goto (tgt := 73) hx hb dX9_turned_162 (by decide) ?_
                    exact ih_73_50 x5_58 (vp_updL a0_row_73_50 (x4_49 + l5_73_50).toNatClampNeg y_56) (Nat.lt_of_lt_of_le h.2 (Nat.le_of_lt_succ hm_73_50)) h.1 _ _ _ (lv_sub hl [0, 3, 4, 5, 6] rfl) (hP.sub [0, 1] rfl) (hD.sub [0, 1] (by decide) rfl) hS
                  · replace h := h.2 c_55
                    refine lv_lload hx hb dX9_turned_94 (lv_at hl 1 rfl) ?_
                    refine lv_iload hx hb dX9_turned_96 (lv_at hl 2 rfl) ?_
                    refine lv_iload hx hb dX9_turned_98 (lv_at hl 0 rfl) ?_
                    obtain ⟨hne_59, h⟩ := h
                    refine lv_irem hx hb dX9_turned_100 hne_59 ?_
                    refine lv_if_ne (tgt := 134) hx hb dX9_turned_101 (by decide) (fun c_60 => ?_) (fun c_60 => ?_)
                    · replace h := h.2 c_60
                      refine lv_lconst (v := (0 : Int64)) hx hb dX9_turned_134 (by decide) ?_
                      refine lv_ladd hx hb dX9_turned_135 ?_
                      refine lv_topl (fun x6_61 e_x6_61 => ?_)
                      replace h := h x6_61 e_x6_61
                      refine lv_lstore (lv' := [(6, .long x6_61), (8, .int l8_87_53), (5, .int l5_73_50), (4, .int x4_49), (2, .long x2_46), (0, .ref h_a0), (1, .int p1)]) hx hb dX9_turned_136 hl (by decide) rfl (fun ls hl => ?_)
                      obtain ⟨x8_62, e_x8_62⟩ : ∃ y : Int32, y = l8_87_53 + (1 : Int32) := ⟨_, rfl⟩
                      replace h := h x8_62 e_x8_62
                      refine lv_iinc (v := x8_62) (lv' := [(8, .int x8_62), (6, .long x6_61), (5, .int l5_73_50), (4, .int x4_49), (2, .long x2_46), (0, .ref h_a0), (1, .int p1)]) hx hb dX9_turned_138 hl (k := 1) rfl (by rw [e_x8_62]; rfl) (by decide) rfl (fun ls hl => ?_)
                      refine lv_goto (tgt := 87) hx hb dX9_turned_141 (by decide) ?_
                      exact ih_87_53 x8_62 x6_61 (Nat.lt_of_lt_of_le h.2 (Nat.le_of_lt_succ hm_87_53)) h.1 _ _ _ (lv_sub hl [0, 1, 2, 3, 4, 5, 6] rfl) (hP.sub [0, 1] rfl) (hD.sub [0, 1] (by decide) rfl) hS
                    · replace h := h.1 c_60
                      refine lv_aload_n hx hb dX9_turned_104 rfl (lv_at hl 5 rfl) ?_
                      refine va_get (D := (dC, dI)) (ci := 8) (v := .ref q_a0_row) (C := RX9) (T := TX9) (N := 19) hx hb hts hin_X9 hown hK hP 1 rfl rfl 15 (by decide) hw_2 (fun _ h9 => h9) rfl dX9_turned_105 ?_
                      refine lv_sipush (v := (601 : Int32)) hx hb dX9_turned_108 (by decide) ?_
                      refine lv_iload_n hx hb dX9_turned_111 rfl (lv_at hl 6 rfl) ?_
                      refine lv_imul hx hb dX9_turned_112 ?_
                      refine lv_iload hx hb dX9_turned_113 (lv_at hl 2 rfl) ?_
                      refine lv_iload hx hb dX9_turned_115 (lv_at hl 0 rfl) ?_
                      obtain ⟨hne_63, h⟩ := h
                      refine lv_idiv hx hb dX9_turned_117 hne_63 ?_
                      refine lv_iadd hx hb dX9_turned_118 ?_
                      obtain ⟨hin_64, h⟩ := h
                      refine va_lald hx hb hK hP 0 1 rfl rfl hin_64 dX9_turned_119 ?_
                      refine lv_aload_n hx hb dX9_turned_120 rfl (lv_at hl 5 rfl) ?_
                      refine va_get (D := (dC, dI)) (ci := 8) (v := .ref q_a0_row) (C := RX9) (T := TX9) (N := 19) hx hb hts hin_X9 hown hK hP 1 rfl rfl 15 (by decide) hw_2 (fun _ h9 => h9) rfl dX9_turned_121 ?_
                      refine lv_iload hx hb dX9_turned_124 (lv_at hl 3 rfl) ?_
                      refine lv_iload hx hb dX9_turned_126 (lv_at hl 0 rfl) ?_
                      refine lv_iadd hx hb dX9_turned_128 ?_
                      obtain ⟨hin_65, h⟩ := h
                      refine va_lald hx hb hK hP 0 1 rfl rfl hin_65 dX9_turned_129 ?_
                      refine lv_lmul hx hb dX9_turned_130 ?_
                      refine lv_goto (tgt := 135) hx hb dX9_turned_131 (by decide) ?_
                      refine lv_ladd hx hb dX9_turned_135 ?_
                      refine lv_topl (fun x6_66 e_x6_66 => ?_)
                      replace h := h x6_66 e_x6_66
                      refine lv_lstore (lv' := [(6, .long x6_66), (8, .int l8_87_53), (5, .int l5_73_50), (4, .int x4_49), (2, .long x2_46), (0, .ref h_a0), (1, .int p1)]) hx hb dX9_turned_136 hl (by decide) rfl (fun ls hl => ?_)
                      obtain ⟨x8_67, e_x8_67⟩ : ∃ y : Int32, y = l8_87_53 + (1 : Int32) := ⟨_, rfl⟩
                      replace h := h x8_67 e_x8_67
                      refine lv_iinc (v := x8_67) (lv' := [(8, .int x8_67), (6, .long x6_66), (5, .int l5_73_50), (4, .int x4_49), (2, .long x2_46), (0, .ref h_a0), (1, .int p1)]) hx hb dX9_turned_138 hl (k := 1) rfl (by rw [e_x8_67]; rfl) (by decide) rfl (fun ls hl => ?_)
                      refine lv_goto (tgt := 87) hx hb dX9_turned_141 (by decide) ?_
                      exact ih_87_53 x8_67 x6_66 (Nat.lt_of_lt_of_le h.2 (Nat.le_of_lt_succ hm_87_53)) h.1 _ _ _ (lv_sub hl [0, 1, 2, 3, 4, 5, 6] rfl) (hP.sub [0, 1] rfl) (hD.sub [0, 1] (by decide) rfl) hS
              exact key_87_53 _ (1 : Int32) (0 : Int64) (Nat.lt_succ_self _) h0_87_53 _ _ _ (lv_sub hl [0, 1, 2, 3, 4, 5, 6] rfl) (hP.sub [0, 1] rfl) (hD.sub [0, 1] (by decide) rfl) hS
        exact key_73_50 _ (2 : Int32) (vp_updL a0_row (x4_49 + (1 : Int32)).toNatClampNeg x2_46) (Nat.lt_succ_self _) h0_73_50 _ _ _ (lv_sub hl [0, 1, 2, 3, 4] rfl) (hP.sub [0, 1] rfl) (hD.sub [0, 1] (by decide) rfl) hS
      · replace h := h.1 c_48
        refine lv_iconst (v := (-1 : Int32)) hx hb dX9_turned_48 (by decide) ?_
        have hP9 := hP.sub (ws' := [(h_a0, .inr (8, [.int a0_primes, w_a0_prime, w_a0_isNone, .int a0_hasSpan, .long a0_spanFrom, .int a0_spanMany, w_a0_least, w_a0_greatest, w_a0_isSquared, .int a0_hasPart, .long a0_parted, .int a0_partMany, w_a0_partPrime, w_a0_partPower, .int a0_rows, .ref q_a0_row, .long a0_foundLeast, .long a0_foundGreatest, .int a0_foundSquare])), (q_a0_row, .inl (cJ, 9616, .inr (.inl a0_row)))]) [1, 0] rfl
        have hD9 := hD.sub (ws' := [(h_a0, .inr (8, [.int a0_primes, w_a0_prime, w_a0_isNone, .int a0_hasSpan, .long a0_spanFrom, .int a0_spanMany, w_a0_least, w_a0_greatest, w_a0_isSquared, .int a0_hasPart, .long a0_parted, .int a0_partMany, w_a0_partPrime, w_a0_partPower, .int a0_rows, .ref q_a0_row, .long a0_foundLeast, .long a0_foundGreatest, .int a0_foundSquare])), (q_a0_row, .inl (cJ, 9616, .inr (.inl a0_row)))]) [1, 0] (by decide) rfl
        exact W.iret (v := (-1 : Int32)) hx hb hr (fun t ht hW => ⟨⟨_, (a0_rows, a0_row), rfl, h, by rw [ht]; exact hP9, hD9⟩, hS.F ht⟩) hS.2.2 dX9_turned_49
    · replace c_47 := lc_neq c_47
      replace h := h.2 c_47
      refine lv_lload_n hx hb dX9_turned_31 rfl (lv_at hl 0 rfl) ?_
      refine lv_ldc2 hx hb hown hw_3 dX9_turned_32 ?_
      refine W.lcmp hx hb dX9_turned_35 ?_
      refine lv_if_ne (tgt := 48) hx hb dX9_turned_36 (by decide) (fun c_68 => ?_) (fun c_68 => ?_)
      · replace c_68 := lc_neq c_68
        replace h := h.2 c_68
        refine lv_iconst (v := (-1 : Int32)) hx hb dX9_turned_48 (by decide) ?_
        have hP9 := hP.sub (ws' := [(h_a0, .inr (8, [.int a0_primes, w_a0_prime, w_a0_isNone, .int a0_hasSpan, .long a0_spanFrom, .int a0_spanMany, w_a0_least, w_a0_greatest, w_a0_isSquared, .int a0_hasPart, .long a0_parted, .int a0_partMany, w_a0_partPrime, w_a0_partPower, .int a0_rows, .ref q_a0_row, .long a0_foundLeast, .long a0_foundGreatest, .int a0_foundSquare])), (q_a0_row, .inl (cJ, 9616, .inr (.inl a0_row)))]) [1, 0] rfl
        have hD9 := hD.sub (ws' := [(h_a0, .inr (8, [.int a0_primes, w_a0_prime, w_a0_isNone, .int a0_hasSpan, .long a0_spanFrom, .int a0_spanMany, w_a0_least, w_a0_greatest, w_a0_isSquared, .int a0_hasPart, .long a0_parted, .int a0_partMany, w_a0_partPrime, w_a0_partPower, .int a0_rows, .ref q_a0_row, .long a0_foundLeast, .long a0_foundGreatest, .int a0_foundSquare])), (q_a0_row, .inl (cJ, 9616, .inr (.inl a0_row)))]) [1, 0] (by decide) rfl
        exact W.iret (v := (-1 : Int32)) hx hb hr (fun t ht hW => ⟨⟨_, (a0_rows, a0_row), rfl, h, by rw [ht]; exact hP9, hD9⟩, hS.F ht⟩) hS.2.2 dX9_turned_49
      · replace c_68 := (lg_cmp_eq _ _).mp c_68
        replace h := h.1 c_68
        refine lv_aload_n hx hb dX9_turned_39 rfl (lv_at hl 1 rfl) ?_
        refine va_get (D := (dC, dI)) (ci := 8) (v := .int a0_rows) (C := RX9) (T := TX9) (N := 19) hx hb hts hin_X9 hown hK hP 1 rfl rfl 14 (by decide) hw_0 (fun _ h9 => h9) rfl dX9_turned_40 ?_
        refine lv_bipush (v := (16 : Int32)) hx hb dX9_turned_43 (by decide) ?_
        refine lv_icmp_ne (tgt := 50) hx hb dX9_turned_45 (by decide) (fun c_69 => ?_) (fun c_69 => ?_)
        · replace h := h.2 c_69
          refine lv_sipush (v := (601 : Int32)) hx hb dX9_turned_50 (by decide) ?_
          refine lv_aload_n hx hb dX9_turned_53 rfl (lv_at hl 1 rfl) ?_
          refine va_get (D := (dC, dI)) (ci := 8) (v := .int a0_rows) (C := RX9) (T := TX9) (N := 19) hx hb hts hin_X9 hown hK hP 1 rfl rfl 14 (by decide) hw_0 (fun _ h9 => h9) rfl dX9_turned_54 ?_
          refine lv_imul hx hb dX9_turned_57 ?_
          refine lv_topi (fun x4_70 e_x4_70 => ?_)
          replace h := h x4_70 e_x4_70
          refine lv_istore (lv' := [(4, .int x4_70), (2, .long x2_46), (0, .ref h_a0), (1, .int p1)]) hx hb dX9_turned_58 hl (by decide) rfl (fun ls hl => ?_)
          refine lv_aload_n hx hb dX9_turned_60 rfl (lv_at hl 2 rfl) ?_
          refine va_get (D := (dC, dI)) (ci := 8) (v := .ref q_a0_row) (C := RX9) (T := TX9) (N := 19) hx hb hts hin_X9 hown hK hP 1 rfl rfl 15 (by decide) hw_2 (fun _ h9 => h9) rfl dX9_turned_61 ?_
          refine lv_iload hx hb dX9_turned_64 (lv_at hl 0 rfl) ?_
          refine lv_iconst (v := (1 : Int32)) hx hb dX9_turned_66 (by decide) ?_
          refine lv_iadd hx hb dX9_turned_67 ?_
          refine lv_lload_n hx hb dX9_turned_68 rfl (lv_at hl 1 rfl) ?_
          obtain ⟨hin_71, h⟩ := h
          refine va_last hx hb hK hP hD hS 0 1 rfl rfl hin_71 dX9_turned_69 (fun H locs hP hD hS => ?_)
          have hP : va_P (dC, dI) vwCl [(q_a0_row, .inl (cJ, 9616, .inr (.inl (vp_updL a0_row (x4_70 + (1 : Int32)).toNatClampNeg x2_46)))), (h_a0, .inr (8, [.int a0_primes, w_a0_prime, w_a0_isNone, .int a0_hasSpan, .long a0_spanFrom, .int a0_spanMany, w_a0_least, w_a0_greatest, w_a0_isSquared, .int a0_hasPart, .long a0_parted, .int a0_partMany, w_a0_partPrime, w_a0_partPower, .int a0_rows, .ref q_a0_row, .long a0_foundLeast, .long a0_foundGreatest, .int a0_foundSquare]))] H := hP
          have hD : va_D A [(q_a0_row, .inl (cJ, 9616, .inr (.inl (vp_updL a0_row (x4_70 + (1 : Int32)).toNatClampNeg x2_46)))), (h_a0, .inr (8, [.int a0_primes, w_a0_prime, w_a0_isNone, .int a0_hasSpan, .long a0_spanFrom, .int a0_spanMany, w_a0_least, w_a0_greatest, w_a0_isSquared, .int a0_hasPart, .long a0_parted, .int a0_partMany, w_a0_partPrime, w_a0_partPower, .int a0_rows, .ref q_a0_row, .long a0_foundLeast, .long a0_foundGreatest, .int a0_foundSquare]))] := hD
          refine lv_iconst (v := (2 : Int32)) hx hb dX9_turned_70 (by decide) ?_
          refine lv_istore (lv' := [(5, .int (2 : Int32)), (4, .int x4_70), (2, .long x2_46), (0, .ref h_a0), (1, .int p1)]) hx hb dX9_turned_71 hl (by decide) rfl (fun ls hl => ?_)
          obtain ⟨I_73_71, m_73_71, h0_73_71, hs_73_71⟩ := h
          have key_73_71 : ∀ (n : Nat) (l5_73_71 : Int32) (a0_row_73_71 : Nat → Int64), m_73_71 l5_73_71 a0_row_73_71 < n → I_73_71 l5_73_71 a0_row_73_71 → ∀ (ls : Array Slot) (H : Heap) (locs : List Loc), lv_has ls 9 [(5, .int l5_73_71), (4, .int x4_70), (2, .long x2_46), (0, .ref h_a0), (1, .int p1)] → va_P (dC, dI) vwCl [(q_a0_row, .inl (cJ, 9616, .inr (.inl a0_row_73_71))), (h_a0, .inr (8, [.int a0_primes, w_a0_prime, w_a0_isNone, .int a0_hasSpan, .long a0_spanFrom, .int a0_spanMany, w_a0_least, w_a0_greatest, w_a0_isSquared, .int a0_hasPart, .long a0_parted, .int a0_partMany, w_a0_partPrime, w_a0_partPower, .int a0_rows, .ref q_a0_row, .long a0_foundLeast, .long a0_foundGreatest, .int a0_foundSquare]))] H → va_D A [(q_a0_row, .inl (cJ, 9616, .inr (.inl a0_row_73_71))), (h_a0, .inr (8, [.int a0_primes, w_a0_prime, w_a0_isNone, .int a0_hasSpan, .long a0_spanFrom, .int a0_spanMany, w_a0_least, w_a0_greatest, w_a0_isSquared, .int a0_hasPart, .long a0_parted, .int a0_partMany, w_a0_partPrime, w_a0_partPower, .int a0_rows, .ref q_a0_row, .long a0_foundLeast, .long a0_foundGreatest, .int a0_foundSquare]))] → va_S A s.heap H locs → W p l e (headSpec wsX9_turned rm_X9_turned).room s m ([.ref h_a0, .int p1] : List Value).toArray below meth c H locs 0 0 (MQ below (qc_X9_turned dC dI cI cJ cZ h_a0 a0_primes w_a0_prime w_a0_isNone a0_hasSpan a0_spanFrom a0_spanMany w_a0_least w_a0_greatest w_a0_isSquared a0_hasPart a0_parted a0_partMany w_a0_partPrime w_a0_partPower a0_rows a0_row q_a0_row a0_foundLeast a0_foundGreatest a0_foundSquare Q A) ([.ref h_a0, .int p1] : List Value).toArray s 0 0 A) (F0 m 73 ls []) := by
            intro n
            induction n with
            | zero =>
              intro l5_73_71 a0_row_73_71 hm
              exact absurd hm (Nat.not_lt_zero _)
            | succ n ih_73_71 =>
              intro l5_73_71 a0_row_73_71 hm_73_71 hI ls H locs hl hP hD hS
              have h := hs_73_71 l5_73_71 a0_row_73_71 hI
              refine lv_iload hx hb dX9_turned_73 (lv_at hl 0 rfl) ?_
              refine lv_sipush (v := (600 : Int32)) hx hb dX9_turned_75 (by decide) ?_
              refine lv_icmp_gt (tgt := 165) hx hb dX9_turned_78 (by decide) (fun c_73 => ?_) (fun c_73 => ?_)
              · replace h := h.1 c_73
                refine lv_aload_n hx hb dX9_turned_165 rfl (lv_at hl 3 rfl) ?_
                refine lv_dup hx hb dX9_turned_166 rfl ?_
                refine va_get (D := (dC, dI)) (ci := 8) (v := .int a0_rows) (C := RX9) (T := TX9) (N := 19) hx hb hts hin_X9 hown hK hP 1 rfl rfl 14 (by decide) hw_0 (fun _ h9 => h9) rfl dX9_turned_167 ?_
                refine lv_iconst (v := (1 : Int32)) hx hb dX9_turned_170 (by decide) ?_
                refine lv_iadd hx hb dX9_turned_171 ?_
                refine lv_topi (fun y_74 e_y_74 => ?_)
                replace h := h y_74 e_y_74
                refine va_put (D := (dC, dI)) (ci := 8) (v := .int y_74) (ty := .int) (C := RX9) (T := TX9) (N := 19) hx hb hts hin_X9 tyX9 tyX9_ok nmX9 hown hK hP hD hS 1 rfl rfl 14 (by decide) hw_0 (fun _ h9 => h9) rfl (by decide +kernel) rfl rfl (Nat.le_of_ble_eq_true rfl) dX9_turned_172 (fun H locs hP hD hS => ?_)
                have hP : va_P (dC, dI) vwCl [(q_a0_row, .inl (cJ, 9616, .inr (.inl a0_row_73_71))), (h_a0, .inr (8, [.int a0_primes, w_a0_prime, w_a0_isNone, .int a0_hasSpan, .long a0_spanFrom, .int a0_spanMany, w_a0_least, w_a0_greatest, w_a0_isSquared, .int a0_hasPart, .long a0_parted, .int a0_partMany, w_a0_partPrime, w_a0_partPower, .int y_74, .ref q_a0_row, .long a0_foundLeast, .long a0_foundGreatest, .int a0_foundSquare]))] H := hP
                have hD : va_D A [(q_a0_row, .inl (cJ, 9616, .inr (.inl a0_row_73_71))), (h_a0, .inr (8, [.int a0_primes, w_a0_prime, w_a0_isNone, .int a0_hasSpan, .long a0_spanFrom, .int a0_spanMany, w_a0_least, w_a0_greatest, w_a0_isSquared, .int a0_hasPart, .long a0_parted, .int a0_partMany, w_a0_partPrime, w_a0_partPower, .int y_74, .ref q_a0_row, .long a0_foundLeast, .long a0_foundGreatest, .int a0_foundSquare]))] := hD
                refine lv_aload_n hx hb dX9_turned_175 rfl (lv_at hl 3 rfl) ?_
                refine va_get (D := (dC, dI)) (ci := 8) (v := .int y_74) (C := RX9) (T := TX9) (N := 19) hx hb hts hin_X9 hown hK hP 1 rfl rfl 14 (by decide) hw_0 (fun _ h9 => h9) rfl dX9_turned_176 ?_
                refine lv_iconst (v := (1 : Int32)) hx hb dX9_turned_179 (by decide) ?_
                refine lv_isub hx hb dX9_turned_180 ?_
                have hP9 := hP.sub (ws' := [(h_a0, .inr (8, [.int a0_primes, w_a0_prime, w_a0_isNone, .int a0_hasSpan, .long a0_spanFrom, .int a0_spanMany, w_a0_least, w_a0_greatest, w_a0_isSquared, .int a0_hasPart, .long a0_parted, .int a0_partMany, w_a0_partPrime, w_a0_partPower, .int y_74, .ref q_a0_row, .long a0_foundLeast, .long a0_foundGreatest, .int a0_foundSquare])), (q_a0_row, .inl (cJ, 9616, .inr (.inl a0_row_73_71)))]) [1, 0] rfl
                have hD9 := hD.sub (ws' := [(h_a0, .inr (8, [.int a0_primes, w_a0_prime, w_a0_isNone, .int a0_hasSpan, .long a0_spanFrom, .int a0_spanMany, w_a0_least, w_a0_greatest, w_a0_isSquared, .int a0_hasPart, .long a0_parted, .int a0_partMany, w_a0_partPrime, w_a0_partPower, .int y_74, .ref q_a0_row, .long a0_foundLeast, .long a0_foundGreatest, .int a0_foundSquare])), (q_a0_row, .inl (cJ, 9616, .inr (.inl a0_row_73_71)))]) [1, 0] (by decide) rfl
                exact W.iret (v := (y_74 - (1 : Int32))) hx hb hr (fun t ht hW => ⟨⟨_, (y_74, a0_row_73_71), rfl, h, by rw [ht]; exact hP9, hD9⟩, hS.F ht⟩) hS.2.2 dX9_turned_181
              · replace h := h.2 c_73
                refine lv_lconst (v := (0 : Int64)) hx hb dX9_turned_81 (by decide) ?_
                refine lv_lstore (lv' := [(6, .long (0 : Int64)), (5, .int l5_73_71), (4, .int x4_70), (2, .long x2_46), (0, .ref h_a0), (1, .int p1)]) hx hb dX9_turned_82 hl (by decide) rfl (fun ls hl => ?_)
                refine lv_iconst (v := (1 : Int32)) hx hb dX9_turned_84 (by decide) ?_
                refine lv_istore (lv' := [(8, .int (1 : Int32)), (6, .long (0 : Int64)), (5, .int l5_73_71), (4, .int x4_70), (2, .long x2_46), (0, .ref h_a0), (1, .int p1)]) hx hb dX9_turned_85 hl (by decide) rfl (fun ls hl => ?_)
                obtain ⟨I_87_74, m_87_74, h0_87_74, hs_87_74⟩ := h
                have key_87_74 : ∀ (n : Nat) (l8_87_74 : Int32) (l6_87_74 : Int64), m_87_74 l8_87_74 l6_87_74 < n → I_87_74 l8_87_74 l6_87_74 → ∀ (ls : Array Slot) (H : Heap) (locs : List Loc), lv_has ls 9 [(8, .int l8_87_74), (6, .long l6_87_74), (5, .int l5_73_71), (4, .int x4_70), (2, .long x2_46), (0, .ref h_a0), (1, .int p1)] → va_P (dC, dI) vwCl [(q_a0_row, .inl (cJ, 9616, .inr (.inl a0_row_73_71))), (h_a0, .inr (8, [.int a0_primes, w_a0_prime, w_a0_isNone, .int a0_hasSpan, .long a0_spanFrom, .int a0_spanMany, w_a0_least, w_a0_greatest, w_a0_isSquared, .int a0_hasPart, .long a0_parted, .int a0_partMany, w_a0_partPrime, w_a0_partPower, .int a0_rows, .ref q_a0_row, .long a0_foundLeast, .long a0_foundGreatest, .int a0_foundSquare]))] H → va_D A [(q_a0_row, .inl (cJ, 9616, .inr (.inl a0_row_73_71))), (h_a0, .inr (8, [.int a0_primes, w_a0_prime, w_a0_isNone, .int a0_hasSpan, .long a0_spanFrom, .int a0_spanMany, w_a0_least, w_a0_greatest, w_a0_isSquared, .int a0_hasPart, .long a0_parted, .int a0_partMany, w_a0_partPrime, w_a0_partPower, .int a0_rows, .ref q_a0_row, .long a0_foundLeast, .long a0_foundGreatest, .int a0_foundSquare]))] → va_S A s.heap H locs → W p l e (headSpec wsX9_turned rm_X9_turned).room s m ([.ref h_a0, .int p1] : List Value).toArray below meth c H locs 0 0 (MQ below (qc_X9_turned dC dI cI cJ cZ h_a0 a0_primes w_a0_prime w_a0_isNone a0_hasSpan a0_spanFrom a0_spanMany w_a0_least w_a0_greatest w_a0_isSquared a0_hasPart a0_parted a0_partMany w_a0_partPrime w_a0_partPower a0_rows a0_row q_a0_row a0_foundLeast a0_foundGreatest a0_foundSquare Q A) ([.ref h_a0, .int p1] : List Value).toArray s 0 0 A) (F0 m 87 ls []) := by
                  intro n
                  induction n with
                  | zero =>
                    intro l8_87_74 l6_87_74 hm
                    exact absurd hm (Nat.not_lt_zero _)
                  | succ n ih_87_74 =>
                    intro l8_87_74 l6_87_74 hm_87_74 hI ls H locs hl hP hD hS
                    have h := hs_87_74 l8_87_74 l6_87_74 hI
                    refine lv_iload hx hb dX9_turned_87 (lv_at hl 0 rfl) ?_
                    refine lv_iload hx hb dX9_turned_89 (lv_at hl 2 rfl) ?_
                    refine lv_icmp_ge (tgt := 144) hx hb dX9_turned_91 (by decide) (fun c_76 => ?_) (fun c_76 => ?_)
                    · replace h := h.1 c_76
                      refine lv_aload_n hx hb dX9_turned_144 rfl (lv_at hl 5 rfl) ?_
                      refine va_get (D := (dC, dI)) (ci := 8) (v := .ref q_a0_row) (C := RX9) (T := TX9) (N := 19) hx hb hts hin_X9 hown hK hP 1 rfl rfl 15 (by decide) hw_2 (fun _ h9 => h9) rfl dX9_turned_145 ?_
                      refine lv_iload hx hb dX9_turned_148 (lv_at hl 3 rfl) ?_
                      refine lv_iload hx hb dX9_turned_150 (lv_at hl 2 rfl) ?_
                      refine lv_iadd hx hb dX9_turned_152 ?_
                      refine lv_lload hx hb dX9_turned_153 (lv_at hl 1 rfl) ?_
                      refine lv_lneg hx hb dX9_turned_155 ?_
                      refine lv_lload_n hx hb dX9_turned_156 rfl (lv_at hl 4 rfl) ?_
                      refine lv_lmul hx hb dX9_turned_157 ?_
                      refine lv_topl (fun y_77 e_y_77 => ?_)
                      replace h := h y_77 e_y_77
                      obtain ⟨hin_78, h⟩ := h
                      refine va_last hx hb hK hP hD hS 0 1 rfl rfl hin_78 dX9_turned_158 (fun H locs hP hD hS => ?_)
                      have hP : va_P (dC, dI) vwCl [(q_a0_row, .inl (cJ, 9616, .inr (.inl (vp_updL a0_row_73_71 (x4_70 + l5_73_71).toNatClampNeg y_77)))), (h_a0, .inr (8, [.int a0_primes, w_a0_prime, w_a0_isNone, .int a0_hasSpan, .long a0_spanFrom, .int a0_spanMany, w_a0_least, w_a0_greatest, w_a0_isSquared, .int a0_hasPart, .long a0_parted, .int a0_partMany, w_a0_partPrime, w_a0_partPower, .int a0_rows, .ref q_a0_row, .long a0_foundLeast, .long a0_foundGreatest, .int a0_foundSquare]))] H := hP
                      have hD : va_D A [(q_a0_row, .inl (cJ, 9616, .inr (.inl (vp_updL a0_row_73_71 (x4_70 + l5_73_71).toNatClampNeg y_77)))), (h_a0, .inr (8, [.int a0_primes, w_a0_prime, w_a0_isNone, .int a0_hasSpan, .long a0_spanFrom, .int a0_spanMany, w_a0_least, w_a0_greatest, w_a0_isSquared, .int a0_hasPart, .long a0_parted, .int a0_partMany, w_a0_partPrime, w_a0_partPower, .int a0_rows, .ref q_a0_row, .long a0_foundLeast, .long a0_foundGreatest, .int a0_foundSquare]))] := hD
                      obtain ⟨x5_79, e_x5_79⟩ : ∃ y : Int32, y = l5_73_71 + (1 : Int32) := ⟨_, rfl⟩
                      replace h := h x5_79 e_x5_79
                      refine lv_iinc (v := x5_79) (lv' := [(5, .int x5_79), (8, .int l8_87_74), (6, .long l6_87_74), (4, .int x4_70), (2, .long x2_46), (0, .ref h_a0), (1, .int p1)]) hx hb dX9_turned_159 hl (k := 2) rfl (by rw [e_x5_79]; rfl) (by decide) rfl (fun ls hl => ?_)
                      refine lv_goto (tgt := 73) hx hb dX9_turned_162 (by decide) ?_
                      exact ih_73_71 x5_79 (vp_updL a0_row_73_71 (x4_70 + l5_73_71).toNatClampNeg y_77) (Nat.lt_of_lt_of_le h.2 (Nat.le_of_lt_succ hm_73_71)) h.1 _ _ _ (lv_sub hl [0, 3, 4, 5, 6] rfl) (hP.sub [0, 1] rfl) (hD.sub [0, 1] (by decide) rfl) hS
                    · replace h := h.2 c_76
                      refine lv_lload hx hb dX9_turned_94 (lv_at hl 1 rfl) ?_
                      refine lv_iload hx hb dX9_turned_96 (lv_at hl 2 rfl) ?_
                      refine lv_iload hx hb dX9_turned_98 (lv_at hl 0 rfl) ?_
                      obtain ⟨hne_80, h⟩ := h
                      refine lv_irem hx hb dX9_turned_100 hne_80 ?_
                      refine lv_if_ne (tgt := 134) hx hb dX9_turned_101 (by decide) (fun c_81 => ?_) (fun c_81 => ?_)
                      · replace h := h.2 c_81
                        refine lv_lconst (v := (0 : Int64)) hx hb dX9_turned_134 (by decide) ?_
                        refine lv_ladd hx hb dX9_turned_135 ?_
                        refine lv_topl (fun x6_82 e_x6_82 => ?_)
                        replace h := h x6_82 e_x6_82
                        refine lv_lstore (lv' := [(6, .long x6_82), (8, .int l8_87_74), (5, .int l5_73_71), (4, .int x4_70), (2, .long x2_46), (0, .ref h_a0), (1, .int p1)]) hx hb dX9_turned_136 hl (by decide) rfl (fun ls hl => ?_)
                        obtain ⟨x8_83, e_x8_83⟩ : ∃ y : Int32, y = l8_87_74 + (1 : Int32) := ⟨_, rfl⟩
                        replace h := h x8_83 e_x8_83
                        refine lv_iinc (v := x8_83) (lv' := [(8, .int x8_83), (6, .long x6_82), (5, .int l5_73_71), (4, .int x4_70), (2, .long x2_46), (0, .ref h_a0), (1, .int p1)]) hx hb dX9_turned_138 hl (k := 1) rfl (by rw [e_x8_83]; rfl) (by decide) rfl (fun ls hl => ?_)
                        refine lv_goto (tgt := 87) hx hb dX9_turned_141 (by decide) ?_
                        exact ih_87_74 x8_83 x6_82 (Nat.lt_of_lt_of_le h.2 (Nat.le_of_lt_succ hm_87_74)) h.1 _ _ _ (lv_sub hl [0, 1, 2, 3, 4, 5, 6] rfl) (hP.sub [0, 1] rfl) (hD.sub [0, 1] (by decide) rfl) hS
                      · replace h := h.1 c_81
                        refine lv_aload_n hx hb dX9_turned_104 rfl (lv_at hl 5 rfl) ?_
                        refine va_get (D := (dC, dI)) (ci := 8) (v := .ref q_a0_row) (C := RX9) (T := TX9) (N := 19) hx hb hts hin_X9 hown hK hP 1 rfl rfl 15 (by decide) hw_2 (fun _ h9 => h9) rfl dX9_turned_105 ?_
                        refine lv_sipush (v := (601 : Int32)) hx hb dX9_turned_108 (by decide) ?_
                        refine lv_iload_n hx hb dX9_turned_111 rfl (lv_at hl 6 rfl) ?_
                        refine lv_imul hx hb dX9_turned_112 ?_
                        refine lv_iload hx hb dX9_turned_113 (lv_at hl 2 rfl) ?_
                        refine lv_iload hx hb dX9_turned_115 (lv_at hl 0 rfl) ?_
                        obtain ⟨hne_84, h⟩ := h
                        refine lv_idiv hx hb dX9_turned_117 hne_84 ?_
                        refine lv_iadd hx hb dX9_turned_118 ?_
                        obtain ⟨hin_85, h⟩ := h
                        refine va_lald hx hb hK hP 0 1 rfl rfl hin_85 dX9_turned_119 ?_
                        refine lv_aload_n hx hb dX9_turned_120 rfl (lv_at hl 5 rfl) ?_
                        refine va_get (D := (dC, dI)) (ci := 8) (v := .ref q_a0_row) (C := RX9) (T := TX9) (N := 19) hx hb hts hin_X9 hown hK hP 1 rfl rfl 15 (by decide) hw_2 (fun _ h9 => h9) rfl dX9_turned_121 ?_
                        refine lv_iload hx hb dX9_turned_124 (lv_at hl 3 rfl) ?_
                        refine lv_iload hx hb dX9_turned_126 (lv_at hl 0 rfl) ?_
                        refine lv_iadd hx hb dX9_turned_128 ?_
                        obtain ⟨hin_86, h⟩ := h
                        refine va_lald hx hb hK hP 0 1 rfl rfl hin_86 dX9_turned_129 ?_
                        refine lv_lmul hx hb dX9_turned_130 ?_
                        refine lv_goto (tgt := 135) hx hb dX9_turned_131 (by decide) ?_
                        refine lv_ladd hx hb dX9_turned_135 ?_
                        refine lv_topl (fun x6_87 e_x6_87 => ?_)
                        replace h := h x6_87 e_x6_87
                        refine lv_lstore (lv' := [(6, .long x6_87), (8, .int l8_87_74), (5, .int l5_73_71), (4, .int x4_70), (2, .long x2_46), (0, .ref h_a0), (1, .int p1)]) hx hb dX9_turned_136 hl (by decide) rfl (fun ls hl => ?_)
                        obtain ⟨x8_88, e_x8_88⟩ : ∃ y : Int32, y = l8_87_74 + (1 : Int32) := ⟨_, rfl⟩
                        replace h := h x8_88 e_x8_88
                        refine lv_iinc (v := x8_88) (lv' := [(8, .int x8_88), (6, .long x6_87), (5, .int l5_73_71), (4, .int x4_70), (2, .long x2_46), (0, .ref h_a0), (1, .int p1)]) hx hb dX9_turned_138 hl (k := 1) rfl (by rw [e_x8_88]; rfl) (by decide) rfl (fun ls hl => ?_)
                        refine lv_goto (tgt := 87) hx hb dX9_turned_141 (by decide) ?_
                        exact ih_87_74 x8_88 x6_87 (Nat.lt_of_lt_of_le h.2 (Nat.le_of_lt_succ hm_87_74)) h.1 _ _ _ (lv_sub hl [0, 1, 2, 3, 4, 5, 6] rfl) (hP.sub [0, 1] rfl) (hD.sub [0, 1] (by decide) rfl) hS
                exact key_87_74 _ (1 : Int32) (0 : Int64) (Nat.lt_succ_self _) h0_87_74 _ _ _ (lv_sub hl [0, 1, 2, 3, 4, 5, 6] rfl) (hP.sub [0, 1] rfl) (hD.sub [0, 1] (by decide) rfl) hS
          exact key_73_71 _ (2 : Int32) (vp_updL a0_row (x4_70 + (1 : Int32)).toNatClampNeg x2_46) (Nat.lt_succ_self _) h0_73_71 _ _ _ (lv_sub hl [0, 1, 2, 3, 4] rfl) (hP.sub [0, 1] rfl) (hD.sub [0, 1] (by decide) rfl) hS
        · replace h := h.1 c_69
          refine lv_iconst (v := (-1 : Int32)) hx hb dX9_turned_48 (by decide) ?_
          have hP9 := hP.sub (ws' := [(h_a0, .inr (8, [.int a0_primes, w_a0_prime, w_a0_isNone, .int a0_hasSpan, .long a0_spanFrom, .int a0_spanMany, w_a0_least, w_a0_greatest, w_a0_isSquared, .int a0_hasPart, .long a0_parted, .int a0_partMany, w_a0_partPrime, w_a0_partPower, .int a0_rows, .ref q_a0_row, .long a0_foundLeast, .long a0_foundGreatest, .int a0_foundSquare])), (q_a0_row, .inl (cJ, 9616, .inr (.inl a0_row)))]) [1, 0] rfl
          have hD9 := hD.sub (ws' := [(h_a0, .inr (8, [.int a0_primes, w_a0_prime, w_a0_isNone, .int a0_hasSpan, .long a0_spanFrom, .int a0_spanMany, w_a0_least, w_a0_greatest, w_a0_isSquared, .int a0_hasPart, .long a0_parted, .int a0_partMany, w_a0_partPrime, w_a0_partPower, .int a0_rows, .ref q_a0_row, .long a0_foundLeast, .long a0_foundGreatest, .int a0_foundSquare])), (q_a0_row, .inl (cJ, 9616, .inr (.inl a0_row)))]) [1, 0] (by decide) rfl
          exact W.iret (v := (-1 : Int32)) hx hb hr (fun t ht hW => ⟨⟨_, (a0_rows, a0_row), rfl, h, by rw [ht]; exact hP9, hD9⟩, hS.F ht⟩) hS.2.2 dX9_turned_49
def wp_X9_clear (a0_rows : Int32)  (Q : Int32 → Prop) : Prop :=
  Q (0 : Int32)
abbrev rm_X9_clear : Room := { frames := 0, cells := 0, slots := 0, locals := 0 }
abbrev qc_X9_clear (dC : Nat → ClassId) (dI : Nat → Nat → Nat) (cI cJ cZ : ClassId) (h_a0 : Nat) (a0_primes : Int32) (w_a0_prime : Value) (w_a0_isNone : Value) (a0_hasSpan : Int32) (a0_spanFrom : Int64) (a0_spanMany : Int32) (w_a0_least : Value) (w_a0_greatest : Value) (w_a0_isSquared : Value) (a0_hasPart : Int32) (a0_parted : Int64) (a0_partMany : Int32) (w_a0_partPrime : Value) (w_a0_partPower : Value) (a0_rows : Int32) (w_a0_row : Value) (a0_foundLeast : Int64) (a0_foundGreatest : Int64) (a0_foundSquare : Int32) (Q : Int32 → Prop) (A : Nat → Prop) : Array Value → State → Outcome → State → Prop := va_Qv (fun (u : Int32) => Q u) (post_ dC dI A (fun (u : Int32) => [(h_a0, .inr (8, [.int a0_primes, w_a0_prime, w_a0_isNone, .int a0_hasSpan, .long a0_spanFrom, .int a0_spanMany, w_a0_least, w_a0_greatest, w_a0_isSquared, .int a0_hasPart, .long a0_parted, .int a0_partMany, w_a0_partPrime, w_a0_partPower, .int u, w_a0_row, .long a0_foundLeast, .long a0_foundGreatest, .int a0_foundSquare]))])) A
set_option maxHeartbeats 4000000 in
set_option maxRecDepth 100000 in
theorem c_X9_clear (l : Launch) (dC : Nat → ClassId) (dI : Nat → Nat → Nat) (cI cJ cZ : ClassId) (sz : Nat) (h_a0 : Nat) (a0_primes : Int32) (w_a0_prime : Value) (w_a0_isNone : Value) (a0_hasSpan : Int32) (a0_spanFrom : Int64) (a0_spanMany : Int32) (w_a0_least : Value) (w_a0_greatest : Value) (w_a0_isSquared : Value) (a0_hasPart : Int32) (a0_parted : Int64) (a0_partMany : Int32) (w_a0_partPrime : Value) (w_a0_partPower : Value) (a0_rows : Int32) (w_a0_row : Value) (a0_foundLeast : Int64) (a0_foundGreatest : Int64) (a0_foundSquare : Int32)  (Q : Int32 → Prop) (hQ : wp_X9_clear a0_rows Q) : Met l yX9_clear wsX9_clear rm_X9_clear (pre_ dC dI cI cJ cZ [.ref h_a0] [(h_a0, .inr (8, [.int a0_primes, w_a0_prime, w_a0_isNone, .int a0_hasSpan, .long a0_spanFrom, .int a0_spanMany, w_a0_least, w_a0_greatest, w_a0_isSquared, .int a0_hasPart, .long a0_parted, .int a0_partMany, w_a0_partPrime, w_a0_partPower, .int a0_rows, w_a0_row, .long a0_foundLeast, .long a0_foundGreatest, .int a0_foundSquare]))] sz) (qc_X9_clear dC dI cI cJ cZ h_a0 a0_primes w_a0_prime w_a0_isNone a0_hasSpan a0_spanFrom a0_spanMany w_a0_least w_a0_greatest w_a0_isSquared a0_hasPart a0_parted a0_partMany w_a0_partPrime w_a0_partPower a0_rows w_a0_row a0_foundLeast a0_foundGreatest a0_foundSquare Q (va_A [(h_a0, .inr (8, [.int a0_primes, w_a0_prime, w_a0_isNone, .int a0_hasSpan, .long a0_spanFrom, .int a0_spanMany, w_a0_least, w_a0_greatest, w_a0_isSquared, .int a0_hasPart, .long a0_parted, .int a0_partMany, w_a0_partPrime, w_a0_partPower, .int a0_rows, w_a0_row, .long a0_foundLeast, .long a0_foundGreatest, .int a0_foundSquare]))] sz)) 0 0 (va_A [(h_a0, .inr (8, [.int a0_primes, w_a0_prime, w_a0_isNone, .int a0_hasSpan, .long a0_spanFrom, .int a0_spanMany, w_a0_least, w_a0_greatest, w_a0_isSquared, .int a0_hasPart, .long a0_parted, .int a0_partMany, w_a0_partPrime, w_a0_partPower, .int a0_rows, w_a0_row, .long a0_foundLeast, .long a0_foundGreatest, .int a0_foundSquare]))] sz) := by
  refine Met.ofW (cc := cX9_clear) (maxL := 1) (ret := none) (by decide) rfl ?_
  intro p e s m args below meth c s₁ B hml hv
  obtain ⟨rfl, hsz, hP, hK, hN, hD0⟩ := hv
  have hx := B.exec
  have hb := B.bytes
  have hr := B.returns
  have hts := atoms_spec (ws := wsX9_clear) B.pre
  have hown : s.vm.findClass RX9 = some m.cls := findClass_of_methodNamed B.named
  subst hsz
  have hD := hD0.self (sz := s.heap.size)
  generalize hAe : va_A [(h_a0, .inr (8, [.int a0_primes, w_a0_prime, w_a0_isNone, .int a0_hasSpan, .long a0_spanFrom, .int a0_spanMany, w_a0_least, w_a0_greatest, w_a0_isSquared, .int a0_hasPart, .long a0_parted, .int a0_partMany, w_a0_partPrime, w_a0_partPower, .int a0_rows, w_a0_row, .long a0_foundLeast, .long a0_foundGreatest, .int a0_foundSquare]))] s.heap.size = A at hD ⊢
  have hA : ∀ q : Nat, s.heap.size ≤ q → A q := fun q h => by rw [← hAe]; exact Or.inr h
  have hS : va_S A s.heap s.heap [] := va_S.rf
  have hl := lv_entry ([.ref h_a0]) (n := 1) (Nat.le_of_ble_eq_true rfl)
  rw [lg_entry_eq]
  generalize (lg_sl ([.ref h_a0]) ++ List.replicate (1 - (lg_sl ([.ref h_a0])).length) Slot.unset).toArray = ls at hl ⊢
  have hl : lv_has ls 1 [(0, .ref h_a0)] := hl
  have h := hQ
  unfold wp_X9_clear at h
  have hw_0 := hts (.fieldLink RX9 112 "NumberSievesModel" "rows" "I") (by decide +kernel)
  have hin_X9 : ∀ w ∈ wsX90, w ∈ wsX9_clear := by decide +kernel
  refine lv_aload_n hx hb dX9_clear_0 rfl (lv_at hl 0 rfl) ?_
  refine lv_iconst (v := (0 : Int32)) hx hb dX9_clear_1 (by decide) ?_
  refine va_put (D := (dC, dI)) (ci := 8) (v := .int (0 : Int32)) (ty := .int) (C := RX9) (T := TX9) (N := 19) hx hb hts hin_X9 tyX9 tyX9_ok nmX9 hown hK hP hD hS 0 rfl rfl 14 (by decide) hw_0 (fun _ h9 => h9) rfl (by decide +kernel) rfl rfl (Nat.le_of_ble_eq_true rfl) dX9_clear_2 (fun H locs hP hD hS => ?_)
  have hP : va_P (dC, dI) vwCl [(h_a0, .inr (8, [.int a0_primes, w_a0_prime, w_a0_isNone, .int a0_hasSpan, .long a0_spanFrom, .int a0_spanMany, w_a0_least, w_a0_greatest, w_a0_isSquared, .int a0_hasPart, .long a0_parted, .int a0_partMany, w_a0_partPrime, w_a0_partPower, .int (0 : Int32), w_a0_row, .long a0_foundLeast, .long a0_foundGreatest, .int a0_foundSquare]))] H := hP
  have hD : va_D A [(h_a0, .inr (8, [.int a0_primes, w_a0_prime, w_a0_isNone, .int a0_hasSpan, .long a0_spanFrom, .int a0_spanMany, w_a0_least, w_a0_greatest, w_a0_isSquared, .int a0_hasPart, .long a0_parted, .int a0_partMany, w_a0_partPrime, w_a0_partPower, .int (0 : Int32), w_a0_row, .long a0_foundLeast, .long a0_foundGreatest, .int a0_foundSquare]))] := hD
  have hP9 := hP.sub (ws' := [(h_a0, .inr (8, [.int a0_primes, w_a0_prime, w_a0_isNone, .int a0_hasSpan, .long a0_spanFrom, .int a0_spanMany, w_a0_least, w_a0_greatest, w_a0_isSquared, .int a0_hasPart, .long a0_parted, .int a0_partMany, w_a0_partPrime, w_a0_partPower, .int (0 : Int32), w_a0_row, .long a0_foundLeast, .long a0_foundGreatest, .int a0_foundSquare]))]) [0] rfl
  have hD9 := hD.sub (ws' := [(h_a0, .inr (8, [.int a0_primes, w_a0_prime, w_a0_isNone, .int a0_hasSpan, .long a0_spanFrom, .int a0_spanMany, w_a0_least, w_a0_greatest, w_a0_isSquared, .int a0_hasPart, .long a0_parted, .int a0_partMany, w_a0_partPrime, w_a0_partPower, .int (0 : Int32), w_a0_row, .long a0_foundLeast, .long a0_foundGreatest, .int a0_foundSquare]))]) [0] (by decide) rfl
  exact W.vret hx hb hr (fun t ht hW => ⟨⟨(0 : Int32), rfl, h, by rw [ht]; exact hP9, hD9⟩, hS.F ht⟩) hS.2.2 dX9_clear_5
def wp_X9_at (a0_rows : Int32) (a0_row : Nat → Int64) (p1 : Int32) (p2 : Int32) (Q : Int64 → Prop) : Prop :=
  wp_X9_isRow a0_rows p1 (fun r_1 => ((r_1 = (0 : Int32) → Q (0 : Int64)) ∧ (¬ r_1 = (0 : Int32) → wp_X9_in (p2.toInt64) (1 : Int64) (600 : Int64) (fun r_3 => ((r_3 = (0 : Int32) → Q (0 : Int64)) ∧ (¬ r_3 = (0 : Int32) → (vp_in (((601 : Int32) * p1) + p2) 9616 ∧ Q (a0_row (((601 : Int32) * p1) + p2).toNatClampNeg))))))))
abbrev rm_X9_at : Room := { frames := 2, cells := 0, slots := 0, locals := 46 }
abbrev qc_X9_at (dC : Nat → ClassId) (dI : Nat → Nat → Nat) (cI cJ cZ : ClassId) (h_a0 : Nat) (a0_primes : Int32) (w_a0_prime : Value) (w_a0_isNone : Value) (a0_hasSpan : Int32) (a0_spanFrom : Int64) (a0_spanMany : Int32) (w_a0_least : Value) (w_a0_greatest : Value) (w_a0_isSquared : Value) (a0_hasPart : Int32) (a0_parted : Int64) (a0_partMany : Int32) (w_a0_partPrime : Value) (w_a0_partPower : Value) (a0_rows : Int32) (a0_row : Nat → Int64) (q_a0_row : Nat) (a0_foundLeast : Int64) (a0_foundGreatest : Int64) (a0_foundSquare : Int32) (Q : Int64 → Prop) (A : Nat → Prop) : Array Value → State → Outcome → State → Prop := va_Ql (fun (r : Int64) (_ : Unit) => Q r) (post_ dC dI A (fun (u : Unit) => [(h_a0, .inr (8, [.int a0_primes, w_a0_prime, w_a0_isNone, .int a0_hasSpan, .long a0_spanFrom, .int a0_spanMany, w_a0_least, w_a0_greatest, w_a0_isSquared, .int a0_hasPart, .long a0_parted, .int a0_partMany, w_a0_partPrime, w_a0_partPower, .int a0_rows, .ref q_a0_row, .long a0_foundLeast, .long a0_foundGreatest, .int a0_foundSquare])), (q_a0_row, .inl (cJ, 9616, .inr (.inl a0_row)))])) A
set_option maxHeartbeats 4000000 in
set_option maxRecDepth 100000 in
theorem c_X9_at (l : Launch) (dC : Nat → ClassId) (dI : Nat → Nat → Nat) (cI cJ cZ : ClassId) (sz : Nat) (h_a0 : Nat) (a0_primes : Int32) (w_a0_prime : Value) (w_a0_isNone : Value) (a0_hasSpan : Int32) (a0_spanFrom : Int64) (a0_spanMany : Int32) (w_a0_least : Value) (w_a0_greatest : Value) (w_a0_isSquared : Value) (a0_hasPart : Int32) (a0_parted : Int64) (a0_partMany : Int32) (w_a0_partPrime : Value) (w_a0_partPower : Value) (a0_rows : Int32) (a0_row : Nat → Int64) (q_a0_row : Nat) (a0_foundLeast : Int64) (a0_foundGreatest : Int64) (a0_foundSquare : Int32) (p1 : Int32) (p2 : Int32) (Q : Int64 → Prop) (hQ : wp_X9_at a0_rows a0_row p1 p2 Q) : Met l yX9_at wsX9_at rm_X9_at (pre_ dC dI cI cJ cZ [.ref h_a0, .int p1, .int p2] [(h_a0, .inr (8, [.int a0_primes, w_a0_prime, w_a0_isNone, .int a0_hasSpan, .long a0_spanFrom, .int a0_spanMany, w_a0_least, w_a0_greatest, w_a0_isSquared, .int a0_hasPart, .long a0_parted, .int a0_partMany, w_a0_partPrime, w_a0_partPower, .int a0_rows, .ref q_a0_row, .long a0_foundLeast, .long a0_foundGreatest, .int a0_foundSquare])), (q_a0_row, .inl (cJ, 9616, .inr (.inl a0_row)))] sz) (qc_X9_at dC dI cI cJ cZ h_a0 a0_primes w_a0_prime w_a0_isNone a0_hasSpan a0_spanFrom a0_spanMany w_a0_least w_a0_greatest w_a0_isSquared a0_hasPart a0_parted a0_partMany w_a0_partPrime w_a0_partPower a0_rows a0_row q_a0_row a0_foundLeast a0_foundGreatest a0_foundSquare Q (va_A [(h_a0, .inr (8, [.int a0_primes, w_a0_prime, w_a0_isNone, .int a0_hasSpan, .long a0_spanFrom, .int a0_spanMany, w_a0_least, w_a0_greatest, w_a0_isSquared, .int a0_hasPart, .long a0_parted, .int a0_partMany, w_a0_partPrime, w_a0_partPower, .int a0_rows, .ref q_a0_row, .long a0_foundLeast, .long a0_foundGreatest, .int a0_foundSquare])), (q_a0_row, .inl (cJ, 9616, .inr (.inl a0_row)))] sz)) 0 0 (va_A [(h_a0, .inr (8, [.int a0_primes, w_a0_prime, w_a0_isNone, .int a0_hasSpan, .long a0_spanFrom, .int a0_spanMany, w_a0_least, w_a0_greatest, w_a0_isSquared, .int a0_hasPart, .long a0_parted, .int a0_partMany, w_a0_partPrime, w_a0_partPower, .int a0_rows, .ref q_a0_row, .long a0_foundLeast, .long a0_foundGreatest, .int a0_foundSquare])), (q_a0_row, .inl (cJ, 9616, .inr (.inl a0_row)))] sz) := by
  refine Met.ofW (cc := cX9_at) (maxL := 3) (ret := (some .long)) (by decide) rfl ?_
  intro p e s m args below meth c s₁ B hml hv
  obtain ⟨rfl, hsz, hP, hK, hN, hD0⟩ := hv
  have hx := B.exec
  have hb := B.bytes
  have hr := B.returns
  have hts := atoms_spec (ws := wsX9_at) B.pre
  have hown : s.vm.findClass RX9 = some m.cls := findClass_of_methodNamed B.named
  subst hsz
  have hD := hD0.self (sz := s.heap.size)
  generalize hAe : va_A [(h_a0, .inr (8, [.int a0_primes, w_a0_prime, w_a0_isNone, .int a0_hasSpan, .long a0_spanFrom, .int a0_spanMany, w_a0_least, w_a0_greatest, w_a0_isSquared, .int a0_hasPart, .long a0_parted, .int a0_partMany, w_a0_partPrime, w_a0_partPower, .int a0_rows, .ref q_a0_row, .long a0_foundLeast, .long a0_foundGreatest, .int a0_foundSquare])), (q_a0_row, .inl (cJ, 9616, .inr (.inl a0_row)))] s.heap.size = A at hD ⊢
  have hA : ∀ q : Nat, s.heap.size ≤ q → A q := fun q h => by rw [← hAe]; exact Or.inr h
  have hS : va_S A s.heap s.heap [] := va_S.rf
  have hl := lv_entry ([.ref h_a0, .int p1, .int p2]) (n := 3) (Nat.le_of_ble_eq_true rfl)
  rw [lg_entry_eq]
  generalize (lg_sl ([.ref h_a0, .int p1, .int p2]) ++ List.replicate (3 - (lg_sl ([.ref h_a0, .int p1, .int p2])).length) Slot.unset).toArray = ls at hl ⊢
  have hl : lv_has ls 3 [(0, .ref h_a0), (1, .int p1), (2, .int p2)] := hl
  have h := hQ
  unfold wp_X9_at at h
  have hw_0 := hts (.constantLong RX9 132 (600)) (by decide +kernel)
  have hw_1 := hts (.fieldLink RX9 34 "NumberSievesModel" "row" "[J") (by decide +kernel)
  have hin_X9 : ∀ w ∈ wsX90, w ∈ wsX9_at := by decide +kernel
  refine lv_aload_n hx hb dX9_at_0 rfl (lv_at hl 0 rfl) ?_
  refine lv_iload_n hx hb dX9_at_1 rfl (lv_at hl 1 rfl) ?_
  have hPc := hP.sub (ws' := [(h_a0, .inr (8, [.int a0_primes, w_a0_prime, w_a0_isNone, .int a0_hasSpan, .long a0_spanFrom, .int a0_spanMany, w_a0_least, w_a0_greatest, w_a0_isSquared, .int a0_hasPart, .long a0_parted, .int a0_partMany, w_a0_partPrime, w_a0_partPower, .int a0_rows, .ref q_a0_row, .long a0_foundLeast, .long a0_foundGreatest, .int a0_foundSquare]))]) [0] rfl
  have hDc := hD.sub (ws' := [(h_a0, .inr (8, [.int a0_primes, w_a0_prime, w_a0_isNone, .int a0_hasSpan, .long a0_spanFrom, .int a0_spanMany, w_a0_least, w_a0_greatest, w_a0_isSquared, .int a0_hasPart, .long a0_parted, .int a0_partMany, w_a0_partPrime, w_a0_partPower, .int a0_rows, .ref q_a0_row, .long a0_foundLeast, .long a0_foundGreatest, .int a0_foundSquare]))]) [0] (by decide) rfl
  have hFc := va_free (wc := [(h_a0, .inr (8, [.int a0_primes, w_a0_prime, w_a0_isNone, .int a0_hasSpan, .long a0_spanFrom, .int a0_spanMany, w_a0_least, w_a0_greatest, w_a0_isSquared, .int a0_hasPart, .long a0_parted, .int a0_partMany, w_a0_partPrime, w_a0_partPower, .int a0_rows, .ref q_a0_row, .long a0_foundLeast, .long a0_foundGreatest, .int a0_foundSquare]))]) hD hS hA [0] rfl
  refine va_calli (va_runV (As := [.int p1]) (rest := []) ⟨hx, hb, hml, hown, hts⟩ (c_X9_isRow l dC dI cI cJ cZ _ h_a0 a0_primes (w_a0_prime) (w_a0_isNone) a0_hasSpan a0_spanFrom a0_spanMany (w_a0_least) (w_a0_greatest) (w_a0_isSquared) a0_hasPart a0_parted a0_partMany (w_a0_partPrime) (w_a0_partPower) a0_rows (.ref q_a0_row) a0_foundLeast a0_foundGreatest a0_foundSquare p1 _ h) (cwV 1 hts gX9_at_X9_isRow rfl rfl rfl (by decide +kernel) ⟨Nat.le_of_ble_eq_true rfl, Nat.le_of_ble_eq_true rfl⟩) ⟨pre_fb, va_recv hK hPc (ci := 8) (q0 := 0) rfl rfl, pre_of hPc hDc hK hN⟩ rfl rfl hl.1 rfl (lv_room (Nat.le_of_ble_eq_true rfl)) dX9_at_2 ⟨by first | exact Nat.le_of_ble_eq_true rfl | exact Nat.le_refl _, by first | exact Nat.le_of_ble_eq_true rfl | exact Nat.le_refl _⟩) hS (fun q _ h => hFc q h) hFc (fun r_1 u t H1 locs ht hvm h hB hz1 hk1 hS => ?_)
  obtain ⟨hP1, hD1⟩ := hB
  rw [ht] at hP1
  try dsimp only at h
  obtain ⟨hP, hD⟩ := va_join (wr := [(q_a0_row, .inl (cJ, 9616, .inr (.inl a0_row)))]) (w1 := [(h_a0, .inr (8, [.int a0_primes, w_a0_prime, w_a0_isNone, .int a0_hasSpan, .long a0_spanFrom, .int a0_spanMany, w_a0_least, w_a0_greatest, w_a0_isSquared, .int a0_hasPart, .long a0_parted, .int a0_partMany, w_a0_partPrime, w_a0_partPower, .int a0_rows, .ref q_a0_row, .long a0_foundLeast, .long a0_foundGreatest, .int a0_foundSquare]))]) hP hD [0] [1] rfl rfl (by decide) (by decide) hk1 hFc hP1 hD1
  generalize H1 = H at hP hS ⊢
  have hP : va_P (dC, dI) vwCl [(q_a0_row, .inl (cJ, 9616, .inr (.inl a0_row))), (h_a0, .inr (8, [.int a0_primes, w_a0_prime, w_a0_isNone, .int a0_hasSpan, .long a0_spanFrom, .int a0_spanMany, w_a0_least, w_a0_greatest, w_a0_isSquared, .int a0_hasPart, .long a0_parted, .int a0_partMany, w_a0_partPrime, w_a0_partPower, .int a0_rows, .ref q_a0_row, .long a0_foundLeast, .long a0_foundGreatest, .int a0_foundSquare]))] H := hP
  have hD : va_D A [(q_a0_row, .inl (cJ, 9616, .inr (.inl a0_row))), (h_a0, .inr (8, [.int a0_primes, w_a0_prime, w_a0_isNone, .int a0_hasSpan, .long a0_spanFrom, .int a0_spanMany, w_a0_least, w_a0_greatest, w_a0_isSquared, .int a0_hasPart, .long a0_parted, .int a0_partMany, w_a0_partPrime, w_a0_partPower, .int a0_rows, .ref q_a0_row, .long a0_foundLeast, .long a0_foundGreatest, .int a0_foundSquare]))] := hD
  refine lv_if_eq (tgt := 35) hx hb dX9_at_5 (by decide) (fun c_2 => ?_) (fun c_2 => ?_)
  · replace h := h.1 c_2
    refine lv_lconst (v := (0 : Int64)) hx hb dX9_at_35 (by decide) ?_
    have hP9 := hP.sub (ws' := [(h_a0, .inr (8, [.int a0_primes, w_a0_prime, w_a0_isNone, .int a0_hasSpan, .long a0_spanFrom, .int a0_spanMany, w_a0_least, w_a0_greatest, w_a0_isSquared, .int a0_hasPart, .long a0_parted, .int a0_partMany, w_a0_partPrime, w_a0_partPower, .int a0_rows, .ref q_a0_row, .long a0_foundLeast, .long a0_foundGreatest, .int a0_foundSquare])), (q_a0_row, .inl (cJ, 9616, .inr (.inl a0_row)))]) [1, 0] rfl
    have hD9 := hD.sub (ws' := [(h_a0, .inr (8, [.int a0_primes, w_a0_prime, w_a0_isNone, .int a0_hasSpan, .long a0_spanFrom, .int a0_spanMany, w_a0_least, w_a0_greatest, w_a0_isSquared, .int a0_hasPart, .long a0_parted, .int a0_partMany, w_a0_partPrime, w_a0_partPower, .int a0_rows, .ref q_a0_row, .long a0_foundLeast, .long a0_foundGreatest, .int a0_foundSquare])), (q_a0_row, .inl (cJ, 9616, .inr (.inl a0_row)))]) [1, 0] (by decide) rfl
    exact W.lret (v := (0 : Int64)) hx hb hr (fun t ht hW => ⟨⟨_, (), rfl, h, by rw [ht]; exact hP9, hD9⟩, hS.F ht⟩) hS.2.2 dX9_at_36
  · replace h := h.2 c_2
    refine lv_iload_n hx hb dX9_at_8 rfl (lv_at hl 2 rfl) ?_
    refine lv_i2l hx hb dX9_at_9 rfl ?_
    refine lv_lconst (v := (1 : Int64)) hx hb dX9_at_10 (by decide) ?_
    refine lv_ldc2 hx hb hown hw_0 dX9_at_11 ?_
    have hPc := hP.sub (ws' := []) [] rfl
    have hDc := hD.sub (ws' := []) [] (by decide) rfl
    have hFc := va_free (wc := []) hD hS hA [] rfl
    refine va_calli (va_runS (As := [.long p2.toInt64, .long (1 : Int64), .long (600 : Int64)]) (rest := []) ⟨hx, hb, hml, hown, hts⟩ (c_X9_in l dC dI cI cJ cZ _ (p2.toInt64) (1 : Int64) (600 : Int64) _ h) (va_cwS 3 hts gX9_at_X9_in rfl rfl rfl (by decide +kernel) ⟨Nat.le_of_ble_eq_true rfl, Nat.le_of_ble_eq_true rfl⟩) ⟨pre_fb, pre_of hPc hDc hK hN⟩ rfl rfl hl.1 rfl (lv_room (Nat.le_of_ble_eq_true rfl)) dX9_at_14 ⟨by first | exact Nat.le_of_ble_eq_true rfl | exact Nat.le_refl _, by first | exact Nat.le_of_ble_eq_true rfl | exact Nat.le_refl _⟩) hS (fun q _ h => hFc q h) hFc (fun r_3 u t H1 locs ht hvm h hB hz1 hk1 hS => ?_)
    obtain ⟨hP1, hD1⟩ := hB
    rw [ht] at hP1
    try dsimp only at h
    obtain ⟨hP, hD⟩ := va_join (wr := [(q_a0_row, .inl (cJ, 9616, .inr (.inl a0_row))), (h_a0, .inr (8, [.int a0_primes, w_a0_prime, w_a0_isNone, .int a0_hasSpan, .long a0_spanFrom, .int a0_spanMany, w_a0_least, w_a0_greatest, w_a0_isSquared, .int a0_hasPart, .long a0_parted, .int a0_partMany, w_a0_partPrime, w_a0_partPower, .int a0_rows, .ref q_a0_row, .long a0_foundLeast, .long a0_foundGreatest, .int a0_foundSquare]))]) (w1 := []) hP hD [] [0, 1] rfl rfl (by decide) (by decide) hk1 hFc hP1 hD1
    generalize H1 = H at hP hS ⊢
    have hP : va_P (dC, dI) vwCl [(q_a0_row, .inl (cJ, 9616, .inr (.inl a0_row))), (h_a0, .inr (8, [.int a0_primes, w_a0_prime, w_a0_isNone, .int a0_hasSpan, .long a0_spanFrom, .int a0_spanMany, w_a0_least, w_a0_greatest, w_a0_isSquared, .int a0_hasPart, .long a0_parted, .int a0_partMany, w_a0_partPrime, w_a0_partPower, .int a0_rows, .ref q_a0_row, .long a0_foundLeast, .long a0_foundGreatest, .int a0_foundSquare]))] H := hP
    have hD : va_D A [(q_a0_row, .inl (cJ, 9616, .inr (.inl a0_row))), (h_a0, .inr (8, [.int a0_primes, w_a0_prime, w_a0_isNone, .int a0_hasSpan, .long a0_spanFrom, .int a0_spanMany, w_a0_least, w_a0_greatest, w_a0_isSquared, .int a0_hasPart, .long a0_parted, .int a0_partMany, w_a0_partPrime, w_a0_partPower, .int a0_rows, .ref q_a0_row, .long a0_foundLeast, .long a0_foundGreatest, .int a0_foundSquare]))] := hD
    refine lv_if_eq (tgt := 35) hx hb dX9_at_17 (by decide) (fun c_4 => ?_) (fun c_4 => ?_)
    · replace h := h.1 c_4
      refine lv_lconst (v := (0 : Int64)) hx hb dX9_at_35 (by decide) ?_
      have hP9 := hP.sub (ws' := [(h_a0, .inr (8, [.int a0_primes, w_a0_prime, w_a0_isNone, .int a0_hasSpan, .long a0_spanFrom, .int a0_spanMany, w_a0_least, w_a0_greatest, w_a0_isSquared, .int a0_hasPart, .long a0_parted, .int a0_partMany, w_a0_partPrime, w_a0_partPower, .int a0_rows, .ref q_a0_row, .long a0_foundLeast, .long a0_foundGreatest, .int a0_foundSquare])), (q_a0_row, .inl (cJ, 9616, .inr (.inl a0_row)))]) [1, 0] rfl
      have hD9 := hD.sub (ws' := [(h_a0, .inr (8, [.int a0_primes, w_a0_prime, w_a0_isNone, .int a0_hasSpan, .long a0_spanFrom, .int a0_spanMany, w_a0_least, w_a0_greatest, w_a0_isSquared, .int a0_hasPart, .long a0_parted, .int a0_partMany, w_a0_partPrime, w_a0_partPower, .int a0_rows, .ref q_a0_row, .long a0_foundLeast, .long a0_foundGreatest, .int a0_foundSquare])), (q_a0_row, .inl (cJ, 9616, .inr (.inl a0_row)))]) [1, 0] (by decide) rfl
      exact W.lret (v := (0 : Int64)) hx hb hr (fun t ht hW => ⟨⟨_, (), rfl, h, by rw [ht]; exact hP9, hD9⟩, hS.F ht⟩) hS.2.2 dX9_at_36
    · replace h := h.2 c_4
      refine lv_aload_n hx hb dX9_at_20 rfl (lv_at hl 0 rfl) ?_
      refine va_get (D := (dC, dI)) (ci := 8) (v := .ref q_a0_row) (C := RX9) (T := TX9) (N := 19) hx hb hts hin_X9 hown hK hP 1 rfl rfl 15 (by decide) hw_1 (fun _ h9 => h9) rfl dX9_at_21 ?_
      refine lv_sipush (v := (601 : Int32)) hx hb dX9_at_24 (by decide) ?_
      refine lv_iload_n hx hb dX9_at_27 rfl (lv_at hl 1 rfl) ?_
      refine lv_imul hx hb dX9_at_28 ?_
      refine lv_iload_n hx hb dX9_at_29 rfl (lv_at hl 2 rfl) ?_
      refine lv_iadd hx hb dX9_at_30 ?_
      obtain ⟨hin_5, h⟩ := h
      refine va_lald hx hb hK hP 0 1 rfl rfl hin_5 dX9_at_31 ?_
      refine lv_goto (tgt := 36) hx hb dX9_at_32 (by decide) ?_
      have hP9 := hP.sub (ws' := [(h_a0, .inr (8, [.int a0_primes, w_a0_prime, w_a0_isNone, .int a0_hasSpan, .long a0_spanFrom, .int a0_spanMany, w_a0_least, w_a0_greatest, w_a0_isSquared, .int a0_hasPart, .long a0_parted, .int a0_partMany, w_a0_partPrime, w_a0_partPower, .int a0_rows, .ref q_a0_row, .long a0_foundLeast, .long a0_foundGreatest, .int a0_foundSquare])), (q_a0_row, .inl (cJ, 9616, .inr (.inl a0_row)))]) [1, 0] rfl
      have hD9 := hD.sub (ws' := [(h_a0, .inr (8, [.int a0_primes, w_a0_prime, w_a0_isNone, .int a0_hasSpan, .long a0_spanFrom, .int a0_spanMany, w_a0_least, w_a0_greatest, w_a0_isSquared, .int a0_hasPart, .long a0_parted, .int a0_partMany, w_a0_partPrime, w_a0_partPower, .int a0_rows, .ref q_a0_row, .long a0_foundLeast, .long a0_foundGreatest, .int a0_foundSquare])), (q_a0_row, .inl (cJ, 9616, .inr (.inl a0_row)))]) [1, 0] (by decide) rfl
      exact W.lret (v := (a0_row (((601 : Int32) * p1) + p2).toNatClampNeg)) hx hb hr (fun t ht hW => ⟨⟨_, (), rfl, h, by rw [ht]; exact hP9, hD9⟩, hS.F ht⟩) hS.2.2 dX9_at_36
def wp_X9_sumOf (a0_rows : Int32) (a0_row : Nat → Int64) (p1 : Int32) (p2 : Int32) (Q : Int64 → Prop) : Prop :=
  (∃ (I_5_0 : Int32 → Int64 → Prop) (m_5_0 : Int32 → Int64 → Nat), I_5_0 (1 : Int32) (0 : Int64) ∧ ∀ (l5_5_0 : Int32) (l3_5_0 : Int64), I_5_0 l5_5_0 l3_5_0 → ((p2 < l5_5_0 → Q l3_5_0) ∧ (¬ p2 < l5_5_0 → wp_X9_isRow a0_rows p1 (fun r_3 => ((r_3 = (0 : Int32) → Q l3_5_0) ∧ (¬ r_3 = (0 : Int32) → wp_X9_in (p2.toInt64) (0 : Int64) (600 : Int64) (fun r_5 => ((r_5 = (0 : Int32) → Q l3_5_0) ∧ (¬ r_5 = (0 : Int32) → (vp_in (((601 : Int32) * p1) + l5_5_0) 9616 ∧ (∀ x3_8 : Int64, x3_8 = (l3_5_0 + (a0_row (((601 : Int32) * p1) + l5_5_0).toNatClampNeg)) → (∀ x5_9 : Int32, x5_9 = l5_5_0 + (1 : Int32) → (I_5_0 x5_9 x3_8 ∧ m_5_0 x5_9 x3_8 < m_5_0 l5_5_0 l3_5_0)))))))))))))
abbrev rm_X9_sumOf : Room := { frames := 2, cells := 0, slots := 0, locals := 46 }
abbrev qc_X9_sumOf (dC : Nat → ClassId) (dI : Nat → Nat → Nat) (cI cJ cZ : ClassId) (h_a0 : Nat) (a0_primes : Int32) (w_a0_prime : Value) (w_a0_isNone : Value) (a0_hasSpan : Int32) (a0_spanFrom : Int64) (a0_spanMany : Int32) (w_a0_least : Value) (w_a0_greatest : Value) (w_a0_isSquared : Value) (a0_hasPart : Int32) (a0_parted : Int64) (a0_partMany : Int32) (w_a0_partPrime : Value) (w_a0_partPower : Value) (a0_rows : Int32) (a0_row : Nat → Int64) (q_a0_row : Nat) (a0_foundLeast : Int64) (a0_foundGreatest : Int64) (a0_foundSquare : Int32) (Q : Int64 → Prop) (A : Nat → Prop) : Array Value → State → Outcome → State → Prop := va_Ql (fun (r : Int64) (_ : Unit) => Q r) (post_ dC dI A (fun (u : Unit) => [(h_a0, .inr (8, [.int a0_primes, w_a0_prime, w_a0_isNone, .int a0_hasSpan, .long a0_spanFrom, .int a0_spanMany, w_a0_least, w_a0_greatest, w_a0_isSquared, .int a0_hasPart, .long a0_parted, .int a0_partMany, w_a0_partPrime, w_a0_partPower, .int a0_rows, .ref q_a0_row, .long a0_foundLeast, .long a0_foundGreatest, .int a0_foundSquare])), (q_a0_row, .inl (cJ, 9616, .inr (.inl a0_row)))])) A
set_option maxHeartbeats 4000000 in
set_option maxRecDepth 100000 in
theorem c_X9_sumOf (l : Launch) (dC : Nat → ClassId) (dI : Nat → Nat → Nat) (cI cJ cZ : ClassId) (sz : Nat) (h_a0 : Nat) (a0_primes : Int32) (w_a0_prime : Value) (w_a0_isNone : Value) (a0_hasSpan : Int32) (a0_spanFrom : Int64) (a0_spanMany : Int32) (w_a0_least : Value) (w_a0_greatest : Value) (w_a0_isSquared : Value) (a0_hasPart : Int32) (a0_parted : Int64) (a0_partMany : Int32) (w_a0_partPrime : Value) (w_a0_partPower : Value) (a0_rows : Int32) (a0_row : Nat → Int64) (q_a0_row : Nat) (a0_foundLeast : Int64) (a0_foundGreatest : Int64) (a0_foundSquare : Int32) (p1 : Int32) (p2 : Int32) (Q : Int64 → Prop) (hQ : wp_X9_sumOf a0_rows a0_row p1 p2 Q) : Met l yX9_sumOf wsX9_sumOf rm_X9_sumOf (pre_ dC dI cI cJ cZ [.ref h_a0, .int p1, .int p2] [(h_a0, .inr (8, [.int a0_primes, w_a0_prime, w_a0_isNone, .int a0_hasSpan, .long a0_spanFrom, .int a0_spanMany, w_a0_least, w_a0_greatest, w_a0_isSquared, .int a0_hasPart, .long a0_parted, .int a0_partMany, w_a0_partPrime, w_a0_partPower, .int a0_rows, .ref q_a0_row, .long a0_foundLeast, .long a0_foundGreatest, .int a0_foundSquare])), (q_a0_row, .inl (cJ, 9616, .inr (.inl a0_row)))] sz) (qc_X9_sumOf dC dI cI cJ cZ h_a0 a0_primes w_a0_prime w_a0_isNone a0_hasSpan a0_spanFrom a0_spanMany w_a0_least w_a0_greatest w_a0_isSquared a0_hasPart a0_parted a0_partMany w_a0_partPrime w_a0_partPower a0_rows a0_row q_a0_row a0_foundLeast a0_foundGreatest a0_foundSquare Q (va_A [(h_a0, .inr (8, [.int a0_primes, w_a0_prime, w_a0_isNone, .int a0_hasSpan, .long a0_spanFrom, .int a0_spanMany, w_a0_least, w_a0_greatest, w_a0_isSquared, .int a0_hasPart, .long a0_parted, .int a0_partMany, w_a0_partPrime, w_a0_partPower, .int a0_rows, .ref q_a0_row, .long a0_foundLeast, .long a0_foundGreatest, .int a0_foundSquare])), (q_a0_row, .inl (cJ, 9616, .inr (.inl a0_row)))] sz)) 0 0 (va_A [(h_a0, .inr (8, [.int a0_primes, w_a0_prime, w_a0_isNone, .int a0_hasSpan, .long a0_spanFrom, .int a0_spanMany, w_a0_least, w_a0_greatest, w_a0_isSquared, .int a0_hasPart, .long a0_parted, .int a0_partMany, w_a0_partPrime, w_a0_partPower, .int a0_rows, .ref q_a0_row, .long a0_foundLeast, .long a0_foundGreatest, .int a0_foundSquare])), (q_a0_row, .inl (cJ, 9616, .inr (.inl a0_row)))] sz) := by
  refine Met.ofW (cc := cX9_sumOf) (maxL := 6) (ret := (some .long)) (by decide) rfl ?_
  intro p e s m args below meth c s₁ B hml hv
  obtain ⟨rfl, hsz, hP, hK, hN, hD0⟩ := hv
  have hx := B.exec
  have hb := B.bytes
  have hr := B.returns
  have hts := atoms_spec (ws := wsX9_sumOf) B.pre
  have hown : s.vm.findClass RX9 = some m.cls := findClass_of_methodNamed B.named
  subst hsz
  have hD := hD0.self (sz := s.heap.size)
  generalize hAe : va_A [(h_a0, .inr (8, [.int a0_primes, w_a0_prime, w_a0_isNone, .int a0_hasSpan, .long a0_spanFrom, .int a0_spanMany, w_a0_least, w_a0_greatest, w_a0_isSquared, .int a0_hasPart, .long a0_parted, .int a0_partMany, w_a0_partPrime, w_a0_partPower, .int a0_rows, .ref q_a0_row, .long a0_foundLeast, .long a0_foundGreatest, .int a0_foundSquare])), (q_a0_row, .inl (cJ, 9616, .inr (.inl a0_row)))] s.heap.size = A at hD ⊢
  have hA : ∀ q : Nat, s.heap.size ≤ q → A q := fun q h => by rw [← hAe]; exact Or.inr h
  have hS : va_S A s.heap s.heap [] := va_S.rf
  have hl := lv_entry ([.ref h_a0, .int p1, .int p2]) (n := 6) (Nat.le_of_ble_eq_true rfl)
  rw [lg_entry_eq]
  generalize (lg_sl ([.ref h_a0, .int p1, .int p2]) ++ List.replicate (6 - (lg_sl ([.ref h_a0, .int p1, .int p2])).length) Slot.unset).toArray = ls at hl ⊢
  have hl : lv_has ls 6 [(0, .ref h_a0), (1, .int p1), (2, .int p2)] := hl
  have h := hQ
  unfold wp_X9_sumOf at h
  have hw_0 := hts (.constantLong RX9 132 (600)) (by decide +kernel)
  have hw_1 := hts (.fieldLink RX9 34 "NumberSievesModel" "row" "[J") (by decide +kernel)
  have hin_X9 : ∀ w ∈ wsX90, w ∈ wsX9_sumOf := by decide +kernel
  refine lv_lconst (v := (0 : Int64)) hx hb dX9_sumOf_0 (by decide) ?_
  refine lv_lstore_n (lv' := [(3, .long (0 : Int64)), (0, .ref h_a0), (1, .int p1), (2, .int p2)]) hx hb dX9_sumOf_1 rfl hl (by decide) rfl (fun ls hl => ?_)
  refine lv_iconst (v := (1 : Int32)) hx hb dX9_sumOf_2 (by decide) ?_
  refine lv_istore (lv' := [(5, .int (1 : Int32)), (3, .long (0 : Int64)), (0, .ref h_a0), (1, .int p1), (2, .int p2)]) hx hb dX9_sumOf_3 hl (by decide) rfl (fun ls hl => ?_)
  obtain ⟨I_5_0, m_5_0, h0_5_0, hs_5_0⟩ := h
  have key_5_0 : ∀ (n : Nat) (l5_5_0 : Int32) (l3_5_0 : Int64), m_5_0 l5_5_0 l3_5_0 < n → I_5_0 l5_5_0 l3_5_0 → ∀ (ls : Array Slot) (H : Heap) (locs : List Loc), lv_has ls 6 [(5, .int l5_5_0), (3, .long l3_5_0), (0, .ref h_a0), (1, .int p1), (2, .int p2)] → va_P (dC, dI) vwCl [(h_a0, .inr (8, [.int a0_primes, w_a0_prime, w_a0_isNone, .int a0_hasSpan, .long a0_spanFrom, .int a0_spanMany, w_a0_least, w_a0_greatest, w_a0_isSquared, .int a0_hasPart, .long a0_parted, .int a0_partMany, w_a0_partPrime, w_a0_partPower, .int a0_rows, .ref q_a0_row, .long a0_foundLeast, .long a0_foundGreatest, .int a0_foundSquare])), (q_a0_row, .inl (cJ, 9616, .inr (.inl a0_row)))] H → va_D A [(h_a0, .inr (8, [.int a0_primes, w_a0_prime, w_a0_isNone, .int a0_hasSpan, .long a0_spanFrom, .int a0_spanMany, w_a0_least, w_a0_greatest, w_a0_isSquared, .int a0_hasPart, .long a0_parted, .int a0_partMany, w_a0_partPrime, w_a0_partPower, .int a0_rows, .ref q_a0_row, .long a0_foundLeast, .long a0_foundGreatest, .int a0_foundSquare])), (q_a0_row, .inl (cJ, 9616, .inr (.inl a0_row)))] → va_S A s.heap H locs → W p l e (headSpec wsX9_sumOf rm_X9_sumOf).room s m ([.ref h_a0, .int p1, .int p2] : List Value).toArray below meth c H locs 0 0 (MQ below (qc_X9_sumOf dC dI cI cJ cZ h_a0 a0_primes w_a0_prime w_a0_isNone a0_hasSpan a0_spanFrom a0_spanMany w_a0_least w_a0_greatest w_a0_isSquared a0_hasPart a0_parted a0_partMany w_a0_partPrime w_a0_partPower a0_rows a0_row q_a0_row a0_foundLeast a0_foundGreatest a0_foundSquare Q A) ([.ref h_a0, .int p1, .int p2] : List Value).toArray s 0 0 A) (F0 m 5 ls []) := by
    intro n
    induction n with
    | zero =>
      intro l5_5_0 l3_5_0 hm
      exact absurd hm (Nat.not_lt_zero _)
    | succ n ih_5_0 =>
      intro l5_5_0 l3_5_0 hm_5_0 hI ls H locs hl hP hD hS
      have h := hs_5_0 l5_5_0 l3_5_0 hI
      refine lv_iload hx hb dX9_sumOf_5 (lv_at hl 0 rfl) ?_
      refine lv_iload_n hx hb dX9_sumOf_7 rfl (lv_at hl 4 rfl) ?_
      refine lv_icmp_gt (tgt := 53) hx hb dX9_sumOf_8 (by decide) (fun c_2 => ?_) (fun c_2 => ?_)
      · replace h := h.1 c_2
        refine lv_lload_n hx hb dX9_sumOf_53 rfl (lv_at hl 1 rfl) ?_
        have hP9 := hP.sub (ws' := [(h_a0, .inr (8, [.int a0_primes, w_a0_prime, w_a0_isNone, .int a0_hasSpan, .long a0_spanFrom, .int a0_spanMany, w_a0_least, w_a0_greatest, w_a0_isSquared, .int a0_hasPart, .long a0_parted, .int a0_partMany, w_a0_partPrime, w_a0_partPower, .int a0_rows, .ref q_a0_row, .long a0_foundLeast, .long a0_foundGreatest, .int a0_foundSquare])), (q_a0_row, .inl (cJ, 9616, .inr (.inl a0_row)))]) [0, 1] rfl
        have hD9 := hD.sub (ws' := [(h_a0, .inr (8, [.int a0_primes, w_a0_prime, w_a0_isNone, .int a0_hasSpan, .long a0_spanFrom, .int a0_spanMany, w_a0_least, w_a0_greatest, w_a0_isSquared, .int a0_hasPart, .long a0_parted, .int a0_partMany, w_a0_partPrime, w_a0_partPower, .int a0_rows, .ref q_a0_row, .long a0_foundLeast, .long a0_foundGreatest, .int a0_foundSquare])), (q_a0_row, .inl (cJ, 9616, .inr (.inl a0_row)))]) [0, 1] (by decide) rfl
        exact W.lret (v := l3_5_0) hx hb hr (fun t ht hW => ⟨⟨_, (), rfl, h, by rw [ht]; exact hP9, hD9⟩, hS.F ht⟩) hS.2.2 dX9_sumOf_54
      · replace h := h.2 c_2
        refine lv_aload_n hx hb dX9_sumOf_11 rfl (lv_at hl 2 rfl) ?_
        refine lv_iload_n hx hb dX9_sumOf_12 rfl (lv_at hl 3 rfl) ?_
        have hPc := hP.sub (ws' := [(h_a0, .inr (8, [.int a0_primes, w_a0_prime, w_a0_isNone, .int a0_hasSpan, .long a0_spanFrom, .int a0_spanMany, w_a0_least, w_a0_greatest, w_a0_isSquared, .int a0_hasPart, .long a0_parted, .int a0_partMany, w_a0_partPrime, w_a0_partPower, .int a0_rows, .ref q_a0_row, .long a0_foundLeast, .long a0_foundGreatest, .int a0_foundSquare]))]) [0] rfl
        have hDc := hD.sub (ws' := [(h_a0, .inr (8, [.int a0_primes, w_a0_prime, w_a0_isNone, .int a0_hasSpan, .long a0_spanFrom, .int a0_spanMany, w_a0_least, w_a0_greatest, w_a0_isSquared, .int a0_hasPart, .long a0_parted, .int a0_partMany, w_a0_partPrime, w_a0_partPower, .int a0_rows, .ref q_a0_row, .long a0_foundLeast, .long a0_foundGreatest, .int a0_foundSquare]))]) [0] (by decide) rfl
        have hFc := va_free (wc := [(h_a0, .inr (8, [.int a0_primes, w_a0_prime, w_a0_isNone, .int a0_hasSpan, .long a0_spanFrom, .int a0_spanMany, w_a0_least, w_a0_greatest, w_a0_isSquared, .int a0_hasPart, .long a0_parted, .int a0_partMany, w_a0_partPrime, w_a0_partPower, .int a0_rows, .ref q_a0_row, .long a0_foundLeast, .long a0_foundGreatest, .int a0_foundSquare]))]) hD hS hA [0] rfl
        refine va_calli (va_runV (As := [.int p1]) (rest := []) ⟨hx, hb, hml, hown, hts⟩ (c_X9_isRow l dC dI cI cJ cZ _ h_a0 a0_primes (w_a0_prime) (w_a0_isNone) a0_hasSpan a0_spanFrom a0_spanMany (w_a0_least) (w_a0_greatest) (w_a0_isSquared) a0_hasPart a0_parted a0_partMany (w_a0_partPrime) (w_a0_partPower) a0_rows (.ref q_a0_row) a0_foundLeast a0_foundGreatest a0_foundSquare p1 _ h) (cwV 1 hts gX9_sumOf_X9_isRow rfl rfl rfl (by decide +kernel) ⟨Nat.le_of_ble_eq_true rfl, Nat.le_of_ble_eq_true rfl⟩) ⟨pre_fb, va_recv hK hPc (ci := 8) (q0 := 0) rfl rfl, pre_of hPc hDc hK hN⟩ rfl rfl hl.1 rfl (lv_room (Nat.le_of_ble_eq_true rfl)) dX9_sumOf_13 ⟨by first | exact Nat.le_of_ble_eq_true rfl | exact Nat.le_refl _, by first | exact Nat.le_of_ble_eq_true rfl | exact Nat.le_refl _⟩) hS (fun q _ h => hFc q h) hFc (fun r_3 u t H1 locs ht hvm h hB hz1 hk1 hS => ?_)
        obtain ⟨hP1, hD1⟩ := hB
        rw [ht] at hP1
        try dsimp only at h
        obtain ⟨hP, hD⟩ := va_join (wr := [(q_a0_row, .inl (cJ, 9616, .inr (.inl a0_row)))]) (w1 := [(h_a0, .inr (8, [.int a0_primes, w_a0_prime, w_a0_isNone, .int a0_hasSpan, .long a0_spanFrom, .int a0_spanMany, w_a0_least, w_a0_greatest, w_a0_isSquared, .int a0_hasPart, .long a0_parted, .int a0_partMany, w_a0_partPrime, w_a0_partPower, .int a0_rows, .ref q_a0_row, .long a0_foundLeast, .long a0_foundGreatest, .int a0_foundSquare]))]) hP hD [0] [1] rfl rfl (by decide) (by decide) hk1 hFc hP1 hD1
        generalize H1 = H at hP hS ⊢
        have hP : va_P (dC, dI) vwCl [(q_a0_row, .inl (cJ, 9616, .inr (.inl a0_row))), (h_a0, .inr (8, [.int a0_primes, w_a0_prime, w_a0_isNone, .int a0_hasSpan, .long a0_spanFrom, .int a0_spanMany, w_a0_least, w_a0_greatest, w_a0_isSquared, .int a0_hasPart, .long a0_parted, .int a0_partMany, w_a0_partPrime, w_a0_partPower, .int a0_rows, .ref q_a0_row, .long a0_foundLeast, .long a0_foundGreatest, .int a0_foundSquare]))] H := hP
        have hD : va_D A [(q_a0_row, .inl (cJ, 9616, .inr (.inl a0_row))), (h_a0, .inr (8, [.int a0_primes, w_a0_prime, w_a0_isNone, .int a0_hasSpan, .long a0_spanFrom, .int a0_spanMany, w_a0_least, w_a0_greatest, w_a0_isSquared, .int a0_hasPart, .long a0_parted, .int a0_partMany, w_a0_partPrime, w_a0_partPower, .int a0_rows, .ref q_a0_row, .long a0_foundLeast, .long a0_foundGreatest, .int a0_foundSquare]))] := hD
        refine lv_if_eq (tgt := 53) hx hb dX9_sumOf_16 (by decide) (fun c_4 => ?_) (fun c_4 => ?_)
        · replace h := h.1 c_4
          refine lv_lload_n hx hb dX9_sumOf_53 rfl (lv_at hl 1 rfl) ?_
          have hP9 := hP.sub (ws' := [(h_a0, .inr (8, [.int a0_primes, w_a0_prime, w_a0_isNone, .int a0_hasSpan, .long a0_spanFrom, .int a0_spanMany, w_a0_least, w_a0_greatest, w_a0_isSquared, .int a0_hasPart, .long a0_parted, .int a0_partMany, w_a0_partPrime, w_a0_partPower, .int a0_rows, .ref q_a0_row, .long a0_foundLeast, .long a0_foundGreatest, .int a0_foundSquare])), (q_a0_row, .inl (cJ, 9616, .inr (.inl a0_row)))]) [1, 0] rfl
          have hD9 := hD.sub (ws' := [(h_a0, .inr (8, [.int a0_primes, w_a0_prime, w_a0_isNone, .int a0_hasSpan, .long a0_spanFrom, .int a0_spanMany, w_a0_least, w_a0_greatest, w_a0_isSquared, .int a0_hasPart, .long a0_parted, .int a0_partMany, w_a0_partPrime, w_a0_partPower, .int a0_rows, .ref q_a0_row, .long a0_foundLeast, .long a0_foundGreatest, .int a0_foundSquare])), (q_a0_row, .inl (cJ, 9616, .inr (.inl a0_row)))]) [1, 0] (by decide) rfl
          exact W.lret (v := l3_5_0) hx hb hr (fun t ht hW => ⟨⟨_, (), rfl, h, by rw [ht]; exact hP9, hD9⟩, hS.F ht⟩) hS.2.2 dX9_sumOf_54
        · replace h := h.2 c_4
          refine lv_iload_n hx hb dX9_sumOf_19 rfl (lv_at hl 4 rfl) ?_
          refine lv_i2l hx hb dX9_sumOf_20 rfl ?_
          refine lv_lconst (v := (0 : Int64)) hx hb dX9_sumOf_21 (by decide) ?_
          refine lv_ldc2 hx hb hown hw_0 dX9_sumOf_22 ?_
          have hPc := hP.sub (ws' := []) [] rfl
          have hDc := hD.sub (ws' := []) [] (by decide) rfl
          have hFc := va_free (wc := []) hD hS hA [] rfl
          refine va_calli (va_runS (As := [.long p2.toInt64, .long (0 : Int64), .long (600 : Int64)]) (rest := []) ⟨hx, hb, hml, hown, hts⟩ (c_X9_in l dC dI cI cJ cZ _ (p2.toInt64) (0 : Int64) (600 : Int64) _ h) (va_cwS 3 hts gX9_sumOf_X9_in rfl rfl rfl (by decide +kernel) ⟨Nat.le_of_ble_eq_true rfl, Nat.le_of_ble_eq_true rfl⟩) ⟨pre_fb, pre_of hPc hDc hK hN⟩ rfl rfl hl.1 rfl (lv_room (Nat.le_of_ble_eq_true rfl)) dX9_sumOf_25 ⟨by first | exact Nat.le_of_ble_eq_true rfl | exact Nat.le_refl _, by first | exact Nat.le_of_ble_eq_true rfl | exact Nat.le_refl _⟩) hS (fun q _ h => hFc q h) hFc (fun r_5 u t H1 locs ht hvm h hB hz1 hk1 hS => ?_)
          obtain ⟨hP1, hD1⟩ := hB
          rw [ht] at hP1
          try dsimp only at h
          obtain ⟨hP, hD⟩ := va_join (wr := [(q_a0_row, .inl (cJ, 9616, .inr (.inl a0_row))), (h_a0, .inr (8, [.int a0_primes, w_a0_prime, w_a0_isNone, .int a0_hasSpan, .long a0_spanFrom, .int a0_spanMany, w_a0_least, w_a0_greatest, w_a0_isSquared, .int a0_hasPart, .long a0_parted, .int a0_partMany, w_a0_partPrime, w_a0_partPower, .int a0_rows, .ref q_a0_row, .long a0_foundLeast, .long a0_foundGreatest, .int a0_foundSquare]))]) (w1 := []) hP hD [] [0, 1] rfl rfl (by decide) (by decide) hk1 hFc hP1 hD1
          generalize H1 = H at hP hS ⊢
          have hP : va_P (dC, dI) vwCl [(q_a0_row, .inl (cJ, 9616, .inr (.inl a0_row))), (h_a0, .inr (8, [.int a0_primes, w_a0_prime, w_a0_isNone, .int a0_hasSpan, .long a0_spanFrom, .int a0_spanMany, w_a0_least, w_a0_greatest, w_a0_isSquared, .int a0_hasPart, .long a0_parted, .int a0_partMany, w_a0_partPrime, w_a0_partPower, .int a0_rows, .ref q_a0_row, .long a0_foundLeast, .long a0_foundGreatest, .int a0_foundSquare]))] H := hP
          have hD : va_D A [(q_a0_row, .inl (cJ, 9616, .inr (.inl a0_row))), (h_a0, .inr (8, [.int a0_primes, w_a0_prime, w_a0_isNone, .int a0_hasSpan, .long a0_spanFrom, .int a0_spanMany, w_a0_least, w_a0_greatest, w_a0_isSquared, .int a0_hasPart, .long a0_parted, .int a0_partMany, w_a0_partPrime, w_a0_partPower, .int a0_rows, .ref q_a0_row, .long a0_foundLeast, .long a0_foundGreatest, .int a0_foundSquare]))] := hD
          refine lv_if_eq (tgt := 53) hx hb dX9_sumOf_28 (by decide) (fun c_6 => ?_) (fun c_6 => ?_)
          · replace h := h.1 c_6
            refine lv_lload_n hx hb dX9_sumOf_53 rfl (lv_at hl 1 rfl) ?_
            have hP9 := hP.sub (ws' := [(h_a0, .inr (8, [.int a0_primes, w_a0_prime, w_a0_isNone, .int a0_hasSpan, .long a0_spanFrom, .int a0_spanMany, w_a0_least, w_a0_greatest, w_a0_isSquared, .int a0_hasPart, .long a0_parted, .int a0_partMany, w_a0_partPrime, w_a0_partPower, .int a0_rows, .ref q_a0_row, .long a0_foundLeast, .long a0_foundGreatest, .int a0_foundSquare])), (q_a0_row, .inl (cJ, 9616, .inr (.inl a0_row)))]) [1, 0] rfl
            have hD9 := hD.sub (ws' := [(h_a0, .inr (8, [.int a0_primes, w_a0_prime, w_a0_isNone, .int a0_hasSpan, .long a0_spanFrom, .int a0_spanMany, w_a0_least, w_a0_greatest, w_a0_isSquared, .int a0_hasPart, .long a0_parted, .int a0_partMany, w_a0_partPrime, w_a0_partPower, .int a0_rows, .ref q_a0_row, .long a0_foundLeast, .long a0_foundGreatest, .int a0_foundSquare])), (q_a0_row, .inl (cJ, 9616, .inr (.inl a0_row)))]) [1, 0] (by decide) rfl
            exact W.lret (v := l3_5_0) hx hb hr (fun t ht hW => ⟨⟨_, (), rfl, h, by rw [ht]; exact hP9, hD9⟩, hS.F ht⟩) hS.2.2 dX9_sumOf_54
          · replace h := h.2 c_6
            refine lv_lload_n hx hb dX9_sumOf_31 rfl (lv_at hl 1 rfl) ?_
            refine lv_aload_n hx hb dX9_sumOf_32 rfl (lv_at hl 2 rfl) ?_
            refine va_get (D := (dC, dI)) (ci := 8) (v := .ref q_a0_row) (C := RX9) (T := TX9) (N := 19) hx hb hts hin_X9 hown hK hP 1 rfl rfl 15 (by decide) hw_1 (fun _ h9 => h9) rfl dX9_sumOf_33 ?_
            refine lv_sipush (v := (601 : Int32)) hx hb dX9_sumOf_36 (by decide) ?_
            refine lv_iload_n hx hb dX9_sumOf_39 rfl (lv_at hl 3 rfl) ?_
            refine lv_imul hx hb dX9_sumOf_40 ?_
            refine lv_iload hx hb dX9_sumOf_41 (lv_at hl 0 rfl) ?_
            refine lv_iadd hx hb dX9_sumOf_43 ?_
            obtain ⟨hin_7, h⟩ := h
            refine va_lald hx hb hK hP 0 1 rfl rfl hin_7 dX9_sumOf_44 ?_
            refine lv_ladd hx hb dX9_sumOf_45 ?_
            refine lv_topl (fun x3_8 e_x3_8 => ?_)
            replace h := h x3_8 e_x3_8
            refine lv_lstore_n (lv' := [(3, .long x3_8), (5, .int l5_5_0), (0, .ref h_a0), (1, .int p1), (2, .int p2)]) hx hb dX9_sumOf_46 rfl hl (by decide) rfl (fun ls hl => ?_)
            obtain ⟨x5_9, e_x5_9⟩ : ∃ y : Int32, y = l5_5_0 + (1 : Int32) := ⟨_, rfl⟩
            replace h := h x5_9 e_x5_9
            refine lv_iinc (v := x5_9) (lv' := [(5, .int x5_9), (3, .long x3_8), (0, .ref h_a0), (1, .int p1), (2, .int p2)]) hx hb dX9_sumOf_47 hl (k := 1) rfl (by rw [e_x5_9]; rfl) (by decide) rfl (fun ls hl => ?_)
            refine lv_goto (tgt := 5) hx hb dX9_sumOf_50 (by decide) ?_
            exact ih_5_0 x5_9 x3_8 (Nat.lt_of_lt_of_le h.2 (Nat.le_of_lt_succ hm_5_0)) h.1 _ _ _ (lv_sub hl [0, 1, 2, 3, 4] rfl) (hP.sub [1, 0] rfl) (hD.sub [1, 0] (by decide) rfl) hS
  exact key_5_0 _ (1 : Int32) (0 : Int64) (Nat.lt_succ_self _) h0_5_0 _ _ _ (lv_sub hl [0, 1, 2, 3, 4] rfl) (hP.sub [0, 1] rfl) (hD.sub [0, 1] (by decide) rfl) hS
def wp_X9_same (a0_rows : Int32) (a0_row : Nat → Int64) (p1 : Int32) (p2 : Int32) (Q : Int32 → Prop) : Prop :=
  wp_X9_isRow a0_rows p1 (fun r_1 => ((r_1 = (0 : Int32) → Q (-1 : Int32)) ∧ (¬ r_1 = (0 : Int32) → wp_X9_isRow a0_rows p2 (fun r_3 => ((r_3 = (0 : Int32) → Q (-1 : Int32)) ∧ (¬ r_3 = (0 : Int32) → (∃ (I_20_4 : Int32 → Prop) (m_20_4 : Int32 → Nat), I_20_4 (1 : Int32) ∧ ∀ (l3_20_4 : Int32), I_20_4 l3_20_4 → (((600 : Int32) < l3_20_4 → Q (0 : Int32)) ∧ (¬ (600 : Int32) < l3_20_4 → (vp_in (((601 : Int32) * p1) + l3_20_4) 9616 ∧ (vp_in (((601 : Int32) * p2) + l3_20_4) 9616 ∧ (((a0_row (((601 : Int32) * p1) + l3_20_4).toNatClampNeg) = (a0_row (((601 : Int32) * p2) + l3_20_4).toNatClampNeg) → (∀ x3_10 : Int32, x3_10 = l3_20_4 + (1 : Int32) → (I_20_4 x3_10 ∧ m_20_4 x3_10 < m_20_4 l3_20_4))) ∧ (¬ (a0_row (((601 : Int32) * p1) + l3_20_4).toNatClampNeg) = (a0_row (((601 : Int32) * p2) + l3_20_4).toNatClampNeg) → Q l3_20_4)))))))))))))
abbrev rm_X9_same : Room := { frames := 2, cells := 0, slots := 0, locals := 46 }
abbrev qc_X9_same (dC : Nat → ClassId) (dI : Nat → Nat → Nat) (cI cJ cZ : ClassId) (h_a0 : Nat) (a0_primes : Int32) (w_a0_prime : Value) (w_a0_isNone : Value) (a0_hasSpan : Int32) (a0_spanFrom : Int64) (a0_spanMany : Int32) (w_a0_least : Value) (w_a0_greatest : Value) (w_a0_isSquared : Value) (a0_hasPart : Int32) (a0_parted : Int64) (a0_partMany : Int32) (w_a0_partPrime : Value) (w_a0_partPower : Value) (a0_rows : Int32) (a0_row : Nat → Int64) (q_a0_row : Nat) (a0_foundLeast : Int64) (a0_foundGreatest : Int64) (a0_foundSquare : Int32) (Q : Int32 → Prop) (A : Nat → Prop) : Array Value → State → Outcome → State → Prop := va_Qi (fun (r : Int32) (_ : Unit) => Q r) (post_ dC dI A (fun (u : Unit) => [(h_a0, .inr (8, [.int a0_primes, w_a0_prime, w_a0_isNone, .int a0_hasSpan, .long a0_spanFrom, .int a0_spanMany, w_a0_least, w_a0_greatest, w_a0_isSquared, .int a0_hasPart, .long a0_parted, .int a0_partMany, w_a0_partPrime, w_a0_partPower, .int a0_rows, .ref q_a0_row, .long a0_foundLeast, .long a0_foundGreatest, .int a0_foundSquare])), (q_a0_row, .inl (cJ, 9616, .inr (.inl a0_row)))])) A
set_option maxHeartbeats 4000000 in
set_option maxRecDepth 100000 in
theorem c_X9_same (l : Launch) (dC : Nat → ClassId) (dI : Nat → Nat → Nat) (cI cJ cZ : ClassId) (sz : Nat) (h_a0 : Nat) (a0_primes : Int32) (w_a0_prime : Value) (w_a0_isNone : Value) (a0_hasSpan : Int32) (a0_spanFrom : Int64) (a0_spanMany : Int32) (w_a0_least : Value) (w_a0_greatest : Value) (w_a0_isSquared : Value) (a0_hasPart : Int32) (a0_parted : Int64) (a0_partMany : Int32) (w_a0_partPrime : Value) (w_a0_partPower : Value) (a0_rows : Int32) (a0_row : Nat → Int64) (q_a0_row : Nat) (a0_foundLeast : Int64) (a0_foundGreatest : Int64) (a0_foundSquare : Int32) (p1 : Int32) (p2 : Int32) (Q : Int32 → Prop) (hQ : wp_X9_same a0_rows a0_row p1 p2 Q) : Met l yX9_same wsX9_same rm_X9_same (pre_ dC dI cI cJ cZ [.ref h_a0, .int p1, .int p2] [(h_a0, .inr (8, [.int a0_primes, w_a0_prime, w_a0_isNone, .int a0_hasSpan, .long a0_spanFrom, .int a0_spanMany, w_a0_least, w_a0_greatest, w_a0_isSquared, .int a0_hasPart, .long a0_parted, .int a0_partMany, w_a0_partPrime, w_a0_partPower, .int a0_rows, .ref q_a0_row, .long a0_foundLeast, .long a0_foundGreatest, .int a0_foundSquare])), (q_a0_row, .inl (cJ, 9616, .inr (.inl a0_row)))] sz) (qc_X9_same dC dI cI cJ cZ h_a0 a0_primes w_a0_prime w_a0_isNone a0_hasSpan a0_spanFrom a0_spanMany w_a0_least w_a0_greatest w_a0_isSquared a0_hasPart a0_parted a0_partMany w_a0_partPrime w_a0_partPower a0_rows a0_row q_a0_row a0_foundLeast a0_foundGreatest a0_foundSquare Q (va_A [(h_a0, .inr (8, [.int a0_primes, w_a0_prime, w_a0_isNone, .int a0_hasSpan, .long a0_spanFrom, .int a0_spanMany, w_a0_least, w_a0_greatest, w_a0_isSquared, .int a0_hasPart, .long a0_parted, .int a0_partMany, w_a0_partPrime, w_a0_partPower, .int a0_rows, .ref q_a0_row, .long a0_foundLeast, .long a0_foundGreatest, .int a0_foundSquare])), (q_a0_row, .inl (cJ, 9616, .inr (.inl a0_row)))] sz)) 0 0 (va_A [(h_a0, .inr (8, [.int a0_primes, w_a0_prime, w_a0_isNone, .int a0_hasSpan, .long a0_spanFrom, .int a0_spanMany, w_a0_least, w_a0_greatest, w_a0_isSquared, .int a0_hasPart, .long a0_parted, .int a0_partMany, w_a0_partPrime, w_a0_partPower, .int a0_rows, .ref q_a0_row, .long a0_foundLeast, .long a0_foundGreatest, .int a0_foundSquare])), (q_a0_row, .inl (cJ, 9616, .inr (.inl a0_row)))] sz) := by
  refine Met.ofW (cc := cX9_same) (maxL := 4) (ret := (some .int)) (by decide) rfl ?_
  intro p e s m args below meth c s₁ B hml hv
  obtain ⟨rfl, hsz, hP, hK, hN, hD0⟩ := hv
  have hx := B.exec
  have hb := B.bytes
  have hr := B.returns
  have hts := atoms_spec (ws := wsX9_same) B.pre
  have hown : s.vm.findClass RX9 = some m.cls := findClass_of_methodNamed B.named
  subst hsz
  have hD := hD0.self (sz := s.heap.size)
  generalize hAe : va_A [(h_a0, .inr (8, [.int a0_primes, w_a0_prime, w_a0_isNone, .int a0_hasSpan, .long a0_spanFrom, .int a0_spanMany, w_a0_least, w_a0_greatest, w_a0_isSquared, .int a0_hasPart, .long a0_parted, .int a0_partMany, w_a0_partPrime, w_a0_partPower, .int a0_rows, .ref q_a0_row, .long a0_foundLeast, .long a0_foundGreatest, .int a0_foundSquare])), (q_a0_row, .inl (cJ, 9616, .inr (.inl a0_row)))] s.heap.size = A at hD ⊢
  have hA : ∀ q : Nat, s.heap.size ≤ q → A q := fun q h => by rw [← hAe]; exact Or.inr h
  have hS : va_S A s.heap s.heap [] := va_S.rf
  have hl := lv_entry ([.ref h_a0, .int p1, .int p2]) (n := 4) (Nat.le_of_ble_eq_true rfl)
  rw [lg_entry_eq]
  generalize (lg_sl ([.ref h_a0, .int p1, .int p2]) ++ List.replicate (4 - (lg_sl ([.ref h_a0, .int p1, .int p2])).length) Slot.unset).toArray = ls at hl ⊢
  have hl : lv_has ls 4 [(0, .ref h_a0), (1, .int p1), (2, .int p2)] := hl
  have h := hQ
  unfold wp_X9_same at h
  have hw_0 := hts (.fieldLink RX9 34 "NumberSievesModel" "row" "[J") (by decide +kernel)
  have hin_X9 : ∀ w ∈ wsX90, w ∈ wsX9_same := by decide +kernel
  refine lv_aload_n hx hb dX9_same_0 rfl (lv_at hl 0 rfl) ?_
  refine lv_iload_n hx hb dX9_same_1 rfl (lv_at hl 1 rfl) ?_
  have hPc := hP.sub (ws' := [(h_a0, .inr (8, [.int a0_primes, w_a0_prime, w_a0_isNone, .int a0_hasSpan, .long a0_spanFrom, .int a0_spanMany, w_a0_least, w_a0_greatest, w_a0_isSquared, .int a0_hasPart, .long a0_parted, .int a0_partMany, w_a0_partPrime, w_a0_partPower, .int a0_rows, .ref q_a0_row, .long a0_foundLeast, .long a0_foundGreatest, .int a0_foundSquare]))]) [0] rfl
  have hDc := hD.sub (ws' := [(h_a0, .inr (8, [.int a0_primes, w_a0_prime, w_a0_isNone, .int a0_hasSpan, .long a0_spanFrom, .int a0_spanMany, w_a0_least, w_a0_greatest, w_a0_isSquared, .int a0_hasPart, .long a0_parted, .int a0_partMany, w_a0_partPrime, w_a0_partPower, .int a0_rows, .ref q_a0_row, .long a0_foundLeast, .long a0_foundGreatest, .int a0_foundSquare]))]) [0] (by decide) rfl
  have hFc := va_free (wc := [(h_a0, .inr (8, [.int a0_primes, w_a0_prime, w_a0_isNone, .int a0_hasSpan, .long a0_spanFrom, .int a0_spanMany, w_a0_least, w_a0_greatest, w_a0_isSquared, .int a0_hasPart, .long a0_parted, .int a0_partMany, w_a0_partPrime, w_a0_partPower, .int a0_rows, .ref q_a0_row, .long a0_foundLeast, .long a0_foundGreatest, .int a0_foundSquare]))]) hD hS hA [0] rfl
  refine va_calli (va_runV (As := [.int p1]) (rest := []) ⟨hx, hb, hml, hown, hts⟩ (c_X9_isRow l dC dI cI cJ cZ _ h_a0 a0_primes (w_a0_prime) (w_a0_isNone) a0_hasSpan a0_spanFrom a0_spanMany (w_a0_least) (w_a0_greatest) (w_a0_isSquared) a0_hasPart a0_parted a0_partMany (w_a0_partPrime) (w_a0_partPower) a0_rows (.ref q_a0_row) a0_foundLeast a0_foundGreatest a0_foundSquare p1 _ h) (cwV 1 hts gX9_same_X9_isRow rfl rfl rfl (by decide +kernel) ⟨Nat.le_of_ble_eq_true rfl, Nat.le_of_ble_eq_true rfl⟩) ⟨pre_fb, va_recv hK hPc (ci := 8) (q0 := 0) rfl rfl, pre_of hPc hDc hK hN⟩ rfl rfl hl.1 rfl (lv_room (Nat.le_of_ble_eq_true rfl)) dX9_same_2 ⟨by first | exact Nat.le_of_ble_eq_true rfl | exact Nat.le_refl _, by first | exact Nat.le_of_ble_eq_true rfl | exact Nat.le_refl _⟩) hS (fun q _ h => hFc q h) hFc (fun r_1 u t H1 locs ht hvm h hB hz1 hk1 hS => ?_)
  obtain ⟨hP1, hD1⟩ := hB
  rw [ht] at hP1
  try dsimp only at h
  obtain ⟨hP, hD⟩ := va_join (wr := [(q_a0_row, .inl (cJ, 9616, .inr (.inl a0_row)))]) (w1 := [(h_a0, .inr (8, [.int a0_primes, w_a0_prime, w_a0_isNone, .int a0_hasSpan, .long a0_spanFrom, .int a0_spanMany, w_a0_least, w_a0_greatest, w_a0_isSquared, .int a0_hasPart, .long a0_parted, .int a0_partMany, w_a0_partPrime, w_a0_partPower, .int a0_rows, .ref q_a0_row, .long a0_foundLeast, .long a0_foundGreatest, .int a0_foundSquare]))]) hP hD [0] [1] rfl rfl (by decide) (by decide) hk1 hFc hP1 hD1
  generalize H1 = H at hP hS ⊢
  have hP : va_P (dC, dI) vwCl [(q_a0_row, .inl (cJ, 9616, .inr (.inl a0_row))), (h_a0, .inr (8, [.int a0_primes, w_a0_prime, w_a0_isNone, .int a0_hasSpan, .long a0_spanFrom, .int a0_spanMany, w_a0_least, w_a0_greatest, w_a0_isSquared, .int a0_hasPart, .long a0_parted, .int a0_partMany, w_a0_partPrime, w_a0_partPower, .int a0_rows, .ref q_a0_row, .long a0_foundLeast, .long a0_foundGreatest, .int a0_foundSquare]))] H := hP
  have hD : va_D A [(q_a0_row, .inl (cJ, 9616, .inr (.inl a0_row))), (h_a0, .inr (8, [.int a0_primes, w_a0_prime, w_a0_isNone, .int a0_hasSpan, .long a0_spanFrom, .int a0_spanMany, w_a0_least, w_a0_greatest, w_a0_isSquared, .int a0_hasPart, .long a0_parted, .int a0_partMany, w_a0_partPrime, w_a0_partPower, .int a0_rows, .ref q_a0_row, .long a0_foundLeast, .long a0_foundGreatest, .int a0_foundSquare]))] := hD
  refine lv_if_eq (tgt := 16) hx hb dX9_same_5 (by decide) (fun c_2 => ?_) (fun c_2 => ?_)
  · replace h := h.1 c_2
    refine lv_iconst (v := (-1 : Int32)) hx hb dX9_same_16 (by decide) ?_
    have hP9 := hP.sub (ws' := [(h_a0, .inr (8, [.int a0_primes, w_a0_prime, w_a0_isNone, .int a0_hasSpan, .long a0_spanFrom, .int a0_spanMany, w_a0_least, w_a0_greatest, w_a0_isSquared, .int a0_hasPart, .long a0_parted, .int a0_partMany, w_a0_partPrime, w_a0_partPower, .int a0_rows, .ref q_a0_row, .long a0_foundLeast, .long a0_foundGreatest, .int a0_foundSquare])), (q_a0_row, .inl (cJ, 9616, .inr (.inl a0_row)))]) [1, 0] rfl
    have hD9 := hD.sub (ws' := [(h_a0, .inr (8, [.int a0_primes, w_a0_prime, w_a0_isNone, .int a0_hasSpan, .long a0_spanFrom, .int a0_spanMany, w_a0_least, w_a0_greatest, w_a0_isSquared, .int a0_hasPart, .long a0_parted, .int a0_partMany, w_a0_partPrime, w_a0_partPower, .int a0_rows, .ref q_a0_row, .long a0_foundLeast, .long a0_foundGreatest, .int a0_foundSquare])), (q_a0_row, .inl (cJ, 9616, .inr (.inl a0_row)))]) [1, 0] (by decide) rfl
    exact W.iret (v := (-1 : Int32)) hx hb hr (fun t ht hW => ⟨⟨_, (), rfl, h, by rw [ht]; exact hP9, hD9⟩, hS.F ht⟩) hS.2.2 dX9_same_17
  · replace h := h.2 c_2
    refine lv_aload_n hx hb dX9_same_8 rfl (lv_at hl 0 rfl) ?_
    refine lv_iload_n hx hb dX9_same_9 rfl (lv_at hl 2 rfl) ?_
    have hPc := hP.sub (ws' := [(h_a0, .inr (8, [.int a0_primes, w_a0_prime, w_a0_isNone, .int a0_hasSpan, .long a0_spanFrom, .int a0_spanMany, w_a0_least, w_a0_greatest, w_a0_isSquared, .int a0_hasPart, .long a0_parted, .int a0_partMany, w_a0_partPrime, w_a0_partPower, .int a0_rows, .ref q_a0_row, .long a0_foundLeast, .long a0_foundGreatest, .int a0_foundSquare]))]) [1] rfl
    have hDc := hD.sub (ws' := [(h_a0, .inr (8, [.int a0_primes, w_a0_prime, w_a0_isNone, .int a0_hasSpan, .long a0_spanFrom, .int a0_spanMany, w_a0_least, w_a0_greatest, w_a0_isSquared, .int a0_hasPart, .long a0_parted, .int a0_partMany, w_a0_partPrime, w_a0_partPower, .int a0_rows, .ref q_a0_row, .long a0_foundLeast, .long a0_foundGreatest, .int a0_foundSquare]))]) [1] (by decide) rfl
    have hFc := va_free (wc := [(h_a0, .inr (8, [.int a0_primes, w_a0_prime, w_a0_isNone, .int a0_hasSpan, .long a0_spanFrom, .int a0_spanMany, w_a0_least, w_a0_greatest, w_a0_isSquared, .int a0_hasPart, .long a0_parted, .int a0_partMany, w_a0_partPrime, w_a0_partPower, .int a0_rows, .ref q_a0_row, .long a0_foundLeast, .long a0_foundGreatest, .int a0_foundSquare]))]) hD hS hA [1] rfl
    refine va_calli (va_runV (As := [.int p2]) (rest := []) ⟨hx, hb, hml, hown, hts⟩ (c_X9_isRow l dC dI cI cJ cZ _ h_a0 a0_primes (w_a0_prime) (w_a0_isNone) a0_hasSpan a0_spanFrom a0_spanMany (w_a0_least) (w_a0_greatest) (w_a0_isSquared) a0_hasPart a0_parted a0_partMany (w_a0_partPrime) (w_a0_partPower) a0_rows (.ref q_a0_row) a0_foundLeast a0_foundGreatest a0_foundSquare p2 _ h) (cwV 1 hts gX9_same_X9_isRow rfl rfl rfl (by decide +kernel) ⟨Nat.le_of_ble_eq_true rfl, Nat.le_of_ble_eq_true rfl⟩) ⟨pre_fb, va_recv hK hPc (ci := 8) (q0 := 0) rfl rfl, pre_of hPc hDc hK hN⟩ rfl rfl hl.1 rfl (lv_room (Nat.le_of_ble_eq_true rfl)) dX9_same_10 ⟨by first | exact Nat.le_of_ble_eq_true rfl | exact Nat.le_refl _, by first | exact Nat.le_of_ble_eq_true rfl | exact Nat.le_refl _⟩) hS (fun q _ h => hFc q h) hFc (fun r_3 u t H1 locs ht hvm h hB hz1 hk1 hS => ?_)
    obtain ⟨hP1, hD1⟩ := hB
    rw [ht] at hP1
    try dsimp only at h
    obtain ⟨hP, hD⟩ := va_join (wr := [(q_a0_row, .inl (cJ, 9616, .inr (.inl a0_row)))]) (w1 := [(h_a0, .inr (8, [.int a0_primes, w_a0_prime, w_a0_isNone, .int a0_hasSpan, .long a0_spanFrom, .int a0_spanMany, w_a0_least, w_a0_greatest, w_a0_isSquared, .int a0_hasPart, .long a0_parted, .int a0_partMany, w_a0_partPrime, w_a0_partPower, .int a0_rows, .ref q_a0_row, .long a0_foundLeast, .long a0_foundGreatest, .int a0_foundSquare]))]) hP hD [1] [0] rfl rfl (by decide) (by decide) hk1 hFc hP1 hD1
    generalize H1 = H at hP hS ⊢
    have hP : va_P (dC, dI) vwCl [(q_a0_row, .inl (cJ, 9616, .inr (.inl a0_row))), (h_a0, .inr (8, [.int a0_primes, w_a0_prime, w_a0_isNone, .int a0_hasSpan, .long a0_spanFrom, .int a0_spanMany, w_a0_least, w_a0_greatest, w_a0_isSquared, .int a0_hasPart, .long a0_parted, .int a0_partMany, w_a0_partPrime, w_a0_partPower, .int a0_rows, .ref q_a0_row, .long a0_foundLeast, .long a0_foundGreatest, .int a0_foundSquare]))] H := hP
    have hD : va_D A [(q_a0_row, .inl (cJ, 9616, .inr (.inl a0_row))), (h_a0, .inr (8, [.int a0_primes, w_a0_prime, w_a0_isNone, .int a0_hasSpan, .long a0_spanFrom, .int a0_spanMany, w_a0_least, w_a0_greatest, w_a0_isSquared, .int a0_hasPart, .long a0_parted, .int a0_partMany, w_a0_partPrime, w_a0_partPower, .int a0_rows, .ref q_a0_row, .long a0_foundLeast, .long a0_foundGreatest, .int a0_foundSquare]))] := hD
    refine lv_if_ne (tgt := 18) hx hb dX9_same_13 (by decide) (fun c_4 => ?_) (fun c_4 => ?_)
    · replace h := h.2 c_4
      refine lv_iconst (v := (1 : Int32)) hx hb dX9_same_18 (by decide) ?_
      refine lv_istore_n (lv' := [(3, .int (1 : Int32)), (0, .ref h_a0), (1, .int p1), (2, .int p2)]) hx hb dX9_same_19 rfl hl (by decide) rfl (fun ls hl => ?_)
      obtain ⟨I_20_4, m_20_4, h0_20_4, hs_20_4⟩ := h
      have key_20_4 : ∀ (n : Nat) (l3_20_4 : Int32), m_20_4 l3_20_4 < n → I_20_4 l3_20_4 → ∀ (ls : Array Slot) (H : Heap) (locs : List Loc), lv_has ls 4 [(3, .int l3_20_4), (0, .ref h_a0), (1, .int p1), (2, .int p2)] → va_P (dC, dI) vwCl [(q_a0_row, .inl (cJ, 9616, .inr (.inl a0_row))), (h_a0, .inr (8, [.int a0_primes, w_a0_prime, w_a0_isNone, .int a0_hasSpan, .long a0_spanFrom, .int a0_spanMany, w_a0_least, w_a0_greatest, w_a0_isSquared, .int a0_hasPart, .long a0_parted, .int a0_partMany, w_a0_partPrime, w_a0_partPower, .int a0_rows, .ref q_a0_row, .long a0_foundLeast, .long a0_foundGreatest, .int a0_foundSquare]))] H → va_D A [(q_a0_row, .inl (cJ, 9616, .inr (.inl a0_row))), (h_a0, .inr (8, [.int a0_primes, w_a0_prime, w_a0_isNone, .int a0_hasSpan, .long a0_spanFrom, .int a0_spanMany, w_a0_least, w_a0_greatest, w_a0_isSquared, .int a0_hasPart, .long a0_parted, .int a0_partMany, w_a0_partPrime, w_a0_partPower, .int a0_rows, .ref q_a0_row, .long a0_foundLeast, .long a0_foundGreatest, .int a0_foundSquare]))] → va_S A s.heap H locs → W p l e (headSpec wsX9_same rm_X9_same).room s m ([.ref h_a0, .int p1, .int p2] : List Value).toArray below meth c H locs 0 0 (MQ below (qc_X9_same dC dI cI cJ cZ h_a0 a0_primes w_a0_prime w_a0_isNone a0_hasSpan a0_spanFrom a0_spanMany w_a0_least w_a0_greatest w_a0_isSquared a0_hasPart a0_parted a0_partMany w_a0_partPrime w_a0_partPower a0_rows a0_row q_a0_row a0_foundLeast a0_foundGreatest a0_foundSquare Q A) ([.ref h_a0, .int p1, .int p2] : List Value).toArray s 0 0 A) (F0 m 20 ls []) := by
        intro n
        induction n with
        | zero =>
          intro l3_20_4 hm
          exact absurd hm (Nat.not_lt_zero _)
        | succ n ih_20_4 =>
          intro l3_20_4 hm_20_4 hI ls H locs hl hP hD hS
          have h := hs_20_4 l3_20_4 hI
          refine lv_iload_n hx hb dX9_same_20 rfl (lv_at hl 0 rfl) ?_
          refine lv_sipush (v := (600 : Int32)) hx hb dX9_same_21 (by decide) ?_
          refine lv_icmp_gt (tgt := 63) hx hb dX9_same_24 (by decide) (fun c_6 => ?_) (fun c_6 => ?_)
          · replace h := h.1 c_6
            refine lv_iconst (v := (0 : Int32)) hx hb dX9_same_63 (by decide) ?_
            have hP9 := hP.sub (ws' := [(h_a0, .inr (8, [.int a0_primes, w_a0_prime, w_a0_isNone, .int a0_hasSpan, .long a0_spanFrom, .int a0_spanMany, w_a0_least, w_a0_greatest, w_a0_isSquared, .int a0_hasPart, .long a0_parted, .int a0_partMany, w_a0_partPrime, w_a0_partPower, .int a0_rows, .ref q_a0_row, .long a0_foundLeast, .long a0_foundGreatest, .int a0_foundSquare])), (q_a0_row, .inl (cJ, 9616, .inr (.inl a0_row)))]) [1, 0] rfl
            have hD9 := hD.sub (ws' := [(h_a0, .inr (8, [.int a0_primes, w_a0_prime, w_a0_isNone, .int a0_hasSpan, .long a0_spanFrom, .int a0_spanMany, w_a0_least, w_a0_greatest, w_a0_isSquared, .int a0_hasPart, .long a0_parted, .int a0_partMany, w_a0_partPrime, w_a0_partPower, .int a0_rows, .ref q_a0_row, .long a0_foundLeast, .long a0_foundGreatest, .int a0_foundSquare])), (q_a0_row, .inl (cJ, 9616, .inr (.inl a0_row)))]) [1, 0] (by decide) rfl
            exact W.iret (v := (0 : Int32)) hx hb hr (fun t ht hW => ⟨⟨_, (), rfl, h, by rw [ht]; exact hP9, hD9⟩, hS.F ht⟩) hS.2.2 dX9_same_64
          · replace h := h.2 c_6
            refine lv_aload_n hx hb dX9_same_27 rfl (lv_at hl 1 rfl) ?_
            refine va_get (D := (dC, dI)) (ci := 8) (v := .ref q_a0_row) (C := RX9) (T := TX9) (N := 19) hx hb hts hin_X9 hown hK hP 1 rfl rfl 15 (by decide) hw_0 (fun _ h9 => h9) rfl dX9_same_28 ?_
            refine lv_sipush (v := (601 : Int32)) hx hb dX9_same_31 (by decide) ?_
            refine lv_iload_n hx hb dX9_same_34 rfl (lv_at hl 2 rfl) ?_
            refine lv_imul hx hb dX9_same_35 ?_
            refine lv_iload_n hx hb dX9_same_36 rfl (lv_at hl 0 rfl) ?_
            refine lv_iadd hx hb dX9_same_37 ?_
            obtain ⟨hin_7, h⟩ := h
            refine va_lald hx hb hK hP 0 1 rfl rfl hin_7 dX9_same_38 ?_
            refine lv_aload_n hx hb dX9_same_39 rfl (lv_at hl 1 rfl) ?_
            refine va_get (D := (dC, dI)) (ci := 8) (v := .ref q_a0_row) (C := RX9) (T := TX9) (N := 19) hx hb hts hin_X9 hown hK hP 1 rfl rfl 15 (by decide) hw_0 (fun _ h9 => h9) rfl dX9_same_40 ?_
            refine lv_sipush (v := (601 : Int32)) hx hb dX9_same_43 (by decide) ?_
            refine lv_iload_n hx hb dX9_same_46 rfl (lv_at hl 3 rfl) ?_
            refine lv_imul hx hb dX9_same_47 ?_
            refine lv_iload_n hx hb dX9_same_48 rfl (lv_at hl 0 rfl) ?_
            refine lv_iadd hx hb dX9_same_49 ?_
            obtain ⟨hin_8, h⟩ := h
            refine va_lald hx hb hK hP 0 1 rfl rfl hin_8 dX9_same_50 ?_
            refine W.lcmp hx hb dX9_same_51 ?_
            refine lv_if_eq (tgt := 57) hx hb dX9_same_52 (by decide) (fun c_9 => ?_) (fun c_9 => ?_)
            · replace c_9 := (lg_cmp_eq _ _).mp c_9
              replace h := h.1 c_9
              obtain ⟨x3_10, e_x3_10⟩ : ∃ y : Int32, y = l3_20_4 + (1 : Int32) := ⟨_, rfl⟩
              replace h := h x3_10 e_x3_10
              refine lv_iinc (v := x3_10) (lv' := [(3, .int x3_10), (0, .ref h_a0), (1, .int p1), (2, .int p2)]) hx hb dX9_same_57 hl (k := 0) rfl (by rw [e_x3_10]; rfl) (by decide) rfl (fun ls hl => ?_)
              refine lv_goto (tgt := 20) hx hb dX9_same_60 (by decide) ?_
              exact ih_20_4 x3_10 (Nat.lt_of_lt_of_le h.2 (Nat.le_of_lt_succ hm_20_4)) h.1 _ _ _ (lv_sub hl [0, 1, 2, 3] rfl) (hP.sub [0, 1] rfl) (hD.sub [0, 1] (by decide) rfl) hS
            · replace c_9 := lc_neq c_9
              replace h := h.2 c_9
              refine lv_iload_n hx hb dX9_same_55 rfl (lv_at hl 0 rfl) ?_
              have hP9 := hP.sub (ws' := [(h_a0, .inr (8, [.int a0_primes, w_a0_prime, w_a0_isNone, .int a0_hasSpan, .long a0_spanFrom, .int a0_spanMany, w_a0_least, w_a0_greatest, w_a0_isSquared, .int a0_hasPart, .long a0_parted, .int a0_partMany, w_a0_partPrime, w_a0_partPower, .int a0_rows, .ref q_a0_row, .long a0_foundLeast, .long a0_foundGreatest, .int a0_foundSquare])), (q_a0_row, .inl (cJ, 9616, .inr (.inl a0_row)))]) [1, 0] rfl
              have hD9 := hD.sub (ws' := [(h_a0, .inr (8, [.int a0_primes, w_a0_prime, w_a0_isNone, .int a0_hasSpan, .long a0_spanFrom, .int a0_spanMany, w_a0_least, w_a0_greatest, w_a0_isSquared, .int a0_hasPart, .long a0_parted, .int a0_partMany, w_a0_partPrime, w_a0_partPower, .int a0_rows, .ref q_a0_row, .long a0_foundLeast, .long a0_foundGreatest, .int a0_foundSquare])), (q_a0_row, .inl (cJ, 9616, .inr (.inl a0_row)))]) [1, 0] (by decide) rfl
              exact W.iret (v := l3_20_4) hx hb hr (fun t ht hW => ⟨⟨_, (), rfl, h, by rw [ht]; exact hP9, hD9⟩, hS.F ht⟩) hS.2.2 dX9_same_56
      exact key_20_4 _ (1 : Int32) (Nat.lt_succ_self _) h0_20_4 _ _ _ (lv_sub hl [0, 1, 2, 3] rfl) (hP.sub [0, 1] rfl) (hD.sub [0, 1] (by decide) rfl) hS
    · replace h := h.1 c_4
      refine lv_iconst (v := (-1 : Int32)) hx hb dX9_same_16 (by decide) ?_
      have hP9 := hP.sub (ws' := [(h_a0, .inr (8, [.int a0_primes, w_a0_prime, w_a0_isNone, .int a0_hasSpan, .long a0_spanFrom, .int a0_spanMany, w_a0_least, w_a0_greatest, w_a0_isSquared, .int a0_hasPart, .long a0_parted, .int a0_partMany, w_a0_partPrime, w_a0_partPower, .int a0_rows, .ref q_a0_row, .long a0_foundLeast, .long a0_foundGreatest, .int a0_foundSquare])), (q_a0_row, .inl (cJ, 9616, .inr (.inl a0_row)))]) [1, 0] rfl
      have hD9 := hD.sub (ws' := [(h_a0, .inr (8, [.int a0_primes, w_a0_prime, w_a0_isNone, .int a0_hasSpan, .long a0_spanFrom, .int a0_spanMany, w_a0_least, w_a0_greatest, w_a0_isSquared, .int a0_hasPart, .long a0_parted, .int a0_partMany, w_a0_partPrime, w_a0_partPower, .int a0_rows, .ref q_a0_row, .long a0_foundLeast, .long a0_foundGreatest, .int a0_foundSquare])), (q_a0_row, .inl (cJ, 9616, .inr (.inl a0_row)))]) [1, 0] (by decide) rfl
      exact W.iret (v := (-1 : Int32)) hx hb hr (fun t ht hW => ⟨⟨_, (), rfl, h, by rw [ht]; exact hP9, hD9⟩, hS.F ht⟩) hS.2.2 dX9_same_17
def wp_X9_isFar  (p0 : Int32) (Q : Int32 → Prop) : Prop :=
  ((p0 = (0 : Int32) → Q (1 : Int32)) ∧ (¬ p0 = (0 : Int32) → ((p0 = (1 : Int32) → Q (1 : Int32)) ∧ (¬ p0 = (1 : Int32) → ((p0 = (2 : Int32) → Q (1 : Int32)) ∧ (¬ p0 = (2 : Int32) → ((p0 = (9 : Int32) → Q (1 : Int32)) ∧ (¬ p0 = (9 : Int32) → Q (0 : Int32)))))))))
abbrev rm_X9_isFar : Room := { frames := 0, cells := 0, slots := 0, locals := 0 }
abbrev qc_X9_isFar (dC : Nat → ClassId) (dI : Nat → Nat → Nat) (cI cJ cZ : ClassId)  (Q : Int32 → Prop) (A : Nat → Prop) : Array Value → State → Outcome → State → Prop := va_Qi (fun (r : Int32) (_ : Unit) => Q r) (post_ dC dI A (fun (_ : Unit) => ([] : va_W))) A
set_option maxHeartbeats 4000000 in
set_option maxRecDepth 100000 in
theorem c_X9_isFar (l : Launch) (dC : Nat → ClassId) (dI : Nat → Nat → Nat) (cI cJ cZ : ClassId) (sz : Nat)  (p0 : Int32) (Q : Int32 → Prop) (hQ : wp_X9_isFar p0 Q) : Met l yX9_isFar wsX9_isFar rm_X9_isFar (pre_ dC dI cI cJ cZ [.int p0] ([] : va_W) sz) (qc_X9_isFar dC dI cI cJ cZ Q (va_A ([] : va_W) sz)) 0 0 (va_A ([] : va_W) sz) := by
  refine Met.ofW (cc := cX9_isFar) (maxL := 1) (ret := (some .boolean)) (by decide) rfl ?_
  intro p e s m args below meth c s₁ B hml hv
  obtain ⟨rfl, hsz, hP, hK, hN, hD0⟩ := hv
  have hx := B.exec
  have hb := B.bytes
  have hr := B.returns
  have hts := atoms_spec (ws := wsX9_isFar) B.pre
  have hown : s.vm.findClass RX9 = some m.cls := findClass_of_methodNamed B.named
  subst hsz
  have hD := hD0.self (sz := s.heap.size)
  generalize hAe : va_A ([] : va_W) s.heap.size = A at hD ⊢
  have hA : ∀ q : Nat, s.heap.size ≤ q → A q := fun q h => by rw [← hAe]; exact Or.inr h
  have hS : va_S A s.heap s.heap [] := va_S.rf
  have hl := lv_entry ([.int p0]) (n := 1) (Nat.le_of_ble_eq_true rfl)
  rw [lg_entry_eq]
  generalize (lg_sl ([.int p0]) ++ List.replicate (1 - (lg_sl ([.int p0])).length) Slot.unset).toArray = ls at hl ⊢
  have hl : lv_has ls 1 [(0, .int p0)] := hl
  have h := hQ
  unfold wp_X9_isFar at h
  refine lv_iload_n hx hb dX9_isFar_0 rfl (lv_at hl 0 rfl) ?_
  refine lv_if_eq (tgt := 20) hx hb dX9_isFar_1 (by decide) (fun c_1 => ?_) (fun c_1 => ?_)
  · replace h := h.1 c_1
    refine lv_iconst (v := (1 : Int32)) hx hb dX9_isFar_20 (by decide) ?_
    refine lv_goto (tgt := 25) hx hb dX9_isFar_21 (by decide) ?_
    have hP9 := hP.sub (ws' := []) [] rfl
    have hD9 := hD.sub (ws' := []) [] (by decide) rfl
    exact W.zret (v := (1 : Int32)) hx hb hr (by decide) (fun t ht hW => ⟨⟨_, (), rfl, h, by rw [ht]; exact hP9, hD9⟩, hS.F ht⟩) hS.2.2 dX9_isFar_25
  · replace h := h.2 c_1
    refine lv_iload_n hx hb dX9_isFar_4 rfl (lv_at hl 0 rfl) ?_
    refine lv_iconst (v := (1 : Int32)) hx hb dX9_isFar_5 (by decide) ?_
    refine lv_icmp_eq (tgt := 20) hx hb dX9_isFar_6 (by decide) (fun c_2 => ?_) (fun c_2 => ?_)
    · replace h := h.1 c_2
      refine lv_iconst (v := (1 : Int32)) hx hb dX9_isFar_20 (by decide) ?_
      refine lv_goto (tgt := 25) hx hb dX9_isFar_21 (by decide) ?_
      have hP9 := hP.sub (ws' := []) [] rfl
      have hD9 := hD.sub (ws' := []) [] (by decide) rfl
      exact W.zret (v := (1 : Int32)) hx hb hr (by decide) (fun t ht hW => ⟨⟨_, (), rfl, h, by rw [ht]; exact hP9, hD9⟩, hS.F ht⟩) hS.2.2 dX9_isFar_25
    · replace h := h.2 c_2
      refine lv_iload_n hx hb dX9_isFar_9 rfl (lv_at hl 0 rfl) ?_
      refine lv_iconst (v := (2 : Int32)) hx hb dX9_isFar_10 (by decide) ?_
      refine lv_icmp_eq (tgt := 20) hx hb dX9_isFar_11 (by decide) (fun c_3 => ?_) (fun c_3 => ?_)
      · replace h := h.1 c_3
        refine lv_iconst (v := (1 : Int32)) hx hb dX9_isFar_20 (by decide) ?_
        refine lv_goto (tgt := 25) hx hb dX9_isFar_21 (by decide) ?_
        have hP9 := hP.sub (ws' := []) [] rfl
        have hD9 := hD.sub (ws' := []) [] (by decide) rfl
        exact W.zret (v := (1 : Int32)) hx hb hr (by decide) (fun t ht hW => ⟨⟨_, (), rfl, h, by rw [ht]; exact hP9, hD9⟩, hS.F ht⟩) hS.2.2 dX9_isFar_25
      · replace h := h.2 c_3
        refine lv_iload_n hx hb dX9_isFar_14 rfl (lv_at hl 0 rfl) ?_
        refine lv_bipush (v := (9 : Int32)) hx hb dX9_isFar_15 (by decide) ?_
        refine lv_icmp_ne (tgt := 24) hx hb dX9_isFar_17 (by decide) (fun c_4 => ?_) (fun c_4 => ?_)
        · replace h := h.2 c_4
          refine lv_iconst (v := (0 : Int32)) hx hb dX9_isFar_24 (by decide) ?_
          have hP9 := hP.sub (ws' := []) [] rfl
          have hD9 := hD.sub (ws' := []) [] (by decide) rfl
          exact W.zret (v := (0 : Int32)) hx hb hr (by decide) (fun t ht hW => ⟨⟨_, (), rfl, h, by rw [ht]; exact hP9, hD9⟩, hS.F ht⟩) hS.2.2 dX9_isFar_25
        · replace h := h.1 c_4
          refine lv_iconst (v := (1 : Int32)) hx hb dX9_isFar_20 (by decide) ?_
          refine lv_goto (tgt := 25) hx hb dX9_isFar_21 (by decide) ?_
          have hP9 := hP.sub (ws' := []) [] rfl
          have hD9 := hD.sub (ws' := []) [] (by decide) rfl
          exact W.zret (v := (1 : Int32)) hx hb hr (by decide) (fun t ht hW => ⟨⟨_, (), rfl, h, by rw [ht]; exact hP9, hD9⟩, hS.F ht⟩) hS.2.2 dX9_isFar_25
def wp_X9_upTo  (p0 : Int32) (p1 : Int64) (Q : Int64 → Prop) : Prop :=
  wp_X9_pairs (p1 + (1 : Int64)) (fun r_1 => ((p0 = (0 : Int32) → ((p1 ≤ (0 : Int64) → Q (0 : Int64)) ∧ (¬ p1 ≤ (0 : Int64) → Q (1 : Int64)))) ∧ (p0 = (1 : Int32) → Q p1) ∧ (p0 = (2 : Int32) → Q r_1) ∧ (¬ p0 = (0 : Int32) → ¬ p0 = (1 : Int32) → ¬ p0 = (2 : Int32) → (((r_1 - r_1 / (3 : Int64) * (3 : Int64)) = (0 : Int64) → Q ((r_1 / (3 : Int64)) * (((2 : Int64) * p1) + (1 : Int64)))) ∧ (¬ (r_1 - r_1 / (3 : Int64) * (3 : Int64)) = (0 : Int64) → Q (r_1 * ((((2 : Int64) * p1) + (1 : Int64)) / (3 : Int64))))))))
abbrev rm_X9_upTo : Room := { frames := 1, cells := 0, slots := 0, locals := 21 }
abbrev qc_X9_upTo (dC : Nat → ClassId) (dI : Nat → Nat → Nat) (cI cJ cZ : ClassId)  (Q : Int64 → Prop) (A : Nat → Prop) : Array Value → State → Outcome → State → Prop := va_Ql (fun (r : Int64) (_ : Unit) => Q r) (post_ dC dI A (fun (_ : Unit) => ([] : va_W))) A
set_option maxHeartbeats 4000000 in
set_option maxRecDepth 100000 in
theorem c_X9_upTo (l : Launch) (dC : Nat → ClassId) (dI : Nat → Nat → Nat) (cI cJ cZ : ClassId) (sz : Nat)  (p0 : Int32) (p1 : Int64) (Q : Int64 → Prop) (hQ : wp_X9_upTo p0 p1 Q) : Met l yX9_upTo wsX9_upTo rm_X9_upTo (pre_ dC dI cI cJ cZ [.int p0, .long p1] ([] : va_W) sz) (qc_X9_upTo dC dI cI cJ cZ Q (va_A ([] : va_W) sz)) 0 0 (va_A ([] : va_W) sz) := by
  refine Met.ofW (cc := cX9_upTo) (maxL := 5) (ret := (some .long)) (by decide) rfl ?_
  intro p e s m args below meth c s₁ B hml hv
  obtain ⟨rfl, hsz, hP, hK, hN, hD0⟩ := hv
  have hx := B.exec
  have hb := B.bytes
  have hr := B.returns
  have hts := atoms_spec (ws := wsX9_upTo) B.pre
  have hown : s.vm.findClass RX9 = some m.cls := findClass_of_methodNamed B.named
  subst hsz
  have hD := hD0.self (sz := s.heap.size)
  generalize hAe : va_A ([] : va_W) s.heap.size = A at hD ⊢
  have hA : ∀ q : Nat, s.heap.size ≤ q → A q := fun q h => by rw [← hAe]; exact Or.inr h
  have hS : va_S A s.heap s.heap [] := va_S.rf
  have hl := lv_entry ([.int p0, .long p1]) (n := 5) (Nat.le_of_ble_eq_true rfl)
  rw [lg_entry_eq]
  generalize (lg_sl ([.int p0, .long p1]) ++ List.replicate (5 - (lg_sl ([.int p0, .long p1])).length) Slot.unset).toArray = ls at hl ⊢
  have hl : lv_has ls 5 [(0, .int p0), (1, .long p1)] := hl
  have h := hQ
  unfold wp_X9_upTo at h
  have hw_0 := hts (.constantLong RX9 134 (3)) (by decide +kernel)
  have hw_1 := hts (.constantLong RX9 57 (2)) (by decide +kernel)
  refine lv_lload_n hx hb dX9_upTo_0 rfl (lv_at hl 1 rfl) ?_
  refine lv_lconst (v := (1 : Int64)) hx hb dX9_upTo_1 (by decide) ?_
  refine lv_ladd hx hb dX9_upTo_2 ?_
  have hPc := hP.sub (ws' := []) [] rfl
  have hDc := hD.sub (ws' := []) [] (by decide) rfl
  have hFc := va_free (wc := []) hD hS hA [] rfl
  refine va_calll (va_runS (As := [.long (p1 + (1 : Int64))]) (rest := []) ⟨hx, hb, hml, hown, hts⟩ (c_X9_pairs l dC dI cI cJ cZ _ (p1 + (1 : Int64)) _ h) (va_cwS 1 hts gX9_upTo_X9_pairs rfl rfl rfl (by decide +kernel) ⟨Nat.le_of_ble_eq_true rfl, Nat.le_of_ble_eq_true rfl⟩) ⟨pre_fb, pre_of hPc hDc hK hN⟩ rfl rfl hl.1 rfl (lv_room (Nat.le_of_ble_eq_true rfl)) dX9_upTo_3 ⟨by first | exact Nat.le_of_ble_eq_true rfl | exact Nat.le_refl _, by first | exact Nat.le_of_ble_eq_true rfl | exact Nat.le_refl _⟩) hS (fun q _ h => hFc q h) hFc (fun r_1 u t H1 locs ht hvm h hB hz1 hk1 hS => ?_)
  obtain ⟨hP1, hD1⟩ := hB
  rw [ht] at hP1
  try dsimp only at h
  obtain ⟨hP, hD⟩ := va_join (wr := []) (w1 := []) hP hD [] [] rfl rfl (by decide) (by decide) hk1 hFc hP1 hD1
  generalize H1 = H at hP hS ⊢
  have hP : va_P (dC, dI) vwCl [] H := hP
  have hD : va_D A [] := hD
  refine lv_lstore_n (lv' := [(3, .long r_1), (0, .int p0), (1, .long p1)]) hx hb dX9_upTo_6 rfl hl (by decide) rfl (fun ls hl => ?_)
  refine lv_iload_n hx hb dX9_upTo_7 rfl (lv_at hl 1 rfl) ?_
  by_cases c_2 : p0 = (0 : Int32)
  · refine lv_tableIn (off := 28) (tgt := 36) hx hb dX9_upTo_8 (by rw [c_2]; decide) (by rw [c_2]; decide) (by rw [c_2]; rfl) (by decide) ?_
    replace h := h.1 c_2
    refine lv_lload_n hx hb dX9_upTo_36 rfl (lv_at hl 2 rfl) ?_
    refine lv_lconst (v := (0 : Int64)) hx hb dX9_upTo_37 (by decide) ?_
    refine W.lcmp hx hb dX9_upTo_38 ?_
    refine lv_if_le (tgt := 46) hx hb dX9_upTo_39 (by decide) (fun c_3 => ?_) (fun c_3 => ?_)
    · replace c_3 := (lg_cmp_le _ _).mp c_3
      replace h := h.1 c_3
      refine lv_lconst (v := (0 : Int64)) hx hb dX9_upTo_46 (by decide) ?_
      have hP9 := hP.sub (ws' := []) [] rfl
      have hD9 := hD.sub (ws' := []) [] (by decide) rfl
      exact W.lret (v := (0 : Int64)) hx hb hr (fun t ht hW => ⟨⟨_, (), rfl, h, by rw [ht]; exact hP9, hD9⟩, hS.F ht⟩) hS.2.2 dX9_upTo_47
    · replace c_3 := lc_nle c_3
      replace h := h.2 c_3
      refine lv_lconst (v := (1 : Int64)) hx hb dX9_upTo_42 (by decide) ?_
      refine lv_goto (tgt := 47) hx hb dX9_upTo_43 (by decide) ?_
      have hP9 := hP.sub (ws' := []) [] rfl
      have hD9 := hD.sub (ws' := []) [] (by decide) rfl
      exact W.lret (v := (1 : Int64)) hx hb hr (fun t ht hW => ⟨⟨_, (), rfl, h, by rw [ht]; exact hP9, hD9⟩, hS.F ht⟩) hS.2.2 dX9_upTo_47
  by_cases c_4 : p0 = (1 : Int32)
  · refine lv_tableIn (off := 40) (tgt := 48) hx hb dX9_upTo_8 (by rw [c_4]; decide) (by rw [c_4]; decide) (by rw [c_4]; rfl) (by decide) ?_
    replace h := h.2.1 c_4
    refine lv_lload_n hx hb dX9_upTo_48 rfl (lv_at hl 2 rfl) ?_
    have hP9 := hP.sub (ws' := []) [] rfl
    have hD9 := hD.sub (ws' := []) [] (by decide) rfl
    exact W.lret (v := p1) hx hb hr (fun t ht hW => ⟨⟨_, (), rfl, h, by rw [ht]; exact hP9, hD9⟩, hS.F ht⟩) hS.2.2 dX9_upTo_49
  by_cases c_5 : p0 = (2 : Int32)
  · refine lv_tableIn (off := 42) (tgt := 50) hx hb dX9_upTo_8 (by rw [c_5]; decide) (by rw [c_5]; decide) (by rw [c_5]; rfl) (by decide) ?_
    replace h := h.2.2.1 c_5
    refine lv_lload_n hx hb dX9_upTo_50 rfl (lv_at hl 0 rfl) ?_
    have hP9 := hP.sub (ws' := []) [] rfl
    have hD9 := hD.sub (ws' := []) [] (by decide) rfl
    exact W.lret (v := r_1) hx hb hr (fun t ht hW => ⟨⟨_, (), rfl, h, by rw [ht]; exact hP9, hD9⟩, hS.F ht⟩) hS.2.2 dX9_upTo_51
  have t0 : p0.toInt ≠ 0 := fun q => c_2 (Int32.toInt_inj.mp (q.trans (by decide)))
  have t1 : p0.toInt ≠ 1 := fun q => c_4 (Int32.toInt_inj.mp (q.trans (by decide)))
  have t2 : p0.toInt ≠ 2 := fun q => c_5 (Int32.toInt_inj.mp (q.trans (by decide)))
  refine lv_tableOut (tgt := 52) hx hb dX9_upTo_8 (by omega) (by decide) ?_
  replace h := h.2.2.2 c_2 c_4 c_5
  refine lv_lload_n hx hb dX9_upTo_52 rfl (lv_at hl 0 rfl) ?_
  refine lv_ldc2 hx hb hown hw_0 dX9_upTo_53 ?_
  refine lv_lrem hx hb dX9_upTo_56 (by decide) ?_
  refine lv_lconst (v := (0 : Int64)) hx hb dX9_upTo_57 (by decide) ?_
  refine W.lcmp hx hb dX9_upTo_58 ?_
  refine lv_if_ne (tgt := 78) hx hb dX9_upTo_59 (by decide) (fun c_6 => ?_) (fun c_6 => ?_)
  · replace c_6 := lc_neq c_6
    replace h := h.2 c_6
    refine lv_lload_n hx hb dX9_upTo_78 rfl (lv_at hl 0 rfl) ?_
    refine lv_ldc2 hx hb hown hw_1 dX9_upTo_79 ?_
    refine lv_lload_n hx hb dX9_upTo_82 rfl (lv_at hl 2 rfl) ?_
    refine lv_lmul hx hb dX9_upTo_83 ?_
    refine lv_lconst (v := (1 : Int64)) hx hb dX9_upTo_84 (by decide) ?_
    refine lv_ladd hx hb dX9_upTo_85 ?_
    refine lv_ldc2 hx hb hown hw_0 dX9_upTo_86 ?_
    refine lv_ldiv hx hb dX9_upTo_89 (by decide) ?_
    refine lv_lmul hx hb dX9_upTo_90 ?_
    have hP9 := hP.sub (ws' := []) [] rfl
    have hD9 := hD.sub (ws' := []) [] (by decide) rfl
    exact W.lret (v := (r_1 * ((((2 : Int64) * p1) + (1 : Int64)) / (3 : Int64)))) hx hb hr (fun t ht hW => ⟨⟨_, (), rfl, h, by rw [ht]; exact hP9, hD9⟩, hS.F ht⟩) hS.2.2 dX9_upTo_91
  · replace c_6 := (lg_cmp_eq _ _).mp c_6
    replace h := h.1 c_6
    refine lv_lload_n hx hb dX9_upTo_62 rfl (lv_at hl 0 rfl) ?_
    refine lv_ldc2 hx hb hown hw_0 dX9_upTo_63 ?_
    refine lv_ldiv hx hb dX9_upTo_66 (by decide) ?_
    refine lv_ldc2 hx hb hown hw_1 dX9_upTo_67 ?_
    refine lv_lload_n hx hb dX9_upTo_70 rfl (lv_at hl 2 rfl) ?_
    refine lv_lmul hx hb dX9_upTo_71 ?_
    refine lv_lconst (v := (1 : Int64)) hx hb dX9_upTo_72 (by decide) ?_
    refine lv_ladd hx hb dX9_upTo_73 ?_
    refine lv_lmul hx hb dX9_upTo_74 ?_
    refine lv_goto (tgt := 91) hx hb dX9_upTo_75 (by decide) ?_
    have hP9 := hP.sub (ws' := []) [] rfl
    have hD9 := hD.sub (ws' := []) [] (by decide) rfl
    exact W.lret (v := ((r_1 / (3 : Int64)) * (((2 : Int64) * p1) + (1 : Int64)))) hx hb hr (fun t ht hW => ⟨⟨_, (), rfl, h, by rw [ht]; exact hP9, hD9⟩, hS.F ht⟩) hS.2.2 dX9_upTo_91
def wp_X9_far  (p1 : Int32) (p2 : Int32) (p3 : Int32) (Q : Int64 → Prop) : Prop :=
  wp_X9_isFar p1 (fun r_1 => ((r_1 = (0 : Int32) → Q (0 : Int64)) ∧ (¬ r_1 = (0 : Int32) → wp_X9_isFar p2 (fun r_3 => ((r_3 = (0 : Int32) → Q (0 : Int64)) ∧ (¬ r_3 = (0 : Int32) → wp_X9_in (p3.toInt64) (0 : Int64) (1000000000 : Int64) (fun r_5 => ((r_5 = (0 : Int32) → Q (0 : Int64)) ∧ (¬ r_5 = (0 : Int32) → (∃ (I_34_6 : Int64 → Int64 → Prop) (m_34_6 : Int64 → Int64 → Nat), I_34_6 (1 : Int64) (0 : Int64) ∧ ∀ (l6_34_6 : Int64) (l4_34_6 : Int64), I_34_6 l6_34_6 l4_34_6 → ((p3.toInt64 < l6_34_6 → Q l4_34_6) ∧ (¬ p3.toInt64 < l6_34_6 → (¬ l6_34_6 = 0 ∧ (∀ x8_10 : Int64, x8_10 = (p3.toInt64 / l6_34_6) → (¬ x8_10 = 0 ∧ (∀ x10_12 : Int64, x10_12 = (p3.toInt64 / x8_10) → wp_X9_upTo p1 x10_12 (fun r_13 => wp_X9_upTo p1 (l6_34_6 - (1 : Int64)) (fun r_14 => wp_X9_upTo p2 x8_10 (fun r_15 => (∀ x4_16 : Int64, x4_16 = (l4_34_6 + ((r_13 - r_14) * r_15)) → (∀ x6_17 : Int64, x6_17 = (x10_12 + (1 : Int64)) → (I_34_6 x6_17 x4_16 ∧ m_34_6 x6_17 x4_16 < m_34_6 l6_34_6 l4_34_6))))))))))))))))))))))
abbrev rm_X9_far : Room := { frames := 2, cells := 0, slots := 0, locals := 45 }
abbrev qc_X9_far (dC : Nat → ClassId) (dI : Nat → Nat → Nat) (cI cJ cZ : ClassId) (h_a0 : Nat) (a0_primes : Int32) (w_a0_prime : Value) (w_a0_isNone : Value) (a0_hasSpan : Int32) (a0_spanFrom : Int64) (a0_spanMany : Int32) (w_a0_least : Value) (w_a0_greatest : Value) (w_a0_isSquared : Value) (a0_hasPart : Int32) (a0_parted : Int64) (a0_partMany : Int32) (w_a0_partPrime : Value) (w_a0_partPower : Value) (a0_rows : Int32) (w_a0_row : Value) (a0_foundLeast : Int64) (a0_foundGreatest : Int64) (a0_foundSquare : Int32) (Q : Int64 → Prop) (A : Nat → Prop) : Array Value → State → Outcome → State → Prop := va_Ql (fun (r : Int64) (_ : Unit) => Q r) (post_ dC dI A (fun (u : Unit) => [(h_a0, .inr (8, [.int a0_primes, w_a0_prime, w_a0_isNone, .int a0_hasSpan, .long a0_spanFrom, .int a0_spanMany, w_a0_least, w_a0_greatest, w_a0_isSquared, .int a0_hasPart, .long a0_parted, .int a0_partMany, w_a0_partPrime, w_a0_partPower, .int a0_rows, w_a0_row, .long a0_foundLeast, .long a0_foundGreatest, .int a0_foundSquare]))])) A
set_option maxHeartbeats 4000000 in
set_option maxRecDepth 100000 in
theorem c_X9_far (l : Launch) (dC : Nat → ClassId) (dI : Nat → Nat → Nat) (cI cJ cZ : ClassId) (sz : Nat) (h_a0 : Nat) (a0_primes : Int32) (w_a0_prime : Value) (w_a0_isNone : Value) (a0_hasSpan : Int32) (a0_spanFrom : Int64) (a0_spanMany : Int32) (w_a0_least : Value) (w_a0_greatest : Value) (w_a0_isSquared : Value) (a0_hasPart : Int32) (a0_parted : Int64) (a0_partMany : Int32) (w_a0_partPrime : Value) (w_a0_partPower : Value) (a0_rows : Int32) (w_a0_row : Value) (a0_foundLeast : Int64) (a0_foundGreatest : Int64) (a0_foundSquare : Int32) (p1 : Int32) (p2 : Int32) (p3 : Int32) (Q : Int64 → Prop) (hQ : wp_X9_far p1 p2 p3 Q) : Met l yX9_far wsX9_far rm_X9_far (pre_ dC dI cI cJ cZ [.ref h_a0, .int p1, .int p2, .int p3] [(h_a0, .inr (8, [.int a0_primes, w_a0_prime, w_a0_isNone, .int a0_hasSpan, .long a0_spanFrom, .int a0_spanMany, w_a0_least, w_a0_greatest, w_a0_isSquared, .int a0_hasPart, .long a0_parted, .int a0_partMany, w_a0_partPrime, w_a0_partPower, .int a0_rows, w_a0_row, .long a0_foundLeast, .long a0_foundGreatest, .int a0_foundSquare]))] sz) (qc_X9_far dC dI cI cJ cZ h_a0 a0_primes w_a0_prime w_a0_isNone a0_hasSpan a0_spanFrom a0_spanMany w_a0_least w_a0_greatest w_a0_isSquared a0_hasPart a0_parted a0_partMany w_a0_partPrime w_a0_partPower a0_rows w_a0_row a0_foundLeast a0_foundGreatest a0_foundSquare Q (va_A [(h_a0, .inr (8, [.int a0_primes, w_a0_prime, w_a0_isNone, .int a0_hasSpan, .long a0_spanFrom, .int a0_spanMany, w_a0_least, w_a0_greatest, w_a0_isSquared, .int a0_hasPart, .long a0_parted, .int a0_partMany, w_a0_partPrime, w_a0_partPower, .int a0_rows, w_a0_row, .long a0_foundLeast, .long a0_foundGreatest, .int a0_foundSquare]))] sz)) 0 0 (va_A [(h_a0, .inr (8, [.int a0_primes, w_a0_prime, w_a0_isNone, .int a0_hasSpan, .long a0_spanFrom, .int a0_spanMany, w_a0_least, w_a0_greatest, w_a0_isSquared, .int a0_hasPart, .long a0_parted, .int a0_partMany, w_a0_partPrime, w_a0_partPower, .int a0_rows, w_a0_row, .long a0_foundLeast, .long a0_foundGreatest, .int a0_foundSquare]))] sz) := by
  refine Met.ofW (cc := cX9_far) (maxL := 12) (ret := (some .long)) (by decide) rfl ?_
  intro p e s m args below meth c s₁ B hml hv
  obtain ⟨rfl, hsz, hP, hK, hN, hD0⟩ := hv
  have hx := B.exec
  have hb := B.bytes
  have hr := B.returns
  have hts := atoms_spec (ws := wsX9_far) B.pre
  have hown : s.vm.findClass RX9 = some m.cls := findClass_of_methodNamed B.named
  subst hsz
  have hD := hD0.self (sz := s.heap.size)
  generalize hAe : va_A [(h_a0, .inr (8, [.int a0_primes, w_a0_prime, w_a0_isNone, .int a0_hasSpan, .long a0_spanFrom, .int a0_spanMany, w_a0_least, w_a0_greatest, w_a0_isSquared, .int a0_hasPart, .long a0_parted, .int a0_partMany, w_a0_partPrime, w_a0_partPower, .int a0_rows, w_a0_row, .long a0_foundLeast, .long a0_foundGreatest, .int a0_foundSquare]))] s.heap.size = A at hD ⊢
  have hA : ∀ q : Nat, s.heap.size ≤ q → A q := fun q h => by rw [← hAe]; exact Or.inr h
  have hS : va_S A s.heap s.heap [] := va_S.rf
  have hl := lv_entry ([.ref h_a0, .int p1, .int p2, .int p3]) (n := 12) (Nat.le_of_ble_eq_true rfl)
  rw [lg_entry_eq]
  generalize (lg_sl ([.ref h_a0, .int p1, .int p2, .int p3]) ++ List.replicate (12 - (lg_sl ([.ref h_a0, .int p1, .int p2, .int p3])).length) Slot.unset).toArray = ls at hl ⊢
  have hl : lv_has ls 12 [(0, .ref h_a0), (1, .int p1), (2, .int p2), (3, .int p3)] := hl
  have h := hQ
  unfold wp_X9_far at h
  have hw_0 := hts (.constantLong RX9 104 (1000000000)) (by decide +kernel)
  refine lv_iload_n hx hb dX9_far_0 rfl (lv_at hl 1 rfl) ?_
  have hPc := hP.sub (ws' := []) [] rfl
  have hDc := hD.sub (ws' := []) [] (by decide) rfl
  have hFc := va_free (wc := []) hD hS hA [] rfl
  refine va_calli (va_runS (As := [.int p1]) (rest := []) ⟨hx, hb, hml, hown, hts⟩ (c_X9_isFar l dC dI cI cJ cZ _ p1 _ h) (va_cwS 1 hts gX9_far_X9_isFar rfl rfl rfl (by decide +kernel) ⟨Nat.le_of_ble_eq_true rfl, Nat.le_of_ble_eq_true rfl⟩) ⟨pre_fb, pre_of hPc hDc hK hN⟩ rfl rfl hl.1 rfl (lv_room (Nat.le_of_ble_eq_true rfl)) dX9_far_1 ⟨by first | exact Nat.le_of_ble_eq_true rfl | exact Nat.le_refl _, by first | exact Nat.le_of_ble_eq_true rfl | exact Nat.le_refl _⟩) hS (fun q _ h => hFc q h) hFc (fun r_1 u t H1 locs ht hvm h hB hz1 hk1 hS => ?_)
  obtain ⟨hP1, hD1⟩ := hB
  rw [ht] at hP1
  try dsimp only at h
  obtain ⟨hP, hD⟩ := va_join (wr := [(h_a0, .inr (8, [.int a0_primes, w_a0_prime, w_a0_isNone, .int a0_hasSpan, .long a0_spanFrom, .int a0_spanMany, w_a0_least, w_a0_greatest, w_a0_isSquared, .int a0_hasPart, .long a0_parted, .int a0_partMany, w_a0_partPrime, w_a0_partPower, .int a0_rows, w_a0_row, .long a0_foundLeast, .long a0_foundGreatest, .int a0_foundSquare]))]) (w1 := []) hP hD [] [0] rfl rfl (by decide) (by decide) hk1 hFc hP1 hD1
  generalize H1 = H at hP hS ⊢
  have hP : va_P (dC, dI) vwCl [(h_a0, .inr (8, [.int a0_primes, w_a0_prime, w_a0_isNone, .int a0_hasSpan, .long a0_spanFrom, .int a0_spanMany, w_a0_least, w_a0_greatest, w_a0_isSquared, .int a0_hasPart, .long a0_parted, .int a0_partMany, w_a0_partPrime, w_a0_partPower, .int a0_rows, w_a0_row, .long a0_foundLeast, .long a0_foundGreatest, .int a0_foundSquare]))] H := hP
  have hD : va_D A [(h_a0, .inr (8, [.int a0_primes, w_a0_prime, w_a0_isNone, .int a0_hasSpan, .long a0_spanFrom, .int a0_spanMany, w_a0_least, w_a0_greatest, w_a0_isSquared, .int a0_hasPart, .long a0_parted, .int a0_partMany, w_a0_partPrime, w_a0_partPower, .int a0_rows, w_a0_row, .long a0_foundLeast, .long a0_foundGreatest, .int a0_foundSquare]))] := hD
  refine lv_if_eq (tgt := 26) hx hb dX9_far_4 (by decide) (fun c_2 => ?_) (fun c_2 => ?_)
  · replace h := h.1 c_2
    refine lv_lconst (v := (0 : Int64)) hx hb dX9_far_26 (by decide) ?_
    have hP9 := hP.sub (ws' := [(h_a0, .inr (8, [.int a0_primes, w_a0_prime, w_a0_isNone, .int a0_hasSpan, .long a0_spanFrom, .int a0_spanMany, w_a0_least, w_a0_greatest, w_a0_isSquared, .int a0_hasPart, .long a0_parted, .int a0_partMany, w_a0_partPrime, w_a0_partPower, .int a0_rows, w_a0_row, .long a0_foundLeast, .long a0_foundGreatest, .int a0_foundSquare]))]) [0] rfl
    have hD9 := hD.sub (ws' := [(h_a0, .inr (8, [.int a0_primes, w_a0_prime, w_a0_isNone, .int a0_hasSpan, .long a0_spanFrom, .int a0_spanMany, w_a0_least, w_a0_greatest, w_a0_isSquared, .int a0_hasPart, .long a0_parted, .int a0_partMany, w_a0_partPrime, w_a0_partPower, .int a0_rows, w_a0_row, .long a0_foundLeast, .long a0_foundGreatest, .int a0_foundSquare]))]) [0] (by decide) rfl
    exact W.lret (v := (0 : Int64)) hx hb hr (fun t ht hW => ⟨⟨_, (), rfl, h, by rw [ht]; exact hP9, hD9⟩, hS.F ht⟩) hS.2.2 dX9_far_27
  · replace h := h.2 c_2
    refine lv_iload_n hx hb dX9_far_7 rfl (lv_at hl 2 rfl) ?_
    have hPc := hP.sub (ws' := []) [] rfl
    have hDc := hD.sub (ws' := []) [] (by decide) rfl
    have hFc := va_free (wc := []) hD hS hA [] rfl
    refine va_calli (va_runS (As := [.int p2]) (rest := []) ⟨hx, hb, hml, hown, hts⟩ (c_X9_isFar l dC dI cI cJ cZ _ p2 _ h) (va_cwS 1 hts gX9_far_X9_isFar rfl rfl rfl (by decide +kernel) ⟨Nat.le_of_ble_eq_true rfl, Nat.le_of_ble_eq_true rfl⟩) ⟨pre_fb, pre_of hPc hDc hK hN⟩ rfl rfl hl.1 rfl (lv_room (Nat.le_of_ble_eq_true rfl)) dX9_far_8 ⟨by first | exact Nat.le_of_ble_eq_true rfl | exact Nat.le_refl _, by first | exact Nat.le_of_ble_eq_true rfl | exact Nat.le_refl _⟩) hS (fun q _ h => hFc q h) hFc (fun r_3 u t H1 locs ht hvm h hB hz1 hk1 hS => ?_)
    obtain ⟨hP1, hD1⟩ := hB
    rw [ht] at hP1
    try dsimp only at h
    obtain ⟨hP, hD⟩ := va_join (wr := [(h_a0, .inr (8, [.int a0_primes, w_a0_prime, w_a0_isNone, .int a0_hasSpan, .long a0_spanFrom, .int a0_spanMany, w_a0_least, w_a0_greatest, w_a0_isSquared, .int a0_hasPart, .long a0_parted, .int a0_partMany, w_a0_partPrime, w_a0_partPower, .int a0_rows, w_a0_row, .long a0_foundLeast, .long a0_foundGreatest, .int a0_foundSquare]))]) (w1 := []) hP hD [] [0] rfl rfl (by decide) (by decide) hk1 hFc hP1 hD1
    generalize H1 = H at hP hS ⊢
    have hP : va_P (dC, dI) vwCl [(h_a0, .inr (8, [.int a0_primes, w_a0_prime, w_a0_isNone, .int a0_hasSpan, .long a0_spanFrom, .int a0_spanMany, w_a0_least, w_a0_greatest, w_a0_isSquared, .int a0_hasPart, .long a0_parted, .int a0_partMany, w_a0_partPrime, w_a0_partPower, .int a0_rows, w_a0_row, .long a0_foundLeast, .long a0_foundGreatest, .int a0_foundSquare]))] H := hP
    have hD : va_D A [(h_a0, .inr (8, [.int a0_primes, w_a0_prime, w_a0_isNone, .int a0_hasSpan, .long a0_spanFrom, .int a0_spanMany, w_a0_least, w_a0_greatest, w_a0_isSquared, .int a0_hasPart, .long a0_parted, .int a0_partMany, w_a0_partPrime, w_a0_partPower, .int a0_rows, w_a0_row, .long a0_foundLeast, .long a0_foundGreatest, .int a0_foundSquare]))] := hD
    refine lv_if_eq (tgt := 26) hx hb dX9_far_11 (by decide) (fun c_4 => ?_) (fun c_4 => ?_)
    · replace h := h.1 c_4
      refine lv_lconst (v := (0 : Int64)) hx hb dX9_far_26 (by decide) ?_
      have hP9 := hP.sub (ws' := [(h_a0, .inr (8, [.int a0_primes, w_a0_prime, w_a0_isNone, .int a0_hasSpan, .long a0_spanFrom, .int a0_spanMany, w_a0_least, w_a0_greatest, w_a0_isSquared, .int a0_hasPart, .long a0_parted, .int a0_partMany, w_a0_partPrime, w_a0_partPower, .int a0_rows, w_a0_row, .long a0_foundLeast, .long a0_foundGreatest, .int a0_foundSquare]))]) [0] rfl
      have hD9 := hD.sub (ws' := [(h_a0, .inr (8, [.int a0_primes, w_a0_prime, w_a0_isNone, .int a0_hasSpan, .long a0_spanFrom, .int a0_spanMany, w_a0_least, w_a0_greatest, w_a0_isSquared, .int a0_hasPart, .long a0_parted, .int a0_partMany, w_a0_partPrime, w_a0_partPower, .int a0_rows, w_a0_row, .long a0_foundLeast, .long a0_foundGreatest, .int a0_foundSquare]))]) [0] (by decide) rfl
      exact W.lret (v := (0 : Int64)) hx hb hr (fun t ht hW => ⟨⟨_, (), rfl, h, by rw [ht]; exact hP9, hD9⟩, hS.F ht⟩) hS.2.2 dX9_far_27
    · replace h := h.2 c_4
      refine lv_iload_n hx hb dX9_far_14 rfl (lv_at hl 3 rfl) ?_
      refine lv_i2l hx hb dX9_far_15 rfl ?_
      refine lv_lconst (v := (0 : Int64)) hx hb dX9_far_16 (by decide) ?_
      refine lv_ldc2 hx hb hown hw_0 dX9_far_17 ?_
      have hPc := hP.sub (ws' := []) [] rfl
      have hDc := hD.sub (ws' := []) [] (by decide) rfl
      have hFc := va_free (wc := []) hD hS hA [] rfl
      refine va_calli (va_runS (As := [.long p3.toInt64, .long (0 : Int64), .long (1000000000 : Int64)]) (rest := []) ⟨hx, hb, hml, hown, hts⟩ (c_X9_in l dC dI cI cJ cZ _ (p3.toInt64) (0 : Int64) (1000000000 : Int64) _ h) (va_cwS 3 hts gX9_far_X9_in rfl rfl rfl (by decide +kernel) ⟨Nat.le_of_ble_eq_true rfl, Nat.le_of_ble_eq_true rfl⟩) ⟨pre_fb, pre_of hPc hDc hK hN⟩ rfl rfl hl.1 rfl (lv_room (Nat.le_of_ble_eq_true rfl)) dX9_far_20 ⟨by first | exact Nat.le_of_ble_eq_true rfl | exact Nat.le_refl _, by first | exact Nat.le_of_ble_eq_true rfl | exact Nat.le_refl _⟩) hS (fun q _ h => hFc q h) hFc (fun r_5 u t H1 locs ht hvm h hB hz1 hk1 hS => ?_)
      obtain ⟨hP1, hD1⟩ := hB
      rw [ht] at hP1
      try dsimp only at h
      obtain ⟨hP, hD⟩ := va_join (wr := [(h_a0, .inr (8, [.int a0_primes, w_a0_prime, w_a0_isNone, .int a0_hasSpan, .long a0_spanFrom, .int a0_spanMany, w_a0_least, w_a0_greatest, w_a0_isSquared, .int a0_hasPart, .long a0_parted, .int a0_partMany, w_a0_partPrime, w_a0_partPower, .int a0_rows, w_a0_row, .long a0_foundLeast, .long a0_foundGreatest, .int a0_foundSquare]))]) (w1 := []) hP hD [] [0] rfl rfl (by decide) (by decide) hk1 hFc hP1 hD1
      generalize H1 = H at hP hS ⊢
      have hP : va_P (dC, dI) vwCl [(h_a0, .inr (8, [.int a0_primes, w_a0_prime, w_a0_isNone, .int a0_hasSpan, .long a0_spanFrom, .int a0_spanMany, w_a0_least, w_a0_greatest, w_a0_isSquared, .int a0_hasPart, .long a0_parted, .int a0_partMany, w_a0_partPrime, w_a0_partPower, .int a0_rows, w_a0_row, .long a0_foundLeast, .long a0_foundGreatest, .int a0_foundSquare]))] H := hP
      have hD : va_D A [(h_a0, .inr (8, [.int a0_primes, w_a0_prime, w_a0_isNone, .int a0_hasSpan, .long a0_spanFrom, .int a0_spanMany, w_a0_least, w_a0_greatest, w_a0_isSquared, .int a0_hasPart, .long a0_parted, .int a0_partMany, w_a0_partPrime, w_a0_partPower, .int a0_rows, w_a0_row, .long a0_foundLeast, .long a0_foundGreatest, .int a0_foundSquare]))] := hD
      refine lv_if_ne (tgt := 28) hx hb dX9_far_23 (by decide) (fun c_6 => ?_) (fun c_6 => ?_)
      · replace h := h.2 c_6
        refine lv_lconst (v := (0 : Int64)) hx hb dX9_far_28 (by decide) ?_
        refine lv_lstore (lv' := [(4, .long (0 : Int64)), (0, .ref h_a0), (1, .int p1), (2, .int p2), (3, .int p3)]) hx hb dX9_far_29 hl (by decide) rfl (fun ls hl => ?_)
        refine lv_lconst (v := (1 : Int64)) hx hb dX9_far_31 (by decide) ?_
        refine lv_lstore (lv' := [(6, .long (1 : Int64)), (4, .long (0 : Int64)), (0, .ref h_a0), (1, .int p1), (2, .int p2), (3, .int p3)]) hx hb dX9_far_32 hl (by decide) rfl (fun ls hl => ?_)
        obtain ⟨I_34_6, m_34_6, h0_34_6, hs_34_6⟩ := h
        have key_34_6 : ∀ (n : Nat) (l6_34_6 : Int64) (l4_34_6 : Int64), m_34_6 l6_34_6 l4_34_6 < n → I_34_6 l6_34_6 l4_34_6 → ∀ (ls : Array Slot) (H : Heap) (locs : List Loc), lv_has ls 12 [(6, .long l6_34_6), (4, .long l4_34_6), (1, .int p1), (2, .int p2), (3, .int p3)] → va_P (dC, dI) vwCl [(h_a0, .inr (8, [.int a0_primes, w_a0_prime, w_a0_isNone, .int a0_hasSpan, .long a0_spanFrom, .int a0_spanMany, w_a0_least, w_a0_greatest, w_a0_isSquared, .int a0_hasPart, .long a0_parted, .int a0_partMany, w_a0_partPrime, w_a0_partPower, .int a0_rows, w_a0_row, .long a0_foundLeast, .long a0_foundGreatest, .int a0_foundSquare]))] H → va_D A [(h_a0, .inr (8, [.int a0_primes, w_a0_prime, w_a0_isNone, .int a0_hasSpan, .long a0_spanFrom, .int a0_spanMany, w_a0_least, w_a0_greatest, w_a0_isSquared, .int a0_hasPart, .long a0_parted, .int a0_partMany, w_a0_partPrime, w_a0_partPower, .int a0_rows, w_a0_row, .long a0_foundLeast, .long a0_foundGreatest, .int a0_foundSquare]))] → va_S A s.heap H locs → W p l e (headSpec wsX9_far rm_X9_far).room s m ([.ref h_a0, .int p1, .int p2, .int p3] : List Value).toArray below meth c H locs 0 0 (MQ below (qc_X9_far dC dI cI cJ cZ h_a0 a0_primes w_a0_prime w_a0_isNone a0_hasSpan a0_spanFrom a0_spanMany w_a0_least w_a0_greatest w_a0_isSquared a0_hasPart a0_parted a0_partMany w_a0_partPrime w_a0_partPower a0_rows w_a0_row a0_foundLeast a0_foundGreatest a0_foundSquare Q A) ([.ref h_a0, .int p1, .int p2, .int p3] : List Value).toArray s 0 0 A) (F0 m 34 ls []) := by
          intro n
          induction n with
          | zero =>
            intro l6_34_6 l4_34_6 hm
            exact absurd hm (Nat.not_lt_zero _)
          | succ n ih_34_6 =>
            intro l6_34_6 l4_34_6 hm_34_6 hI ls H locs hl hP hD hS
            have h := hs_34_6 l6_34_6 l4_34_6 hI
            refine lv_lload hx hb dX9_far_34 (lv_at hl 0 rfl) ?_
            refine lv_iload_n hx hb dX9_far_36 rfl (lv_at hl 4 rfl) ?_
            refine lv_i2l hx hb dX9_far_37 rfl ?_
            refine W.lcmp hx hb dX9_far_38 ?_
            refine lv_if_gt (tgt := 92) hx hb dX9_far_39 (by decide) (fun c_8 => ?_) (fun c_8 => ?_)
            · replace c_8 := (lg_cmp_gt _ _).mp c_8
              replace h := h.1 c_8
              refine lv_lload hx hb dX9_far_92 (lv_at hl 1 rfl) ?_
              have hP9 := hP.sub (ws' := [(h_a0, .inr (8, [.int a0_primes, w_a0_prime, w_a0_isNone, .int a0_hasSpan, .long a0_spanFrom, .int a0_spanMany, w_a0_least, w_a0_greatest, w_a0_isSquared, .int a0_hasPart, .long a0_parted, .int a0_partMany, w_a0_partPrime, w_a0_partPower, .int a0_rows, w_a0_row, .long a0_foundLeast, .long a0_foundGreatest, .int a0_foundSquare]))]) [0] rfl
              have hD9 := hD.sub (ws' := [(h_a0, .inr (8, [.int a0_primes, w_a0_prime, w_a0_isNone, .int a0_hasSpan, .long a0_spanFrom, .int a0_spanMany, w_a0_least, w_a0_greatest, w_a0_isSquared, .int a0_hasPart, .long a0_parted, .int a0_partMany, w_a0_partPrime, w_a0_partPower, .int a0_rows, w_a0_row, .long a0_foundLeast, .long a0_foundGreatest, .int a0_foundSquare]))]) [0] (by decide) rfl
              exact W.lret (v := l4_34_6) hx hb hr (fun t ht hW => ⟨⟨_, (), rfl, h, by rw [ht]; exact hP9, hD9⟩, hS.F ht⟩) hS.2.2 dX9_far_94
            · replace c_8 := lc_ngt c_8
              replace h := h.2 c_8
              refine lv_iload_n hx hb dX9_far_42 rfl (lv_at hl 4 rfl) ?_
              refine lv_i2l hx hb dX9_far_43 rfl ?_
              refine lv_lload hx hb dX9_far_44 (lv_at hl 0 rfl) ?_
              obtain ⟨hne_9, h⟩ := h
              refine lv_ldiv hx hb dX9_far_46 hne_9 ?_
              refine lv_topl (fun x8_10 e_x8_10 => ?_)
              replace h := h x8_10 e_x8_10
              refine lv_lstore (lv' := [(8, .long x8_10), (6, .long l6_34_6), (4, .long l4_34_6), (1, .int p1), (2, .int p2), (3, .int p3)]) hx hb dX9_far_47 hl (by decide) rfl (fun ls hl => ?_)
              refine lv_iload_n hx hb dX9_far_49 rfl (lv_at hl 5 rfl) ?_
              refine lv_i2l hx hb dX9_far_50 rfl ?_
              refine lv_lload hx hb dX9_far_51 (lv_at hl 0 rfl) ?_
              obtain ⟨hne_11, h⟩ := h
              refine lv_ldiv hx hb dX9_far_53 hne_11 ?_
              refine lv_topl (fun x10_12 e_x10_12 => ?_)
              replace h := h x10_12 e_x10_12
              refine lv_lstore (lv' := [(10, .long x10_12), (8, .long x8_10), (6, .long l6_34_6), (4, .long l4_34_6), (1, .int p1), (2, .int p2), (3, .int p3)]) hx hb dX9_far_54 hl (by decide) rfl (fun ls hl => ?_)
              refine lv_lload hx hb dX9_far_56 (lv_at hl 3 rfl) ?_
              refine lv_iload_n hx hb dX9_far_58 rfl (lv_at hl 4 rfl) ?_
              refine lv_lload hx hb dX9_far_59 (lv_at hl 0 rfl) ?_
              have hPc := hP.sub (ws' := []) [] rfl
              have hDc := hD.sub (ws' := []) [] (by decide) rfl
              have hFc := va_free (wc := []) hD hS hA [] rfl
              refine va_calll (va_runS (As := [.int p1, .long x10_12]) (rest := [.long l4_34_6]) ⟨hx, hb, hml, hown, hts⟩ (c_X9_upTo l dC dI cI cJ cZ _ p1 x10_12 _ h) (va_cwS 2 hts gX9_far_X9_upTo rfl rfl rfl (by decide +kernel) ⟨Nat.le_of_ble_eq_true rfl, Nat.le_of_ble_eq_true rfl⟩) ⟨pre_fb, pre_of hPc hDc hK hN⟩ rfl rfl hl.1 rfl (lv_room (Nat.le_of_ble_eq_true rfl)) dX9_far_61 ⟨by first | exact Nat.le_of_ble_eq_true rfl | exact Nat.le_refl _, by first | exact Nat.le_of_ble_eq_true rfl | exact Nat.le_refl _⟩) hS (fun q _ h => hFc q h) hFc (fun r_13 u t H1 locs ht hvm h hB hz1 hk1 hS => ?_)
              obtain ⟨hP1, hD1⟩ := hB
              rw [ht] at hP1
              try dsimp only at h
              obtain ⟨hP, hD⟩ := va_join (wr := [(h_a0, .inr (8, [.int a0_primes, w_a0_prime, w_a0_isNone, .int a0_hasSpan, .long a0_spanFrom, .int a0_spanMany, w_a0_least, w_a0_greatest, w_a0_isSquared, .int a0_hasPart, .long a0_parted, .int a0_partMany, w_a0_partPrime, w_a0_partPower, .int a0_rows, w_a0_row, .long a0_foundLeast, .long a0_foundGreatest, .int a0_foundSquare]))]) (w1 := []) hP hD [] [0] rfl rfl (by decide) (by decide) hk1 hFc hP1 hD1
              generalize H1 = H at hP hS ⊢
              have hP : va_P (dC, dI) vwCl [(h_a0, .inr (8, [.int a0_primes, w_a0_prime, w_a0_isNone, .int a0_hasSpan, .long a0_spanFrom, .int a0_spanMany, w_a0_least, w_a0_greatest, w_a0_isSquared, .int a0_hasPart, .long a0_parted, .int a0_partMany, w_a0_partPrime, w_a0_partPower, .int a0_rows, w_a0_row, .long a0_foundLeast, .long a0_foundGreatest, .int a0_foundSquare]))] H := hP
              have hD : va_D A [(h_a0, .inr (8, [.int a0_primes, w_a0_prime, w_a0_isNone, .int a0_hasSpan, .long a0_spanFrom, .int a0_spanMany, w_a0_least, w_a0_greatest, w_a0_isSquared, .int a0_hasPart, .long a0_parted, .int a0_partMany, w_a0_partPrime, w_a0_partPower, .int a0_rows, w_a0_row, .long a0_foundLeast, .long a0_foundGreatest, .int a0_foundSquare]))] := hD
              refine lv_iload_n hx hb dX9_far_64 rfl (lv_at hl 4 rfl) ?_
              refine lv_lload hx hb dX9_far_65 (lv_at hl 2 rfl) ?_
              refine lv_lconst (v := (1 : Int64)) hx hb dX9_far_67 (by decide) ?_
              refine lv_lsub hx hb dX9_far_68 ?_
              have hPc := hP.sub (ws' := []) [] rfl
              have hDc := hD.sub (ws' := []) [] (by decide) rfl
              have hFc := va_free (wc := []) hD hS hA [] rfl
              refine va_calll (va_runS (As := [.int p1, .long (l6_34_6 - (1 : Int64))]) (rest := [.long r_13, .long l4_34_6]) ⟨hx, hb, hml, hown, hts⟩ (c_X9_upTo l dC dI cI cJ cZ _ p1 (l6_34_6 - (1 : Int64)) _ h) (va_cwS 2 hts gX9_far_X9_upTo rfl rfl rfl (by decide +kernel) ⟨Nat.le_of_ble_eq_true rfl, Nat.le_of_ble_eq_true rfl⟩) ⟨pre_fb, pre_of hPc hDc hK hN⟩ rfl rfl hl.1 rfl (lv_room (Nat.le_of_ble_eq_true rfl)) dX9_far_69 ⟨by first | exact Nat.le_of_ble_eq_true rfl | exact Nat.le_refl _, by first | exact Nat.le_of_ble_eq_true rfl | exact Nat.le_refl _⟩) hS (fun q _ h => hFc q h) hFc (fun r_14 u t H1 locs ht hvm h hB hz1 hk1 hS => ?_)
              obtain ⟨hP1, hD1⟩ := hB
              rw [ht] at hP1
              try dsimp only at h
              obtain ⟨hP, hD⟩ := va_join (wr := [(h_a0, .inr (8, [.int a0_primes, w_a0_prime, w_a0_isNone, .int a0_hasSpan, .long a0_spanFrom, .int a0_spanMany, w_a0_least, w_a0_greatest, w_a0_isSquared, .int a0_hasPart, .long a0_parted, .int a0_partMany, w_a0_partPrime, w_a0_partPower, .int a0_rows, w_a0_row, .long a0_foundLeast, .long a0_foundGreatest, .int a0_foundSquare]))]) (w1 := []) hP hD [] [0] rfl rfl (by decide) (by decide) hk1 hFc hP1 hD1
              generalize H1 = H at hP hS ⊢
              have hP : va_P (dC, dI) vwCl [(h_a0, .inr (8, [.int a0_primes, w_a0_prime, w_a0_isNone, .int a0_hasSpan, .long a0_spanFrom, .int a0_spanMany, w_a0_least, w_a0_greatest, w_a0_isSquared, .int a0_hasPart, .long a0_parted, .int a0_partMany, w_a0_partPrime, w_a0_partPower, .int a0_rows, w_a0_row, .long a0_foundLeast, .long a0_foundGreatest, .int a0_foundSquare]))] H := hP
              have hD : va_D A [(h_a0, .inr (8, [.int a0_primes, w_a0_prime, w_a0_isNone, .int a0_hasSpan, .long a0_spanFrom, .int a0_spanMany, w_a0_least, w_a0_greatest, w_a0_isSquared, .int a0_hasPart, .long a0_parted, .int a0_partMany, w_a0_partPrime, w_a0_partPower, .int a0_rows, w_a0_row, .long a0_foundLeast, .long a0_foundGreatest, .int a0_foundSquare]))] := hD
              refine lv_lsub hx hb dX9_far_72 ?_
              refine lv_iload_n hx hb dX9_far_73 rfl (lv_at hl 5 rfl) ?_
              refine lv_lload hx hb dX9_far_74 (lv_at hl 1 rfl) ?_
              have hPc := hP.sub (ws' := []) [] rfl
              have hDc := hD.sub (ws' := []) [] (by decide) rfl
              have hFc := va_free (wc := []) hD hS hA [] rfl
              refine va_calll (va_runS (As := [.int p2, .long x8_10]) (rest := [.long (r_13 - r_14), .long l4_34_6]) ⟨hx, hb, hml, hown, hts⟩ (c_X9_upTo l dC dI cI cJ cZ _ p2 x8_10 _ h) (va_cwS 2 hts gX9_far_X9_upTo rfl rfl rfl (by decide +kernel) ⟨Nat.le_of_ble_eq_true rfl, Nat.le_of_ble_eq_true rfl⟩) ⟨pre_fb, pre_of hPc hDc hK hN⟩ rfl rfl hl.1 rfl (lv_room (Nat.le_of_ble_eq_true rfl)) dX9_far_76 ⟨by first | exact Nat.le_of_ble_eq_true rfl | exact Nat.le_refl _, by first | exact Nat.le_of_ble_eq_true rfl | exact Nat.le_refl _⟩) hS (fun q _ h => hFc q h) hFc (fun r_15 u t H1 locs ht hvm h hB hz1 hk1 hS => ?_)
              obtain ⟨hP1, hD1⟩ := hB
              rw [ht] at hP1
              try dsimp only at h
              obtain ⟨hP, hD⟩ := va_join (wr := [(h_a0, .inr (8, [.int a0_primes, w_a0_prime, w_a0_isNone, .int a0_hasSpan, .long a0_spanFrom, .int a0_spanMany, w_a0_least, w_a0_greatest, w_a0_isSquared, .int a0_hasPart, .long a0_parted, .int a0_partMany, w_a0_partPrime, w_a0_partPower, .int a0_rows, w_a0_row, .long a0_foundLeast, .long a0_foundGreatest, .int a0_foundSquare]))]) (w1 := []) hP hD [] [0] rfl rfl (by decide) (by decide) hk1 hFc hP1 hD1
              generalize H1 = H at hP hS ⊢
              have hP : va_P (dC, dI) vwCl [(h_a0, .inr (8, [.int a0_primes, w_a0_prime, w_a0_isNone, .int a0_hasSpan, .long a0_spanFrom, .int a0_spanMany, w_a0_least, w_a0_greatest, w_a0_isSquared, .int a0_hasPart, .long a0_parted, .int a0_partMany, w_a0_partPrime, w_a0_partPower, .int a0_rows, w_a0_row, .long a0_foundLeast, .long a0_foundGreatest, .int a0_foundSquare]))] H := hP
              have hD : va_D A [(h_a0, .inr (8, [.int a0_primes, w_a0_prime, w_a0_isNone, .int a0_hasSpan, .long a0_spanFrom, .int a0_spanMany, w_a0_least, w_a0_greatest, w_a0_isSquared, .int a0_hasPart, .long a0_parted, .int a0_partMany, w_a0_partPrime, w_a0_partPower, .int a0_rows, w_a0_row, .long a0_foundLeast, .long a0_foundGreatest, .int a0_foundSquare]))] := hD
              refine lv_lmul hx hb dX9_far_79 ?_
              refine lv_ladd hx hb dX9_far_80 ?_
              refine lv_topl (fun x4_16 e_x4_16 => ?_)
              replace h := h x4_16 e_x4_16
              refine lv_lstore (lv' := [(4, .long x4_16), (10, .long x10_12), (8, .long x8_10), (6, .long l6_34_6), (1, .int p1), (2, .int p2), (3, .int p3)]) hx hb dX9_far_81 hl (by decide) rfl (fun ls hl => ?_)
              refine lv_lload hx hb dX9_far_83 (lv_at hl 1 rfl) ?_
              refine lv_lconst (v := (1 : Int64)) hx hb dX9_far_85 (by decide) ?_
              refine lv_ladd hx hb dX9_far_86 ?_
              refine lv_topl (fun x6_17 e_x6_17 => ?_)
              replace h := h x6_17 e_x6_17
              refine lv_lstore (lv' := [(6, .long x6_17), (4, .long x4_16), (10, .long x10_12), (8, .long x8_10), (1, .int p1), (2, .int p2), (3, .int p3)]) hx hb dX9_far_87 hl (by decide) rfl (fun ls hl => ?_)
              refine lv_goto (tgt := 34) hx hb dX9_far_89 (by decide) ?_
              exact ih_34_6 x6_17 x4_16 (Nat.lt_of_lt_of_le h.2 (Nat.le_of_lt_succ hm_34_6)) h.1 _ _ _ (lv_sub hl [0, 1, 4, 5, 6] rfl) (hP.sub [0] rfl) (hD.sub [0] (by decide) rfl) hS
        exact key_34_6 _ (1 : Int64) (0 : Int64) (Nat.lt_succ_self _) h0_34_6 _ _ _ (lv_sub hl [0, 1, 3, 4, 5] rfl) (hP.sub [0] rfl) (hD.sub [0] (by decide) rfl) hS
      · replace h := h.1 c_6
        refine lv_lconst (v := (0 : Int64)) hx hb dX9_far_26 (by decide) ?_
        have hP9 := hP.sub (ws' := [(h_a0, .inr (8, [.int a0_primes, w_a0_prime, w_a0_isNone, .int a0_hasSpan, .long a0_spanFrom, .int a0_spanMany, w_a0_least, w_a0_greatest, w_a0_isSquared, .int a0_hasPart, .long a0_parted, .int a0_partMany, w_a0_partPrime, w_a0_partPower, .int a0_rows, w_a0_row, .long a0_foundLeast, .long a0_foundGreatest, .int a0_foundSquare]))]) [0] rfl
        have hD9 := hD.sub (ws' := [(h_a0, .inr (8, [.int a0_primes, w_a0_prime, w_a0_isNone, .int a0_hasSpan, .long a0_spanFrom, .int a0_spanMany, w_a0_least, w_a0_greatest, w_a0_isSquared, .int a0_hasPart, .long a0_parted, .int a0_partMany, w_a0_partPrime, w_a0_partPower, .int a0_rows, w_a0_row, .long a0_foundLeast, .long a0_foundGreatest, .int a0_foundSquare]))]) [0] (by decide) rfl
        exact W.lret (v := (0 : Int64)) hx hb hr (fun t ht hW => ⟨⟨_, (), rfl, h, by rw [ht]; exact hP9, hD9⟩, hS.F ht⟩) hS.2.2 dX9_far_27
def wp_X9_about (a0_hasSpan : Int32) (a0_spanMany : Int32) (a0_hasPart : Int32) (a0_partMany : Int32) (a0_rows : Int32) (p1 : Int32) (Q : Int32 → Prop) : Prop :=
  ((p1 = (0 : Int32) → Q a0_rows) ∧ (p1 = (1 : Int32) → ((a0_hasSpan = (0 : Int32) → Q (0 : Int32)) ∧ (¬ a0_hasSpan = (0 : Int32) → Q a0_spanMany))) ∧ (p1 = (2 : Int32) → ((a0_hasPart = (0 : Int32) → Q (-1 : Int32)) ∧ (¬ a0_hasPart = (0 : Int32) → Q a0_partMany))) ∧ (¬ p1 = (0 : Int32) → ¬ p1 = (1 : Int32) → ¬ p1 = (2 : Int32) → Q (-1 : Int32)))
abbrev rm_X9_about : Room := { frames := 0, cells := 0, slots := 0, locals := 0 }
abbrev qc_X9_about (dC : Nat → ClassId) (dI : Nat → Nat → Nat) (cI cJ cZ : ClassId) (h_a0 : Nat) (a0_primes : Int32) (w_a0_prime : Value) (w_a0_isNone : Value) (a0_hasSpan : Int32) (a0_spanFrom : Int64) (a0_spanMany : Int32) (w_a0_least : Value) (w_a0_greatest : Value) (w_a0_isSquared : Value) (a0_hasPart : Int32) (a0_parted : Int64) (a0_partMany : Int32) (w_a0_partPrime : Value) (w_a0_partPower : Value) (a0_rows : Int32) (w_a0_row : Value) (a0_foundLeast : Int64) (a0_foundGreatest : Int64) (a0_foundSquare : Int32) (Q : Int32 → Prop) (A : Nat → Prop) : Array Value → State → Outcome → State → Prop := va_Qi (fun (r : Int32) (_ : Unit) => Q r) (post_ dC dI A (fun (u : Unit) => [(h_a0, .inr (8, [.int a0_primes, w_a0_prime, w_a0_isNone, .int a0_hasSpan, .long a0_spanFrom, .int a0_spanMany, w_a0_least, w_a0_greatest, w_a0_isSquared, .int a0_hasPart, .long a0_parted, .int a0_partMany, w_a0_partPrime, w_a0_partPower, .int a0_rows, w_a0_row, .long a0_foundLeast, .long a0_foundGreatest, .int a0_foundSquare]))])) A
set_option maxHeartbeats 4000000 in
set_option maxRecDepth 100000 in
theorem c_X9_about (l : Launch) (dC : Nat → ClassId) (dI : Nat → Nat → Nat) (cI cJ cZ : ClassId) (sz : Nat) (h_a0 : Nat) (a0_primes : Int32) (w_a0_prime : Value) (w_a0_isNone : Value) (a0_hasSpan : Int32) (a0_spanFrom : Int64) (a0_spanMany : Int32) (w_a0_least : Value) (w_a0_greatest : Value) (w_a0_isSquared : Value) (a0_hasPart : Int32) (a0_parted : Int64) (a0_partMany : Int32) (w_a0_partPrime : Value) (w_a0_partPower : Value) (a0_rows : Int32) (w_a0_row : Value) (a0_foundLeast : Int64) (a0_foundGreatest : Int64) (a0_foundSquare : Int32) (p1 : Int32) (Q : Int32 → Prop) (hQ : wp_X9_about a0_hasSpan a0_spanMany a0_hasPart a0_partMany a0_rows p1 Q) : Met l yX9_about wsX9_about rm_X9_about (pre_ dC dI cI cJ cZ [.ref h_a0, .int p1] [(h_a0, .inr (8, [.int a0_primes, w_a0_prime, w_a0_isNone, .int a0_hasSpan, .long a0_spanFrom, .int a0_spanMany, w_a0_least, w_a0_greatest, w_a0_isSquared, .int a0_hasPart, .long a0_parted, .int a0_partMany, w_a0_partPrime, w_a0_partPower, .int a0_rows, w_a0_row, .long a0_foundLeast, .long a0_foundGreatest, .int a0_foundSquare]))] sz) (qc_X9_about dC dI cI cJ cZ h_a0 a0_primes w_a0_prime w_a0_isNone a0_hasSpan a0_spanFrom a0_spanMany w_a0_least w_a0_greatest w_a0_isSquared a0_hasPart a0_parted a0_partMany w_a0_partPrime w_a0_partPower a0_rows w_a0_row a0_foundLeast a0_foundGreatest a0_foundSquare Q (va_A [(h_a0, .inr (8, [.int a0_primes, w_a0_prime, w_a0_isNone, .int a0_hasSpan, .long a0_spanFrom, .int a0_spanMany, w_a0_least, w_a0_greatest, w_a0_isSquared, .int a0_hasPart, .long a0_parted, .int a0_partMany, w_a0_partPrime, w_a0_partPower, .int a0_rows, w_a0_row, .long a0_foundLeast, .long a0_foundGreatest, .int a0_foundSquare]))] sz)) 0 0 (va_A [(h_a0, .inr (8, [.int a0_primes, w_a0_prime, w_a0_isNone, .int a0_hasSpan, .long a0_spanFrom, .int a0_spanMany, w_a0_least, w_a0_greatest, w_a0_isSquared, .int a0_hasPart, .long a0_parted, .int a0_partMany, w_a0_partPrime, w_a0_partPower, .int a0_rows, w_a0_row, .long a0_foundLeast, .long a0_foundGreatest, .int a0_foundSquare]))] sz) := by
  refine Met.ofW (cc := cX9_about) (maxL := 2) (ret := (some .int)) (by decide) rfl ?_
  intro p e s m args below meth c s₁ B hml hv
  obtain ⟨rfl, hsz, hP, hK, hN, hD0⟩ := hv
  have hx := B.exec
  have hb := B.bytes
  have hr := B.returns
  have hts := atoms_spec (ws := wsX9_about) B.pre
  have hown : s.vm.findClass RX9 = some m.cls := findClass_of_methodNamed B.named
  subst hsz
  have hD := hD0.self (sz := s.heap.size)
  generalize hAe : va_A [(h_a0, .inr (8, [.int a0_primes, w_a0_prime, w_a0_isNone, .int a0_hasSpan, .long a0_spanFrom, .int a0_spanMany, w_a0_least, w_a0_greatest, w_a0_isSquared, .int a0_hasPart, .long a0_parted, .int a0_partMany, w_a0_partPrime, w_a0_partPower, .int a0_rows, w_a0_row, .long a0_foundLeast, .long a0_foundGreatest, .int a0_foundSquare]))] s.heap.size = A at hD ⊢
  have hA : ∀ q : Nat, s.heap.size ≤ q → A q := fun q h => by rw [← hAe]; exact Or.inr h
  have hS : va_S A s.heap s.heap [] := va_S.rf
  have hl := lv_entry ([.ref h_a0, .int p1]) (n := 2) (Nat.le_of_ble_eq_true rfl)
  rw [lg_entry_eq]
  generalize (lg_sl ([.ref h_a0, .int p1]) ++ List.replicate (2 - (lg_sl ([.ref h_a0, .int p1])).length) Slot.unset).toArray = ls at hl ⊢
  have hl : lv_has ls 2 [(0, .ref h_a0), (1, .int p1)] := hl
  have h := hQ
  unfold wp_X9_about at h
  have hw_0 := hts (.fieldLink RX9 112 "NumberSievesModel" "rows" "I") (by decide +kernel)
  have hin_X9 : ∀ w ∈ wsX90, w ∈ wsX9_about := by decide +kernel
  have hw_2 := hts (.fieldLink RX9 67 "NumberSievesModel" "hasSpan" "Z") (by decide +kernel)
  have hw_3 := hts (.fieldLink RX9 73 "NumberSievesModel" "spanMany" "I") (by decide +kernel)
  have hw_4 := hts (.fieldLink RX9 94 "NumberSievesModel" "hasPart" "Z") (by decide +kernel)
  have hw_5 := hts (.fieldLink RX9 54 "NumberSievesModel" "partMany" "I") (by decide +kernel)
  refine lv_iload_n hx hb dX9_about_0 rfl (lv_at hl 1 rfl) ?_
  by_cases c_1 : p1 = (0 : Int32)
  · refine lv_tableIn (off := 27) (tgt := 28) hx hb dX9_about_1 (by rw [c_1]; decide) (by rw [c_1]; decide) (by rw [c_1]; rfl) (by decide) ?_
    replace h := h.1 c_1
    refine lv_aload_n hx hb dX9_about_28 rfl (lv_at hl 0 rfl) ?_
    refine va_get (D := (dC, dI)) (ci := 8) (v := .int a0_rows) (C := RX9) (T := TX9) (N := 19) hx hb hts hin_X9 hown hK hP 0 rfl rfl 14 (by decide) hw_0 (fun _ h9 => h9) rfl dX9_about_29 ?_
    have hP9 := hP.sub (ws' := [(h_a0, .inr (8, [.int a0_primes, w_a0_prime, w_a0_isNone, .int a0_hasSpan, .long a0_spanFrom, .int a0_spanMany, w_a0_least, w_a0_greatest, w_a0_isSquared, .int a0_hasPart, .long a0_parted, .int a0_partMany, w_a0_partPrime, w_a0_partPower, .int a0_rows, w_a0_row, .long a0_foundLeast, .long a0_foundGreatest, .int a0_foundSquare]))]) [0] rfl
    have hD9 := hD.sub (ws' := [(h_a0, .inr (8, [.int a0_primes, w_a0_prime, w_a0_isNone, .int a0_hasSpan, .long a0_spanFrom, .int a0_spanMany, w_a0_least, w_a0_greatest, w_a0_isSquared, .int a0_hasPart, .long a0_parted, .int a0_partMany, w_a0_partPrime, w_a0_partPower, .int a0_rows, w_a0_row, .long a0_foundLeast, .long a0_foundGreatest, .int a0_foundSquare]))]) [0] (by decide) rfl
    exact W.iret (v := a0_rows) hx hb hr (fun t ht hW => ⟨⟨_, (), rfl, h, by rw [ht]; exact hP9, hD9⟩, hS.F ht⟩) hS.2.2 dX9_about_32
  by_cases c_2 : p1 = (1 : Int32)
  · refine lv_tableIn (off := 32) (tgt := 33) hx hb dX9_about_1 (by rw [c_2]; decide) (by rw [c_2]; decide) (by rw [c_2]; rfl) (by decide) ?_
    replace h := h.2.1 c_2
    refine lv_aload_n hx hb dX9_about_33 rfl (lv_at hl 0 rfl) ?_
    refine va_get (D := (dC, dI)) (ci := 8) (v := .int a0_hasSpan) (C := RX9) (T := TX9) (N := 19) hx hb hts hin_X9 hown hK hP 0 rfl rfl 3 (by decide) hw_2 (fun _ h9 => h9) rfl dX9_about_34 ?_
    refine lv_if_eq (tgt := 47) hx hb dX9_about_37 (by decide) (fun c_3 => ?_) (fun c_3 => ?_)
    · replace h := h.1 c_3
      refine lv_iconst (v := (0 : Int32)) hx hb dX9_about_47 (by decide) ?_
      have hP9 := hP.sub (ws' := [(h_a0, .inr (8, [.int a0_primes, w_a0_prime, w_a0_isNone, .int a0_hasSpan, .long a0_spanFrom, .int a0_spanMany, w_a0_least, w_a0_greatest, w_a0_isSquared, .int a0_hasPart, .long a0_parted, .int a0_partMany, w_a0_partPrime, w_a0_partPower, .int a0_rows, w_a0_row, .long a0_foundLeast, .long a0_foundGreatest, .int a0_foundSquare]))]) [0] rfl
      have hD9 := hD.sub (ws' := [(h_a0, .inr (8, [.int a0_primes, w_a0_prime, w_a0_isNone, .int a0_hasSpan, .long a0_spanFrom, .int a0_spanMany, w_a0_least, w_a0_greatest, w_a0_isSquared, .int a0_hasPart, .long a0_parted, .int a0_partMany, w_a0_partPrime, w_a0_partPower, .int a0_rows, w_a0_row, .long a0_foundLeast, .long a0_foundGreatest, .int a0_foundSquare]))]) [0] (by decide) rfl
      exact W.iret (v := (0 : Int32)) hx hb hr (fun t ht hW => ⟨⟨_, (), rfl, h, by rw [ht]; exact hP9, hD9⟩, hS.F ht⟩) hS.2.2 dX9_about_48
    · replace h := h.2 c_3
      refine lv_aload_n hx hb dX9_about_40 rfl (lv_at hl 0 rfl) ?_
      refine va_get (D := (dC, dI)) (ci := 8) (v := .int a0_spanMany) (C := RX9) (T := TX9) (N := 19) hx hb hts hin_X9 hown hK hP 0 rfl rfl 5 (by decide) hw_3 (fun _ h9 => h9) rfl dX9_about_41 ?_
      refine lv_goto (tgt := 48) hx hb dX9_about_44 (by decide) ?_
      have hP9 := hP.sub (ws' := [(h_a0, .inr (8, [.int a0_primes, w_a0_prime, w_a0_isNone, .int a0_hasSpan, .long a0_spanFrom, .int a0_spanMany, w_a0_least, w_a0_greatest, w_a0_isSquared, .int a0_hasPart, .long a0_parted, .int a0_partMany, w_a0_partPrime, w_a0_partPower, .int a0_rows, w_a0_row, .long a0_foundLeast, .long a0_foundGreatest, .int a0_foundSquare]))]) [0] rfl
      have hD9 := hD.sub (ws' := [(h_a0, .inr (8, [.int a0_primes, w_a0_prime, w_a0_isNone, .int a0_hasSpan, .long a0_spanFrom, .int a0_spanMany, w_a0_least, w_a0_greatest, w_a0_isSquared, .int a0_hasPart, .long a0_parted, .int a0_partMany, w_a0_partPrime, w_a0_partPower, .int a0_rows, w_a0_row, .long a0_foundLeast, .long a0_foundGreatest, .int a0_foundSquare]))]) [0] (by decide) rfl
      exact W.iret (v := a0_spanMany) hx hb hr (fun t ht hW => ⟨⟨_, (), rfl, h, by rw [ht]; exact hP9, hD9⟩, hS.F ht⟩) hS.2.2 dX9_about_48
  by_cases c_4 : p1 = (2 : Int32)
  · refine lv_tableIn (off := 48) (tgt := 49) hx hb dX9_about_1 (by rw [c_4]; decide) (by rw [c_4]; decide) (by rw [c_4]; rfl) (by decide) ?_
    replace h := h.2.2.1 c_4
    refine lv_aload_n hx hb dX9_about_49 rfl (lv_at hl 0 rfl) ?_
    refine va_get (D := (dC, dI)) (ci := 8) (v := .int a0_hasPart) (C := RX9) (T := TX9) (N := 19) hx hb hts hin_X9 hown hK hP 0 rfl rfl 9 (by decide) hw_4 (fun _ h9 => h9) rfl dX9_about_50 ?_
    refine lv_if_eq (tgt := 63) hx hb dX9_about_53 (by decide) (fun c_5 => ?_) (fun c_5 => ?_)
    · replace h := h.1 c_5
      refine lv_iconst (v := (-1 : Int32)) hx hb dX9_about_63 (by decide) ?_
      have hP9 := hP.sub (ws' := [(h_a0, .inr (8, [.int a0_primes, w_a0_prime, w_a0_isNone, .int a0_hasSpan, .long a0_spanFrom, .int a0_spanMany, w_a0_least, w_a0_greatest, w_a0_isSquared, .int a0_hasPart, .long a0_parted, .int a0_partMany, w_a0_partPrime, w_a0_partPower, .int a0_rows, w_a0_row, .long a0_foundLeast, .long a0_foundGreatest, .int a0_foundSquare]))]) [0] rfl
      have hD9 := hD.sub (ws' := [(h_a0, .inr (8, [.int a0_primes, w_a0_prime, w_a0_isNone, .int a0_hasSpan, .long a0_spanFrom, .int a0_spanMany, w_a0_least, w_a0_greatest, w_a0_isSquared, .int a0_hasPart, .long a0_parted, .int a0_partMany, w_a0_partPrime, w_a0_partPower, .int a0_rows, w_a0_row, .long a0_foundLeast, .long a0_foundGreatest, .int a0_foundSquare]))]) [0] (by decide) rfl
      exact W.iret (v := (-1 : Int32)) hx hb hr (fun t ht hW => ⟨⟨_, (), rfl, h, by rw [ht]; exact hP9, hD9⟩, hS.F ht⟩) hS.2.2 dX9_about_64
    · replace h := h.2 c_5
      refine lv_aload_n hx hb dX9_about_56 rfl (lv_at hl 0 rfl) ?_
      refine va_get (D := (dC, dI)) (ci := 8) (v := .int a0_partMany) (C := RX9) (T := TX9) (N := 19) hx hb hts hin_X9 hown hK hP 0 rfl rfl 11 (by decide) hw_5 (fun _ h9 => h9) rfl dX9_about_57 ?_
      refine lv_goto (tgt := 64) hx hb dX9_about_60 (by decide) ?_
      have hP9 := hP.sub (ws' := [(h_a0, .inr (8, [.int a0_primes, w_a0_prime, w_a0_isNone, .int a0_hasSpan, .long a0_spanFrom, .int a0_spanMany, w_a0_least, w_a0_greatest, w_a0_isSquared, .int a0_hasPart, .long a0_parted, .int a0_partMany, w_a0_partPrime, w_a0_partPower, .int a0_rows, w_a0_row, .long a0_foundLeast, .long a0_foundGreatest, .int a0_foundSquare]))]) [0] rfl
      have hD9 := hD.sub (ws' := [(h_a0, .inr (8, [.int a0_primes, w_a0_prime, w_a0_isNone, .int a0_hasSpan, .long a0_spanFrom, .int a0_spanMany, w_a0_least, w_a0_greatest, w_a0_isSquared, .int a0_hasPart, .long a0_parted, .int a0_partMany, w_a0_partPrime, w_a0_partPower, .int a0_rows, w_a0_row, .long a0_foundLeast, .long a0_foundGreatest, .int a0_foundSquare]))]) [0] (by decide) rfl
      exact W.iret (v := a0_partMany) hx hb hr (fun t ht hW => ⟨⟨_, (), rfl, h, by rw [ht]; exact hP9, hD9⟩, hS.F ht⟩) hS.2.2 dX9_about_64
  have t0 : p1.toInt ≠ 0 := fun q => c_1 (Int32.toInt_inj.mp (q.trans (by decide)))
  have t1 : p1.toInt ≠ 1 := fun q => c_2 (Int32.toInt_inj.mp (q.trans (by decide)))
  have t2 : p1.toInt ≠ 2 := fun q => c_4 (Int32.toInt_inj.mp (q.trans (by decide)))
  refine lv_tableOut (tgt := 65) hx hb dX9_about_1 (by omega) (by decide) ?_
  replace h := h.2.2.2 c_1 c_2 c_4
  refine lv_iconst (v := (-1 : Int32)) hx hb dX9_about_65 (by decide) ?_
  have hP9 := hP.sub (ws' := [(h_a0, .inr (8, [.int a0_primes, w_a0_prime, w_a0_isNone, .int a0_hasSpan, .long a0_spanFrom, .int a0_spanMany, w_a0_least, w_a0_greatest, w_a0_isSquared, .int a0_hasPart, .long a0_parted, .int a0_partMany, w_a0_partPrime, w_a0_partPower, .int a0_rows, w_a0_row, .long a0_foundLeast, .long a0_foundGreatest, .int a0_foundSquare]))]) [0] rfl
  have hD9 := hD.sub (ws' := [(h_a0, .inr (8, [.int a0_primes, w_a0_prime, w_a0_isNone, .int a0_hasSpan, .long a0_spanFrom, .int a0_spanMany, w_a0_least, w_a0_greatest, w_a0_isSquared, .int a0_hasPart, .long a0_parted, .int a0_partMany, w_a0_partPrime, w_a0_partPower, .int a0_rows, w_a0_row, .long a0_foundLeast, .long a0_foundGreatest, .int a0_foundSquare]))]) [0] (by decide) rfl
  exact W.iret (v := (-1 : Int32)) hx hb hr (fun t ht hW => ⟨⟨_, (), rfl, h, by rw [ht]; exact hP9, hD9⟩, hS.F ht⟩) hS.2.2 dX9_about_66

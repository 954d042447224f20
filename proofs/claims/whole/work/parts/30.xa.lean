def wp_X8_init   (Q : Prop) : Prop :=
  Q
abbrev rm_X8_init : Room := { frames := 1, cells := 0, slots := 0, locals := 20 }
abbrev qc_X8_init (dC : Nat → ClassId) (dI : Nat → Nat → Nat) (cI cJ cZ : ClassId) (h_a0 : Nat) (Q : Prop) (A : Nat → Prop) : Array Value → State → Outcome → State → Prop := va_Qv (fun (_ : Unit) => Q) (post_ dC dI A (fun (u : Unit) => [(h_a0, .inr (7, [.null, .null, .null, .null, .null, .null]))])) A
set_option maxHeartbeats 4000000 in
set_option maxRecDepth 100000 in
theorem c_X8_init (l : Launch) (dC : Nat → ClassId) (dI : Nat → Nat → Nat) (cI cJ cZ : ClassId) (sz : Nat) (h_a0 : Nat)  (Q : Prop) (hQ : wp_X8_init  Q) : Met l yX8_init wsX8_init rm_X8_init (pre_ dC dI cI cJ cZ [.ref h_a0] [(h_a0, .inr (7, [.null, .null, .null, .null, .null, .null]))] sz) (qc_X8_init dC dI cI cJ cZ h_a0 Q (va_A [(h_a0, .inr (7, [.null, .null, .null, .null, .null, .null]))] sz)) 0 0 (va_A [(h_a0, .inr (7, [.null, .null, .null, .null, .null, .null]))] sz) := by
  refine Met.ofW (cc := cX8_init) (maxL := 1) (ret := none) (by decide) rfl ?_
  intro p e s m args below meth c s₁ B hml hv
  obtain ⟨rfl, hsz, hP, hK, hN, hD0⟩ := hv
  have hx := B.exec
  have hb := B.bytes
  have hr := B.returns
  have hts := atoms_spec (ws := wsX8_init) B.pre
  have hown : s.vm.findClass RX8 = some m.cls := findClass_of_methodNamed B.named
  have hin0 : meth.name = "<init>" := (name_of_methodNamed B.named B.method).1
  subst hsz
  have hD := hD0.self (sz := s.heap.size)
  generalize hAe : va_A [(h_a0, .inr (7, [.null, .null, .null, .null, .null, .null]))] s.heap.size = A at hD ⊢
  have hA : ∀ q : Nat, s.heap.size ≤ q → A q := fun q h => by rw [← hAe]; exact Or.inr h
  have hS : va_S A s.heap s.heap [] := va_S.rf
  have hl := lv_entry ([.ref h_a0]) (n := 1) (Nat.le_of_ble_eq_true rfl)
  rw [lg_entry_eq]
  generalize (lg_sl ([.ref h_a0]) ++ List.replicate (1 - (lg_sl ([.ref h_a0])).length) Slot.unset).toArray = ls at hl ⊢
  have hl : lv_has ls 1 [(0, .ref h_a0)] := hl
  have h := hQ
  unfold wp_X8_init at h
  have hw_0 := hts (.methodLink RX8 1 objectInit) (by decide +kernel)
  have hw_1 := hts (.instanceMethod objectInit) (by decide +kernel)
  have hw_2 := hts (.code objectInit ⟨#[0xb1]⟩ 1 none) (by decide +kernel)
  refine lv_aload_n hx hb dX8_init_0 rfl (lv_at hl 0 rfl) ?_
  refine W.objInit hx hb hown hw_0 hw_1 hw_2 rfl (by rw [hml]; exact hl.1) rfl dX8_init_1 (Nat.le_of_ble_eq_true rfl) (Nat.le_of_ble_eq_true rfl) ?_
  refine W.eq (g2 := F0 m 4 ls []) rfl ?_
  have hP9 := hP.sub (ws' := [(h_a0, .inr (7, [.null, .null, .null, .null, .null, .null]))]) [0] rfl
  have hD9 := hD.sub (ws' := [(h_a0, .inr (7, [.null, .null, .null, .null, .null, .null]))]) [0] (by decide) rfl
  exact W.vret hx hb hr (fun t ht hW => ⟨⟨(), rfl, h, by rw [ht]; exact hP9, hD9⟩, hS.F ht⟩) hS.2.2 dX8_init_4
def wp_X8_isInRange  (p0 : Int64) (Q : Int32 → Prop) : Prop :=
  ((p0 < (1 : Int64) → Q (0 : Int32)) ∧ (¬ p0 < (1 : Int64) → (((10000000000 : Int64) < p0 → Q (0 : Int32)) ∧ (¬ (10000000000 : Int64) < p0 → Q (1 : Int32)))))
abbrev rm_X8_isInRange : Room := { frames := 0, cells := 0, slots := 0, locals := 0 }
abbrev qc_X8_isInRange (dC : Nat → ClassId) (dI : Nat → Nat → Nat) (cI cJ cZ : ClassId)  (Q : Int32 → Prop) (A : Nat → Prop) : Array Value → State → Outcome → State → Prop := va_Qi (fun (r : Int32) (_ : Unit) => Q r) (post_ dC dI A (fun (_ : Unit) => ([] : va_W))) A
set_option maxHeartbeats 4000000 in
set_option maxRecDepth 100000 in
theorem c_X8_isInRange (l : Launch) (dC : Nat → ClassId) (dI : Nat → Nat → Nat) (cI cJ cZ : ClassId) (sz : Nat)  (p0 : Int64) (Q : Int32 → Prop) (hQ : wp_X8_isInRange p0 Q) : Met l yX8_isInRange wsX8_isInRange rm_X8_isInRange (pre_ dC dI cI cJ cZ [.long p0] ([] : va_W) sz) (qc_X8_isInRange dC dI cI cJ cZ Q (va_A ([] : va_W) sz)) 0 0 (va_A ([] : va_W) sz) := by
  refine Met.ofW (cc := cX8_isInRange) (maxL := 2) (ret := (some .boolean)) (by decide) rfl ?_
  intro p e s m args below meth c s₁ B hml hv
  obtain ⟨rfl, hsz, hP, hK, hN, hD0⟩ := hv
  have hx := B.exec
  have hb := B.bytes
  have hr := B.returns
  have hts := atoms_spec (ws := wsX8_isInRange) B.pre
  have hown : s.vm.findClass RX8 = some m.cls := findClass_of_methodNamed B.named
  subst hsz
  have hD := hD0.self (sz := s.heap.size)
  generalize hAe : va_A ([] : va_W) s.heap.size = A at hD ⊢
  have hA : ∀ q : Nat, s.heap.size ≤ q → A q := fun q h => by rw [← hAe]; exact Or.inr h
  have hS : va_S A s.heap s.heap [] := va_S.rf
  have hl := lv_entry ([.long p0]) (n := 2) (Nat.le_of_ble_eq_true rfl)
  rw [lg_entry_eq]
  generalize (lg_sl ([.long p0]) ++ List.replicate (2 - (lg_sl ([.long p0])).length) Slot.unset).toArray = ls at hl ⊢
  have hl : lv_has ls 2 [(0, .long p0)] := hl
  have h := hQ
  unfold wp_X8_isInRange at h
  have hw_0 := hts (.constantLong RX8 9 (10000000000)) (by decide +kernel)
  refine lv_lload_n hx hb dX8_isInRange_0 rfl (lv_at hl 0 rfl) ?_
  refine lv_lconst (v := (1 : Int64)) hx hb dX8_isInRange_1 (by decide) ?_
  refine W.lcmp hx hb dX8_isInRange_2 ?_
  refine lv_if_lt (tgt := 18) hx hb dX8_isInRange_3 (by decide) (fun c_1 => ?_) (fun c_1 => ?_)
  · replace c_1 := (lg_cmp_lt _ _).mp c_1
    replace h := h.1 c_1
    refine lv_iconst (v := (0 : Int32)) hx hb dX8_isInRange_18 (by decide) ?_
    have hP9 := hP.sub (ws' := []) [] rfl
    have hD9 := hD.sub (ws' := []) [] (by decide) rfl
    exact W.zret (v := (0 : Int32)) hx hb hr (by decide) (fun t ht hW => ⟨⟨_, (), rfl, h, by rw [ht]; exact hP9, hD9⟩, hS.F ht⟩) hS.2.2 dX8_isInRange_19
  · replace c_1 := lc_nlt c_1
    replace h := h.2 c_1
    refine lv_lload_n hx hb dX8_isInRange_6 rfl (lv_at hl 0 rfl) ?_
    refine lv_ldc2 hx hb hown hw_0 dX8_isInRange_7 ?_
    refine W.lcmp hx hb dX8_isInRange_10 ?_
    refine lv_if_gt (tgt := 18) hx hb dX8_isInRange_11 (by decide) (fun c_2 => ?_) (fun c_2 => ?_)
    · replace c_2 := (lg_cmp_gt _ _).mp c_2
      replace h := h.1 c_2
      refine lv_iconst (v := (0 : Int32)) hx hb dX8_isInRange_18 (by decide) ?_
      have hP9 := hP.sub (ws' := []) [] rfl
      have hD9 := hD.sub (ws' := []) [] (by decide) rfl
      exact W.zret (v := (0 : Int32)) hx hb hr (by decide) (fun t ht hW => ⟨⟨_, (), rfl, h, by rw [ht]; exact hP9, hD9⟩, hS.F ht⟩) hS.2.2 dX8_isInRange_19
    · replace c_2 := lc_ngt c_2
      replace h := h.2 c_2
      refine lv_iconst (v := (1 : Int32)) hx hb dX8_isInRange_14 (by decide) ?_
      refine lv_goto (tgt := 19) hx hb dX8_isInRange_15 (by decide) ?_
      have hP9 := hP.sub (ws' := []) [] rfl
      have hD9 := hD.sub (ws' := []) [] (by decide) rfl
      exact W.zret (v := (1 : Int32)) hx hb hr (by decide) (fun t ht hW => ⟨⟨_, (), rfl, h, by rw [ht]; exact hP9, hD9⟩, hS.F ht⟩) hS.2.2 dX8_isInRange_19
def wp_X8_knownPrimes_c0   (Q : (Nat → Int32) → Int32 → Prop) : Prop :=
  wp_X3_init (fun o_2 o_3 => Q o_2 o_3)
abbrev rm_X8_knownPrimes_c0 : Room := { frames := 4, cells := 4, slots := 11158, locals := 91 }
abbrev qc_X8_knownPrimes_c0 (dC : Nat → ClassId) (dI : Nat → Nat → Nat) (cI cJ cZ : ClassId) (h_a0 : Nat) (w_a0_sieved : Value) (w_a0_parting : Value) (w_a0_primeSums : Value) (w_a0_progression : Value) (w_a0_rows : Value) (Q : (Nat → Int32) → Int32 → Prop) (A : Nat → Prop) : Array Value → State → Outcome → State → Prop := va_Qr (fun (u : Nat × Nat × (Nat → Int32) × Int32) => Q u.2.2.1 u.2.2.2) (fun (u : Nat × Nat × (Nat → Int32) × Int32) (a : Nat) (t : State) => a = u.1 ∧ post_ dC dI A (fun (u : Nat × Nat × (Nat → Int32) × Int32) => ([(h_a0, .inr (7, [.ref u.1, w_a0_sieved, w_a0_parting, w_a0_primeSums, w_a0_progression, w_a0_rows])), (u.1, .inr (3, [.ref u.2.1, .int u.2.2.2])), (u.2.1, .inl (cI, 9592, .inl (u.2.2.1)))] : va_W)) u t) A
set_option maxHeartbeats 4000000 in
set_option maxRecDepth 100000 in
theorem c_X8_knownPrimes_c0 (l : Launch) (dC : Nat → ClassId) (dI : Nat → Nat → Nat) (cI cJ cZ : ClassId) (sz : Nat) (h_a0 : Nat) (w_a0_sieved : Value) (w_a0_parting : Value) (w_a0_primeSums : Value) (w_a0_progression : Value) (w_a0_rows : Value)  (Q : (Nat → Int32) → Int32 → Prop) (hQ : wp_X8_knownPrimes_c0  Q) : Met l yX8_knownPrimes wsX8_knownPrimes rm_X8_knownPrimes_c0 (pre_ dC dI cI cJ cZ [.ref h_a0] [(h_a0, .inr (7, [.null, w_a0_sieved, w_a0_parting, w_a0_primeSums, w_a0_progression, w_a0_rows]))] sz) (qc_X8_knownPrimes_c0 dC dI cI cJ cZ h_a0 w_a0_sieved w_a0_parting w_a0_primeSums w_a0_progression w_a0_rows Q (va_A [(h_a0, .inr (7, [.null, w_a0_sieved, w_a0_parting, w_a0_primeSums, w_a0_progression, w_a0_rows]))] sz)) 4 11158 (va_A [(h_a0, .inr (7, [.null, w_a0_sieved, w_a0_parting, w_a0_primeSums, w_a0_progression, w_a0_rows]))] sz) := by
  refine Met.ofW (cc := cX8_knownPrimes) (maxL := 1) (ret := (some (.object "NumberSieves$Primes"))) (by decide) rfl ?_
  intro p e s m args below meth c s₁ B hml hv
  obtain ⟨rfl, hsz, hP, hK, hN, hD0⟩ := hv
  have hx := B.exec
  have hb := B.bytes
  have hr := B.returns
  have hts := atoms_spec (ws := wsX8_knownPrimes) B.pre
  have hown : s.vm.findClass RX8 = some m.cls := findClass_of_methodNamed B.named
  subst hsz
  have hD := hD0.self (sz := s.heap.size)
  generalize hAe : va_A [(h_a0, .inr (7, [.null, w_a0_sieved, w_a0_parting, w_a0_primeSums, w_a0_progression, w_a0_rows]))] s.heap.size = A at hD ⊢
  have hA : ∀ q : Nat, s.heap.size ≤ q → A q := fun q h => by rw [← hAe]; exact Or.inr h
  have hS : va_S A s.heap s.heap [] := va_S.rf
  have hl := lv_entry ([.ref h_a0]) (n := 1) (Nat.le_of_ble_eq_true rfl)
  rw [lg_entry_eq]
  generalize (lg_sl ([.ref h_a0]) ++ List.replicate (1 - (lg_sl ([.ref h_a0])).length) Slot.unset).toArray = ls at hl ⊢
  have hl : lv_has ls 1 [(0, .ref h_a0)] := hl
  have h := hQ
  unfold wp_X8_knownPrimes_c0 at h
  have hw_0 := hts (.fieldLink RX8 193 "NumberSieves" "primes" "LNumberSieves$Primes;") (by decide +kernel)
  have hin_X8 : ∀ w ∈ wsX80, w ∈ wsX8_knownPrimes := by decide +kernel
  have hin_X3 : ∀ w ∈ wsX30, w ∈ wsX8_knownPrimes := by decide +kernel
  have hw_3 := hts (.classLink RX8 58 RX3) (by decide +kernel)
  have hw_4 := hts (.instantiable RX3 2) (by decide +kernel)
  have hw_5 := hts (.initialized RX3) (by decide +kernel)
  have hw_6 := hts (.methodLink RX8 197 yX3_init) (by decide +kernel)
  have hw_7 := hts (.instanceMethod yX3_init) (by decide +kernel)
  refine lv_aload_n hx hb dX8_knownPrimes_0 rfl (lv_at hl 0 rfl) ?_
  refine va_get (D := (dC, dI)) (ci := 7) (v := .null) (C := RX8) (T := TX8) (N := 6) hx hb hts hin_X8 hown hK hP 0 rfl rfl 0 (by decide) hw_0 (fun _ h9 => h9) rfl dX8_knownPrimes_1 ?_
  refine lv_ifnonnullN hx hb dX8_knownPrimes_4 ?_
  refine lv_aload_n hx hb dX8_knownPrimes_7 rfl (lv_at hl 0 rfl) ?_
  refine va_new (ci := 3) (fs := [.null, .int (0 : Int32)]) (C := RX3) (T := TX3) (N := 2) hx hb hts hin_X3 tyX3 tyX3_ok hown hw_3 hw_4 hw_5 hK hP hD hS hA rfl (by decide +kernel) (Nat.le_of_ble_eq_true rfl) (Nat.le_of_ble_eq_true rfl) dX8_knownPrimes_8 (fun q_1 H hP hD hS => ?_)
  have hP : va_P (dC, dI) vwCl [(h_a0, .inr (7, [.null, w_a0_sieved, w_a0_parting, w_a0_primeSums, w_a0_progression, w_a0_rows])), (q_1, .inr (3, [.null, .int (0 : Int32)]))] H := hP
  have hD : va_D A [(h_a0, .inr (7, [.null, w_a0_sieved, w_a0_parting, w_a0_primeSums, w_a0_progression, w_a0_rows])), (q_1, .inr (3, [.null, .int (0 : Int32)]))] := hD
  refine W.widen (k := 1) (n := 2) (by omega) (by omega) ?_
  refine lv_dup hx hb dX8_knownPrimes_11 rfl ?_
  have hPc := hP.sub (ws' := [(q_1, .inr (3, [.null, .int (0 : Int32)]))]) [1] rfl
  have hDc := hD.sub (ws' := [(q_1, .inr (3, [.null, .int (0 : Int32)]))]) [1] (by decide) rfl
  have hFc := va_free (wc := [(q_1, .inr (3, [.null, .int (0 : Int32)]))]) hD hS hA [1] rfl
  refine va_callv (va_runI (As := []) (rest := [.ref q_1, .ref h_a0]) ⟨hx, hb, hml, hown, hts⟩ (c_X3_init l dC dI cI cJ cZ _ q_1 _ h) (cwI 0 hts gX8_knownPrimes_X3_init rfl rfl rfl hw_5 hw_6 hw_7 rfl (by decide +kernel) ⟨Nat.le_of_ble_eq_true rfl, Nat.le_of_ble_eq_true rfl⟩) ⟨pre_fb, pre_of hPc hDc hK hN⟩ rfl rfl hl.1 rfl (lv_room (Nat.le_of_ble_eq_true rfl)) dX8_knownPrimes_12 ⟨by first | exact Nat.le_of_ble_eq_true rfl | exact Nat.le_refl _, by first | exact Nat.le_of_ble_eq_true rfl | exact Nat.le_refl _⟩) hS (fun q _ h => hFc q h) hFc (fun u t H1 locs ht hvm h hB hz1 hk1 hS => ?_)
  obtain ⟨q_4, o_2, o_3⟩ := u
  obtain ⟨hP1, hD1⟩ := hB
  rw [ht] at hP1
  try dsimp only at h
  obtain ⟨hP, hD⟩ := va_join (wr := [(h_a0, .inr (7, [.null, w_a0_sieved, w_a0_parting, w_a0_primeSums, w_a0_progression, w_a0_rows]))]) (w1 := [(q_1, .inr (3, [.ref q_4, .int o_3])), (q_4, .inl (cI, 9592, .inl o_2))]) hP hD [1] [0] rfl rfl (by decide) (by decide) hk1 hFc hP1 hD1
  generalize H1 = H at hP hS ⊢
  have hP : va_P (dC, dI) vwCl [(h_a0, .inr (7, [.null, w_a0_sieved, w_a0_parting, w_a0_primeSums, w_a0_progression, w_a0_rows])), (q_1, .inr (3, [.ref q_4, .int o_3])), (q_4, .inl (cI, 9592, .inl o_2))] H := hP
  have hD : va_D A [(h_a0, .inr (7, [.null, w_a0_sieved, w_a0_parting, w_a0_primeSums, w_a0_progression, w_a0_rows])), (q_1, .inr (3, [.ref q_4, .int o_3])), (q_4, .inl (cI, 9592, .inl o_2))] := hD
  refine W.widen (k := 4) (n := 11158) (by omega) (by omega) ?_
  refine va_put (D := (dC, dI)) (ci := 7) (v := .ref q_1) (ty := .object "NumberSieves$Primes") (C := RX8) (T := TX8) (N := 6) hx hb hts hin_X8 tyX8 tyX8_ok nmX8 hown hK hP hD hS 0 rfl rfl 0 (by decide) hw_0 (fun _ h9 => h9) rfl (by decide +kernel) rfl rfl (Nat.le_of_ble_eq_true rfl) dX8_knownPrimes_15 (fun H locs hP hD hS => ?_)
  have hP : va_P (dC, dI) vwCl [(h_a0, .inr (7, [.ref q_1, w_a0_sieved, w_a0_parting, w_a0_primeSums, w_a0_progression, w_a0_rows])), (q_1, .inr (3, [.ref q_4, .int o_3])), (q_4, .inl (cI, 9592, .inl o_2))] H := hP
  have hD : va_D A [(h_a0, .inr (7, [.ref q_1, w_a0_sieved, w_a0_parting, w_a0_primeSums, w_a0_progression, w_a0_rows])), (q_1, .inr (3, [.ref q_4, .int o_3])), (q_4, .inl (cI, 9592, .inl o_2))] := hD
  refine lv_aload_n hx hb dX8_knownPrimes_18 rfl (lv_at hl 0 rfl) ?_
  refine va_get (D := (dC, dI)) (ci := 7) (v := .ref q_1) (C := RX8) (T := TX8) (N := 6) hx hb hts hin_X8 hown hK hP 0 rfl rfl 0 (by decide) hw_0 (fun _ h9 => h9) rfl dX8_knownPrimes_19 ?_
  have hP9 := hP.sub (ws' := [(h_a0, .inr (7, [.ref q_1, w_a0_sieved, w_a0_parting, w_a0_primeSums, w_a0_progression, w_a0_rows])), (q_1, .inr (3, [.ref q_4, .int o_3])), (q_4, .inl (cI, 9592, .inl o_2))]) [0, 1, 2] rfl
  have hD9 := hD.sub (ws' := [(h_a0, .inr (7, [.ref q_1, w_a0_sieved, w_a0_parting, w_a0_primeSums, w_a0_progression, w_a0_rows])), (q_1, .inr (3, [.ref q_4, .int o_3])), (q_4, .inl (cI, 9592, .inl o_2))]) [0, 1, 2] (by decide) rfl
  exact W.aret (v := .ref q_1) hx hb hr (Or.inl ⟨_, rfl⟩) (Or.inr ⟨_, rfl⟩) (fun t ht hW => ⟨⟨(q_1, q_4, o_2, o_3), q_1, rfl, h, rfl, by rw [ht]; exact hP9, hD9⟩, hS.F ht⟩) hS.2.2 dX8_knownPrimes_22
def wp_X8_knownPrimes_c1   (Q : Prop) : Prop :=
  Q
abbrev rm_X8_knownPrimes_c1 : Room := { frames := 4, cells := 0, slots := 0, locals := 91 }
abbrev qc_X8_knownPrimes_c1 (dC : Nat → ClassId) (dI : Nat → Nat → Nat) (cI cJ cZ : ClassId) (h_a0 : Nat) (h_a0_primes : Nat) (a0_primes_table : Nat → Int32) (q_a0_primes_table : Nat) (a0_primes_many : Int32) (w_a0_sieved : Value) (w_a0_parting : Value) (w_a0_primeSums : Value) (w_a0_progression : Value) (w_a0_rows : Value) (Q : Prop) (A : Nat → Prop) : Array Value → State → Outcome → State → Prop := va_Qr (fun (_ : Unit) => Q) (fun (u : Unit) (a : Nat) (t : State) => a = h_a0_primes ∧ post_ dC dI A (fun (u : Unit) => ([(h_a0, .inr (7, [.ref h_a0_primes, w_a0_sieved, w_a0_parting, w_a0_primeSums, w_a0_progression, w_a0_rows])), (h_a0_primes, .inr (3, [.ref q_a0_primes_table, .int a0_primes_many])), (q_a0_primes_table, .inl (cI, 9592, .inl a0_primes_table))] : va_W)) u t) A
set_option maxHeartbeats 4000000 in
set_option maxRecDepth 100000 in
theorem c_X8_knownPrimes_c1 (l : Launch) (dC : Nat → ClassId) (dI : Nat → Nat → Nat) (cI cJ cZ : ClassId) (sz : Nat) (h_a0 : Nat) (h_a0_primes : Nat) (a0_primes_table : Nat → Int32) (q_a0_primes_table : Nat) (a0_primes_many : Int32) (w_a0_sieved : Value) (w_a0_parting : Value) (w_a0_primeSums : Value) (w_a0_progression : Value) (w_a0_rows : Value)  (Q : Prop) (hQ : wp_X8_knownPrimes_c1  Q) : Met l yX8_knownPrimes wsX8_knownPrimes rm_X8_knownPrimes_c1 (pre_ dC dI cI cJ cZ [.ref h_a0] [(h_a0, .inr (7, [.ref h_a0_primes, w_a0_sieved, w_a0_parting, w_a0_primeSums, w_a0_progression, w_a0_rows])), (h_a0_primes, .inr (3, [.ref q_a0_primes_table, .int a0_primes_many])), (q_a0_primes_table, .inl (cI, 9592, .inl a0_primes_table))] sz) (qc_X8_knownPrimes_c1 dC dI cI cJ cZ h_a0 h_a0_primes a0_primes_table q_a0_primes_table a0_primes_many w_a0_sieved w_a0_parting w_a0_primeSums w_a0_progression w_a0_rows Q (va_A [(h_a0, .inr (7, [.ref h_a0_primes, w_a0_sieved, w_a0_parting, w_a0_primeSums, w_a0_progression, w_a0_rows])), (h_a0_primes, .inr (3, [.ref q_a0_primes_table, .int a0_primes_many])), (q_a0_primes_table, .inl (cI, 9592, .inl a0_primes_table))] sz)) 0 0 (va_A [(h_a0, .inr (7, [.ref h_a0_primes, w_a0_sieved, w_a0_parting, w_a0_primeSums, w_a0_progression, w_a0_rows])), (h_a0_primes, .inr (3, [.ref q_a0_primes_table, .int a0_primes_many])), (q_a0_primes_table, .inl (cI, 9592, .inl a0_primes_table))] sz) := by
  refine Met.ofW (cc := cX8_knownPrimes) (maxL := 1) (ret := (some (.object "NumberSieves$Primes"))) (by decide) rfl ?_
  intro p e s m args below meth c s₁ B hml hv
  obtain ⟨rfl, hsz, hP, hK, hN, hD0⟩ := hv
  have hx := B.exec
  have hb := B.bytes
  have hr := B.returns
  have hts := atoms_spec (ws := wsX8_knownPrimes) B.pre
  have hown : s.vm.findClass RX8 = some m.cls := findClass_of_methodNamed B.named
  subst hsz
  have hD := hD0.self (sz := s.heap.size)
  generalize hAe : va_A [(h_a0, .inr (7, [.ref h_a0_primes, w_a0_sieved, w_a0_parting, w_a0_primeSums, w_a0_progression, w_a0_rows])), (h_a0_primes, .inr (3, [.ref q_a0_primes_table, .int a0_primes_many])), (q_a0_primes_table, .inl (cI, 9592, .inl a0_primes_table))] s.heap.size = A at hD ⊢
  have hA : ∀ q : Nat, s.heap.size ≤ q → A q := fun q h => by rw [← hAe]; exact Or.inr h
  have hS : va_S A s.heap s.heap [] := va_S.rf
  have hl := lv_entry ([.ref h_a0]) (n := 1) (Nat.le_of_ble_eq_true rfl)
  rw [lg_entry_eq]
  generalize (lg_sl ([.ref h_a0]) ++ List.replicate (1 - (lg_sl ([.ref h_a0])).length) Slot.unset).toArray = ls at hl ⊢
  have hl : lv_has ls 1 [(0, .ref h_a0)] := hl
  have h := hQ
  unfold wp_X8_knownPrimes_c1 at h
  have hw_0 := hts (.fieldLink RX8 193 "NumberSieves" "primes" "LNumberSieves$Primes;") (by decide +kernel)
  have hin_X8 : ∀ w ∈ wsX80, w ∈ wsX8_knownPrimes := by decide +kernel
  refine lv_aload_n hx hb dX8_knownPrimes_0 rfl (lv_at hl 0 rfl) ?_
  refine va_get (D := (dC, dI)) (ci := 7) (v := .ref h_a0_primes) (C := RX8) (T := TX8) (N := 6) hx hb hts hin_X8 hown hK hP 0 rfl rfl 0 (by decide) hw_0 (fun _ h9 => h9) rfl dX8_knownPrimes_1 ?_
  refine lv_ifnonnull (tgt := 18) hx hb dX8_knownPrimes_4 (by decide) ?_
  refine lv_aload_n hx hb dX8_knownPrimes_18 rfl (lv_at hl 0 rfl) ?_
  refine va_get (D := (dC, dI)) (ci := 7) (v := .ref h_a0_primes) (C := RX8) (T := TX8) (N := 6) hx hb hts hin_X8 hown hK hP 0 rfl rfl 0 (by decide) hw_0 (fun _ h9 => h9) rfl dX8_knownPrimes_19 ?_
  have hP9 := hP.sub (ws' := [(h_a0, .inr (7, [.ref h_a0_primes, w_a0_sieved, w_a0_parting, w_a0_primeSums, w_a0_progression, w_a0_rows])), (h_a0_primes, .inr (3, [.ref q_a0_primes_table, .int a0_primes_many])), (q_a0_primes_table, .inl (cI, 9592, .inl a0_primes_table))]) [0, 1, 2] rfl
  have hD9 := hD.sub (ws' := [(h_a0, .inr (7, [.ref h_a0_primes, w_a0_sieved, w_a0_parting, w_a0_primeSums, w_a0_progression, w_a0_rows])), (h_a0_primes, .inr (3, [.ref q_a0_primes_table, .int a0_primes_many])), (q_a0_primes_table, .inl (cI, 9592, .inl a0_primes_table))]) [0, 1, 2] (by decide) rfl
  exact W.aret (v := .ref h_a0_primes) hx hb hr (Or.inl ⟨_, rfl⟩) (Or.inr ⟨_, rfl⟩) (fun t ht hW => ⟨⟨(), h_a0_primes, rfl, h, rfl, by rw [ht]; exact hP9, hD9⟩, hS.F ht⟩) hS.2.2 dX8_knownPrimes_22
def wp_X8_knownSums_c0   (Q : (Nat → Int64) → (Nat → Int64) → Prop) : Prop :=
  wp_X2_init (fun o_2 o_3 => Q o_2 o_3)
abbrev rm_X8_knownSums_c0 : Room := { frames := 2, cells := 3, slots := 2832, locals := 40 }
abbrev qc_X8_knownSums_c0 (dC : Nat → ClassId) (dI : Nat → Nat → Nat) (cI cJ cZ : ClassId) (h_a0 : Nat) (w_a0_primes : Value) (w_a0_sieved : Value) (w_a0_parting : Value) (w_a0_progression : Value) (w_a0_rows : Value) (Q : (Nat → Int64) → (Nat → Int64) → Prop) (A : Nat → Prop) : Array Value → State → Outcome → State → Prop := va_Qr (fun (u : Nat × Nat × Nat × (Nat → Int64) × (Nat → Int64)) => Q u.2.2.2.1 u.2.2.2.2) (fun (u : Nat × Nat × Nat × (Nat → Int64) × (Nat → Int64)) (a : Nat) (t : State) => a = u.1 ∧ post_ dC dI A (fun (u : Nat × Nat × Nat × (Nat → Int64) × (Nat → Int64)) => ([(h_a0, .inr (7, [w_a0_primes, w_a0_sieved, w_a0_parting, .ref u.1, w_a0_progression, w_a0_rows])), (u.1, .inr (2, [.ref u.2.1, .ref u.2.2.1])), (u.2.1, .inl (cJ, 1415, .inr (.inl (u.2.2.2.1)))), (u.2.2.1, .inl (cJ, 1415, .inr (.inl (u.2.2.2.2))))] : va_W)) u t) A
set_option maxHeartbeats 4000000 in
set_option maxRecDepth 100000 in
theorem c_X8_knownSums_c0 (l : Launch) (dC : Nat → ClassId) (dI : Nat → Nat → Nat) (cI cJ cZ : ClassId) (sz : Nat) (h_a0 : Nat) (w_a0_primes : Value) (w_a0_sieved : Value) (w_a0_parting : Value) (w_a0_progression : Value) (w_a0_rows : Value)  (Q : (Nat → Int64) → (Nat → Int64) → Prop) (hQ : wp_X8_knownSums_c0  Q) : Met l yX8_knownSums wsX8_knownSums rm_X8_knownSums_c0 (pre_ dC dI cI cJ cZ [.ref h_a0] [(h_a0, .inr (7, [w_a0_primes, w_a0_sieved, w_a0_parting, .null, w_a0_progression, w_a0_rows]))] sz) (qc_X8_knownSums_c0 dC dI cI cJ cZ h_a0 w_a0_primes w_a0_sieved w_a0_parting w_a0_progression w_a0_rows Q (va_A [(h_a0, .inr (7, [w_a0_primes, w_a0_sieved, w_a0_parting, .null, w_a0_progression, w_a0_rows]))] sz)) 3 2832 (va_A [(h_a0, .inr (7, [w_a0_primes, w_a0_sieved, w_a0_parting, .null, w_a0_progression, w_a0_rows]))] sz) := by
  refine Met.ofW (cc := cX8_knownSums) (maxL := 1) (ret := (some (.object "NumberSieves$PrimeSums"))) (by decide) rfl ?_
  intro p e s m args below meth c s₁ B hml hv
  obtain ⟨rfl, hsz, hP, hK, hN, hD0⟩ := hv
  have hx := B.exec
  have hb := B.bytes
  have hr := B.returns
  have hts := atoms_spec (ws := wsX8_knownSums) B.pre
  have hown : s.vm.findClass RX8 = some m.cls := findClass_of_methodNamed B.named
  subst hsz
  have hD := hD0.self (sz := s.heap.size)
  generalize hAe : va_A [(h_a0, .inr (7, [w_a0_primes, w_a0_sieved, w_a0_parting, .null, w_a0_progression, w_a0_rows]))] s.heap.size = A at hD ⊢
  have hA : ∀ q : Nat, s.heap.size ≤ q → A q := fun q h => by rw [← hAe]; exact Or.inr h
  have hS : va_S A s.heap s.heap [] := va_S.rf
  have hl := lv_entry ([.ref h_a0]) (n := 1) (Nat.le_of_ble_eq_true rfl)
  rw [lg_entry_eq]
  generalize (lg_sl ([.ref h_a0]) ++ List.replicate (1 - (lg_sl ([.ref h_a0])).length) Slot.unset).toArray = ls at hl ⊢
  have hl : lv_has ls 1 [(0, .ref h_a0)] := hl
  have h := hQ
  unfold wp_X8_knownSums_c0 at h
  have hw_0 := hts (.fieldLink RX8 198 "NumberSieves" "primeSums" "LNumberSieves$PrimeSums;") (by decide +kernel)
  have hin_X8 : ∀ w ∈ wsX80, w ∈ wsX8_knownSums := by decide +kernel
  have hin_X2 : ∀ w ∈ wsX20, w ∈ wsX8_knownSums := by decide +kernel
  have hw_3 := hts (.classLink RX8 120 RX2) (by decide +kernel)
  have hw_4 := hts (.instantiable RX2 2) (by decide +kernel)
  have hw_5 := hts (.initialized RX2) (by decide +kernel)
  have hw_6 := hts (.methodLink RX8 202 yX2_init) (by decide +kernel)
  have hw_7 := hts (.instanceMethod yX2_init) (by decide +kernel)
  refine lv_aload_n hx hb dX8_knownSums_0 rfl (lv_at hl 0 rfl) ?_
  refine va_get (D := (dC, dI)) (ci := 7) (v := .null) (C := RX8) (T := TX8) (N := 6) hx hb hts hin_X8 hown hK hP 0 rfl rfl 3 (by decide) hw_0 (fun _ h9 => h9) rfl dX8_knownSums_1 ?_
  refine lv_ifnonnullN hx hb dX8_knownSums_4 ?_
  refine lv_aload_n hx hb dX8_knownSums_7 rfl (lv_at hl 0 rfl) ?_
  refine va_new (ci := 2) (fs := [.null, .null]) (C := RX2) (T := TX2) (N := 2) hx hb hts hin_X2 tyX2 tyX2_ok hown hw_3 hw_4 hw_5 hK hP hD hS hA rfl (by decide +kernel) (Nat.le_of_ble_eq_true rfl) (Nat.le_of_ble_eq_true rfl) dX8_knownSums_8 (fun q_1 H hP hD hS => ?_)
  have hP : va_P (dC, dI) vwCl [(h_a0, .inr (7, [w_a0_primes, w_a0_sieved, w_a0_parting, .null, w_a0_progression, w_a0_rows])), (q_1, .inr (2, [.null, .null]))] H := hP
  have hD : va_D A [(h_a0, .inr (7, [w_a0_primes, w_a0_sieved, w_a0_parting, .null, w_a0_progression, w_a0_rows])), (q_1, .inr (2, [.null, .null]))] := hD
  refine W.widen (k := 1) (n := 2) (by omega) (by omega) ?_
  refine lv_dup hx hb dX8_knownSums_11 rfl ?_
  have hPc := hP.sub (ws' := [(q_1, .inr (2, [.null, .null]))]) [1] rfl
  have hDc := hD.sub (ws' := [(q_1, .inr (2, [.null, .null]))]) [1] (by decide) rfl
  have hFc := va_free (wc := [(q_1, .inr (2, [.null, .null]))]) hD hS hA [1] rfl
  refine va_callv (va_runI (As := []) (rest := [.ref q_1, .ref h_a0]) ⟨hx, hb, hml, hown, hts⟩ (c_X2_init l dC dI cI cJ cZ _ q_1 _ h) (cwI 0 hts gX8_knownSums_X2_init rfl rfl rfl hw_5 hw_6 hw_7 rfl (by decide +kernel) ⟨Nat.le_of_ble_eq_true rfl, Nat.le_of_ble_eq_true rfl⟩) ⟨pre_fb, pre_of hPc hDc hK hN⟩ rfl rfl hl.1 rfl (lv_room (Nat.le_of_ble_eq_true rfl)) dX8_knownSums_12 ⟨by first | exact Nat.le_of_ble_eq_true rfl | exact Nat.le_refl _, by first | exact Nat.le_of_ble_eq_true rfl | exact Nat.le_refl _⟩) hS (fun q _ h => hFc q h) hFc (fun u t H1 locs ht hvm h hB hz1 hk1 hS => ?_)
  obtain ⟨q_4, q_5, o_2, o_3⟩ := u
  obtain ⟨hP1, hD1⟩ := hB
  rw [ht] at hP1
  try dsimp only at h
  obtain ⟨hP, hD⟩ := va_join (wr := [(h_a0, .inr (7, [w_a0_primes, w_a0_sieved, w_a0_parting, .null, w_a0_progression, w_a0_rows]))]) (w1 := [(q_1, .inr (2, [.ref q_4, .ref q_5])), (q_4, .inl (cJ, 1415, .inr (.inl o_2))), (q_5, .inl (cJ, 1415, .inr (.inl o_3)))]) hP hD [1] [0] rfl rfl (by decide) (by decide) hk1 hFc hP1 hD1
  generalize H1 = H at hP hS ⊢
  have hP : va_P (dC, dI) vwCl [(h_a0, .inr (7, [w_a0_primes, w_a0_sieved, w_a0_parting, .null, w_a0_progression, w_a0_rows])), (q_1, .inr (2, [.ref q_4, .ref q_5])), (q_4, .inl (cJ, 1415, .inr (.inl o_2))), (q_5, .inl (cJ, 1415, .inr (.inl o_3)))] H := hP
  have hD : va_D A [(h_a0, .inr (7, [w_a0_primes, w_a0_sieved, w_a0_parting, .null, w_a0_progression, w_a0_rows])), (q_1, .inr (2, [.ref q_4, .ref q_5])), (q_4, .inl (cJ, 1415, .inr (.inl o_2))), (q_5, .inl (cJ, 1415, .inr (.inl o_3)))] := hD
  refine W.widen (k := 3) (n := 2832) (by omega) (by omega) ?_
  refine va_put (D := (dC, dI)) (ci := 7) (v := .ref q_1) (ty := .object "NumberSieves$PrimeSums") (C := RX8) (T := TX8) (N := 6) hx hb hts hin_X8 tyX8 tyX8_ok nmX8 hown hK hP hD hS 0 rfl rfl 3 (by decide) hw_0 (fun _ h9 => h9) rfl (by decide +kernel) rfl rfl (Nat.le_of_ble_eq_true rfl) dX8_knownSums_15 (fun H locs hP hD hS => ?_)
  have hP : va_P (dC, dI) vwCl [(h_a0, .inr (7, [w_a0_primes, w_a0_sieved, w_a0_parting, .ref q_1, w_a0_progression, w_a0_rows])), (q_1, .inr (2, [.ref q_4, .ref q_5])), (q_4, .inl (cJ, 1415, .inr (.inl o_2))), (q_5, .inl (cJ, 1415, .inr (.inl o_3)))] H := hP
  have hD : va_D A [(h_a0, .inr (7, [w_a0_primes, w_a0_sieved, w_a0_parting, .ref q_1, w_a0_progression, w_a0_rows])), (q_1, .inr (2, [.ref q_4, .ref q_5])), (q_4, .inl (cJ, 1415, .inr (.inl o_2))), (q_5, .inl (cJ, 1415, .inr (.inl o_3)))] := hD
  refine lv_aload_n hx hb dX8_knownSums_18 rfl (lv_at hl 0 rfl) ?_
  refine va_get (D := (dC, dI)) (ci := 7) (v := .ref q_1) (C := RX8) (T := TX8) (N := 6) hx hb hts hin_X8 hown hK hP 0 rfl rfl 3 (by decide) hw_0 (fun _ h9 => h9) rfl dX8_knownSums_19 ?_
  have hP9 := hP.sub (ws' := [(h_a0, .inr (7, [w_a0_primes, w_a0_sieved, w_a0_parting, .ref q_1, w_a0_progression, w_a0_rows])), (q_1, .inr (2, [.ref q_4, .ref q_5])), (q_4, .inl (cJ, 1415, .inr (.inl o_2))), (q_5, .inl (cJ, 1415, .inr (.inl o_3)))]) [0, 1, 2, 3] rfl
  have hD9 := hD.sub (ws' := [(h_a0, .inr (7, [w_a0_primes, w_a0_sieved, w_a0_parting, .ref q_1, w_a0_progression, w_a0_rows])), (q_1, .inr (2, [.ref q_4, .ref q_5])), (q_4, .inl (cJ, 1415, .inr (.inl o_2))), (q_5, .inl (cJ, 1415, .inr (.inl o_3)))]) [0, 1, 2, 3] (by decide) rfl
  exact W.aret (v := .ref q_1) hx hb hr (Or.inl ⟨_, rfl⟩) (Or.inr ⟨_, rfl⟩) (fun t ht hW => ⟨⟨(q_1, q_4, q_5, o_2, o_3), q_1, rfl, h, rfl, by rw [ht]; exact hP9, hD9⟩, hS.F ht⟩) hS.2.2 dX8_knownSums_22
def wp_X8_knownSums_c1   (Q : Prop) : Prop :=
  Q
abbrev rm_X8_knownSums_c1 : Room := { frames := 2, cells := 0, slots := 0, locals := 40 }
abbrev qc_X8_knownSums_c1 (dC : Nat → ClassId) (dI : Nat → Nat → Nat) (cI cJ cZ : ClassId) (h_a0 : Nat) (w_a0_primes : Value) (w_a0_sieved : Value) (w_a0_parting : Value) (h_a0_primeSums : Nat) (a0_primeSums_low : Nat → Int64) (q_a0_primeSums_low : Nat) (a0_primeSums_high : Nat → Int64) (q_a0_primeSums_high : Nat) (w_a0_progression : Value) (w_a0_rows : Value) (Q : Prop) (A : Nat → Prop) : Array Value → State → Outcome → State → Prop := va_Qr (fun (_ : Unit) => Q) (fun (u : Unit) (a : Nat) (t : State) => a = h_a0_primeSums ∧ post_ dC dI A (fun (u : Unit) => ([(h_a0, .inr (7, [w_a0_primes, w_a0_sieved, w_a0_parting, .ref h_a0_primeSums, w_a0_progression, w_a0_rows])), (h_a0_primeSums, .inr (2, [.ref q_a0_primeSums_low, .ref q_a0_primeSums_high])), (q_a0_primeSums_low, .inl (cJ, 1415, .inr (.inl a0_primeSums_low))), (q_a0_primeSums_high, .inl (cJ, 1415, .inr (.inl a0_primeSums_high)))] : va_W)) u t) A
set_option maxHeartbeats 4000000 in
set_option maxRecDepth 100000 in
theorem c_X8_knownSums_c1 (l : Launch) (dC : Nat → ClassId) (dI : Nat → Nat → Nat) (cI cJ cZ : ClassId) (sz : Nat) (h_a0 : Nat) (w_a0_primes : Value) (w_a0_sieved : Value) (w_a0_parting : Value) (h_a0_primeSums : Nat) (a0_primeSums_low : Nat → Int64) (q_a0_primeSums_low : Nat) (a0_primeSums_high : Nat → Int64) (q_a0_primeSums_high : Nat) (w_a0_progression : Value) (w_a0_rows : Value)  (Q : Prop) (hQ : wp_X8_knownSums_c1  Q) : Met l yX8_knownSums wsX8_knownSums rm_X8_knownSums_c1 (pre_ dC dI cI cJ cZ [.ref h_a0] [(h_a0, .inr (7, [w_a0_primes, w_a0_sieved, w_a0_parting, .ref h_a0_primeSums, w_a0_progression, w_a0_rows])), (h_a0_primeSums, .inr (2, [.ref q_a0_primeSums_low, .ref q_a0_primeSums_high])), (q_a0_primeSums_low, .inl (cJ, 1415, .inr (.inl a0_primeSums_low))), (q_a0_primeSums_high, .inl (cJ, 1415, .inr (.inl a0_primeSums_high)))] sz) (qc_X8_knownSums_c1 dC dI cI cJ cZ h_a0 w_a0_primes w_a0_sieved w_a0_parting h_a0_primeSums a0_primeSums_low q_a0_primeSums_low a0_primeSums_high q_a0_primeSums_high w_a0_progression w_a0_rows Q (va_A [(h_a0, .inr (7, [w_a0_primes, w_a0_sieved, w_a0_parting, .ref h_a0_primeSums, w_a0_progression, w_a0_rows])), (h_a0_primeSums, .inr (2, [.ref q_a0_primeSums_low, .ref q_a0_primeSums_high])), (q_a0_primeSums_low, .inl (cJ, 1415, .inr (.inl a0_primeSums_low))), (q_a0_primeSums_high, .inl (cJ, 1415, .inr (.inl a0_primeSums_high)))] sz)) 0 0 (va_A [(h_a0, .inr (7, [w_a0_primes, w_a0_sieved, w_a0_parting, .ref h_a0_primeSums, w_a0_progression, w_a0_rows])), (h_a0_primeSums, .inr (2, [.ref q_a0_primeSums_low, .ref q_a0_primeSums_high])), (q_a0_primeSums_low, .inl (cJ, 1415, .inr (.inl a0_primeSums_low))), (q_a0_primeSums_high, .inl (cJ, 1415, .inr (.inl a0_primeSums_high)))] sz) := by
  refine Met.ofW (cc := cX8_knownSums) (maxL := 1) (ret := (some (.object "NumberSieves$PrimeSums"))) (by decide) rfl ?_
  intro p e s m args below meth c s₁ B hml hv
  obtain ⟨rfl, hsz, hP, hK, hN, hD0⟩ := hv
  have hx := B.exec
  have hb := B.bytes
  have hr := B.returns
  have hts := atoms_spec (ws := wsX8_knownSums) B.pre
  have hown : s.vm.findClass RX8 = some m.cls := findClass_of_methodNamed B.named
  subst hsz
  have hD := hD0.self (sz := s.heap.size)
  generalize hAe : va_A [(h_a0, .inr (7, [w_a0_primes, w_a0_sieved, w_a0_parting, .ref h_a0_primeSums, w_a0_progression, w_a0_rows])), (h_a0_primeSums, .inr (2, [.ref q_a0_primeSums_low, .ref q_a0_primeSums_high])), (q_a0_primeSums_low, .inl (cJ, 1415, .inr (.inl a0_primeSums_low))), (q_a0_primeSums_high, .inl (cJ, 1415, .inr (.inl a0_primeSums_high)))] s.heap.size = A at hD ⊢
  have hA : ∀ q : Nat, s.heap.size ≤ q → A q := fun q h => by rw [← hAe]; exact Or.inr h
  have hS : va_S A s.heap s.heap [] := va_S.rf
  have hl := lv_entry ([.ref h_a0]) (n := 1) (Nat.le_of_ble_eq_true rfl)
  rw [lg_entry_eq]
  generalize (lg_sl ([.ref h_a0]) ++ List.replicate (1 - (lg_sl ([.ref h_a0])).length) Slot.unset).toArray = ls at hl ⊢
  have hl : lv_has ls 1 [(0, .ref h_a0)] := hl
  have h := hQ
  unfold wp_X8_knownSums_c1 at h
  have hw_0 := hts (.fieldLink RX8 198 "NumberSieves" "primeSums" "LNumberSieves$PrimeSums;") (by decide +kernel)
  have hin_X8 : ∀ w ∈ wsX80, w ∈ wsX8_knownSums := by decide +kernel
  refine lv_aload_n hx hb dX8_knownSums_0 rfl (lv_at hl 0 rfl) ?_
  refine va_get (D := (dC, dI)) (ci := 7) (v := .ref h_a0_primeSums) (C := RX8) (T := TX8) (N := 6) hx hb hts hin_X8 hown hK hP 0 rfl rfl 3 (by decide) hw_0 (fun _ h9 => h9) rfl dX8_knownSums_1 ?_
  refine lv_ifnonnull (tgt := 18) hx hb dX8_knownSums_4 (by decide) ?_
  refine lv_aload_n hx hb dX8_knownSums_18 rfl (lv_at hl 0 rfl) ?_
  refine va_get (D := (dC, dI)) (ci := 7) (v := .ref h_a0_primeSums) (C := RX8) (T := TX8) (N := 6) hx hb hts hin_X8 hown hK hP 0 rfl rfl 3 (by decide) hw_0 (fun _ h9 => h9) rfl dX8_knownSums_19 ?_
  have hP9 := hP.sub (ws' := [(h_a0, .inr (7, [w_a0_primes, w_a0_sieved, w_a0_parting, .ref h_a0_primeSums, w_a0_progression, w_a0_rows])), (h_a0_primeSums, .inr (2, [.ref q_a0_primeSums_low, .ref q_a0_primeSums_high])), (q_a0_primeSums_low, .inl (cJ, 1415, .inr (.inl a0_primeSums_low))), (q_a0_primeSums_high, .inl (cJ, 1415, .inr (.inl a0_primeSums_high)))]) [0, 1, 2, 3] rfl
  have hD9 := hD.sub (ws' := [(h_a0, .inr (7, [w_a0_primes, w_a0_sieved, w_a0_parting, .ref h_a0_primeSums, w_a0_progression, w_a0_rows])), (h_a0_primeSums, .inr (2, [.ref q_a0_primeSums_low, .ref q_a0_primeSums_high])), (q_a0_primeSums_low, .inl (cJ, 1415, .inr (.inl a0_primeSums_low))), (q_a0_primeSums_high, .inl (cJ, 1415, .inr (.inl a0_primeSums_high)))]) [0, 1, 2, 3] (by decide) rfl
  exact W.aret (v := .ref h_a0_primeSums) hx hb hr (Or.inl ⟨_, rfl⟩) (Or.inr ⟨_, rfl⟩) (fun t ht hW => ⟨⟨(), h_a0_primeSums, rfl, h, rfl, by rw [ht]; exact hP9, hD9⟩, hS.F ht⟩) hS.2.2 dX8_knownSums_22
def wp_X8_hasRow_c0  (p1 : Int32) (Q : Int32 → Prop) : Prop :=
  Q (0 : Int32)
abbrev rm_X8_hasRow_c0 : Room := { frames := 0, cells := 0, slots := 0, locals := 0 }
abbrev qc_X8_hasRow_c0 (dC : Nat → ClassId) (dI : Nat → Nat → Nat) (cI cJ cZ : ClassId) (h_a0 : Nat) (w_a0_primes : Value) (w_a0_sieved : Value) (w_a0_parting : Value) (w_a0_primeSums : Value) (w_a0_progression : Value) (Q : Int32 → Prop) (A : Nat → Prop) : Array Value → State → Outcome → State → Prop := va_Qi (fun (r : Int32) (_ : Unit) => Q r) (post_ dC dI A (fun (u : Unit) => ([(h_a0, .inr (7, [w_a0_primes, w_a0_sieved, w_a0_parting, w_a0_primeSums, w_a0_progression, .null]))] : va_W))) A
set_option maxHeartbeats 4000000 in
set_option maxRecDepth 100000 in
theorem c_X8_hasRow_c0 (l : Launch) (dC : Nat → ClassId) (dI : Nat → Nat → Nat) (cI cJ cZ : ClassId) (sz : Nat) (h_a0 : Nat) (w_a0_primes : Value) (w_a0_sieved : Value) (w_a0_parting : Value) (w_a0_primeSums : Value) (w_a0_progression : Value) (p1 : Int32) (Q : Int32 → Prop) (hQ : wp_X8_hasRow_c0 p1 Q) : Met l yX8_hasRow wsX8_hasRow rm_X8_hasRow_c0 (pre_ dC dI cI cJ cZ [.ref h_a0, .int p1] [(h_a0, .inr (7, [w_a0_primes, w_a0_sieved, w_a0_parting, w_a0_primeSums, w_a0_progression, .null]))] sz) (qc_X8_hasRow_c0 dC dI cI cJ cZ h_a0 w_a0_primes w_a0_sieved w_a0_parting w_a0_primeSums w_a0_progression Q (va_A [(h_a0, .inr (7, [w_a0_primes, w_a0_sieved, w_a0_parting, w_a0_primeSums, w_a0_progression, .null]))] sz)) 0 0 (va_A [(h_a0, .inr (7, [w_a0_primes, w_a0_sieved, w_a0_parting, w_a0_primeSums, w_a0_progression, .null]))] sz) := by
  refine Met.ofW (cc := cX8_hasRow) (maxL := 2) (ret := (some .boolean)) (by decide) rfl ?_
  intro p e s m args below meth c s₁ B hml hv
  obtain ⟨rfl, hsz, hP, hK, hN, hD0⟩ := hv
  have hx := B.exec
  have hb := B.bytes
  have hr := B.returns
  have hts := atoms_spec (ws := wsX8_hasRow) B.pre
  have hown : s.vm.findClass RX8 = some m.cls := findClass_of_methodNamed B.named
  subst hsz
  have hD := hD0.self (sz := s.heap.size)
  generalize hAe : va_A [(h_a0, .inr (7, [w_a0_primes, w_a0_sieved, w_a0_parting, w_a0_primeSums, w_a0_progression, .null]))] s.heap.size = A at hD ⊢
  have hA : ∀ q : Nat, s.heap.size ≤ q → A q := fun q h => by rw [← hAe]; exact Or.inr h
  have hS : va_S A s.heap s.heap [] := va_S.rf
  have hl := lv_entry ([.ref h_a0, .int p1]) (n := 2) (Nat.le_of_ble_eq_true rfl)
  rw [lg_entry_eq]
  generalize (lg_sl ([.ref h_a0, .int p1]) ++ List.replicate (2 - (lg_sl ([.ref h_a0, .int p1])).length) Slot.unset).toArray = ls at hl ⊢
  have hl : lv_has ls 2 [(0, .ref h_a0), (1, .int p1)] := hl
  have h := hQ
  unfold wp_X8_hasRow_c0 at h
  have hw_0 := hts (.fieldLink RX8 147 "NumberSieves" "rows" "LNumberSieves$Rows;") (by decide +kernel)
  have hin_X8 : ∀ w ∈ wsX80, w ∈ wsX8_hasRow := by decide +kernel
  refine lv_aload_n hx hb dX8_hasRow_0 rfl (lv_at hl 0 rfl) ?_
  refine va_get (D := (dC, dI)) (ci := 7) (v := .null) (C := RX8) (T := TX8) (N := 6) hx hb hts hin_X8 hown hK hP 0 rfl rfl 5 (by decide) hw_0 (fun _ h9 => h9) rfl dX8_hasRow_1 ?_
  refine lv_ifnullN (tgt := 26) hx hb dX8_hasRow_4 (by decide) ?_
  refine lv_iconst (v := (0 : Int32)) hx hb dX8_hasRow_26 (by decide) ?_
  have hP9 := hP.sub (ws' := [(h_a0, .inr (7, [w_a0_primes, w_a0_sieved, w_a0_parting, w_a0_primeSums, w_a0_progression, .null]))]) [0] rfl
  have hD9 := hD.sub (ws' := [(h_a0, .inr (7, [w_a0_primes, w_a0_sieved, w_a0_parting, w_a0_primeSums, w_a0_progression, .null]))]) [0] (by decide) rfl
  exact W.zret (v := (0 : Int32)) hx hb hr (by decide) (fun t ht hW => ⟨⟨_, (), rfl, h, by rw [ht]; exact hP9, hD9⟩, hS.F ht⟩) hS.2.2 dX8_hasRow_27
def wp_X8_hasRow_c1 (a0_rows_many : Int32) (p1 : Int32) (Q : Int32 → Prop) : Prop :=
  ((p1 < (0 : Int32) → Q (0 : Int32)) ∧ (¬ p1 < (0 : Int32) → ((a0_rows_many ≤ p1 → Q (0 : Int32)) ∧ (¬ a0_rows_many ≤ p1 → Q (1 : Int32)))))
abbrev rm_X8_hasRow_c1 : Room := { frames := 0, cells := 0, slots := 0, locals := 0 }
abbrev qc_X8_hasRow_c1 (dC : Nat → ClassId) (dI : Nat → Nat → Nat) (cI cJ cZ : ClassId) (h_a0 : Nat) (w_a0_primes : Value) (w_a0_sieved : Value) (w_a0_parting : Value) (w_a0_primeSums : Value) (w_a0_progression : Value) (h_a0_rows : Nat) (a0_rows_values : Nat → Int64) (q_a0_rows_values : Nat) (a0_rows_many : Int32) (Q : Int32 → Prop) (A : Nat → Prop) : Array Value → State → Outcome → State → Prop := va_Qi (fun (r : Int32) (_ : Unit) => Q r) (post_ dC dI A (fun (u : Unit) => ([(h_a0, .inr (7, [w_a0_primes, w_a0_sieved, w_a0_parting, w_a0_primeSums, w_a0_progression, .ref h_a0_rows])), (h_a0_rows, .inr (5, [.ref q_a0_rows_values, .int a0_rows_many])), (q_a0_rows_values, .inl (cJ, 9600, .inr (.inl a0_rows_values)))] : va_W))) A
set_option maxHeartbeats 4000000 in
set_option maxRecDepth 100000 in
theorem c_X8_hasRow_c1 (l : Launch) (dC : Nat → ClassId) (dI : Nat → Nat → Nat) (cI cJ cZ : ClassId) (sz : Nat) (h_a0 : Nat) (w_a0_primes : Value) (w_a0_sieved : Value) (w_a0_parting : Value) (w_a0_primeSums : Value) (w_a0_progression : Value) (h_a0_rows : Nat) (a0_rows_values : Nat → Int64) (q_a0_rows_values : Nat) (a0_rows_many : Int32) (p1 : Int32) (Q : Int32 → Prop) (hQ : wp_X8_hasRow_c1 a0_rows_many p1 Q) : Met l yX8_hasRow wsX8_hasRow rm_X8_hasRow_c1 (pre_ dC dI cI cJ cZ [.ref h_a0, .int p1] [(h_a0, .inr (7, [w_a0_primes, w_a0_sieved, w_a0_parting, w_a0_primeSums, w_a0_progression, .ref h_a0_rows])), (h_a0_rows, .inr (5, [.ref q_a0_rows_values, .int a0_rows_many])), (q_a0_rows_values, .inl (cJ, 9600, .inr (.inl a0_rows_values)))] sz) (qc_X8_hasRow_c1 dC dI cI cJ cZ h_a0 w_a0_primes w_a0_sieved w_a0_parting w_a0_primeSums w_a0_progression h_a0_rows a0_rows_values q_a0_rows_values a0_rows_many Q (va_A [(h_a0, .inr (7, [w_a0_primes, w_a0_sieved, w_a0_parting, w_a0_primeSums, w_a0_progression, .ref h_a0_rows])), (h_a0_rows, .inr (5, [.ref q_a0_rows_values, .int a0_rows_many])), (q_a0_rows_values, .inl (cJ, 9600, .inr (.inl a0_rows_values)))] sz)) 0 0 (va_A [(h_a0, .inr (7, [w_a0_primes, w_a0_sieved, w_a0_parting, w_a0_primeSums, w_a0_progression, .ref h_a0_rows])), (h_a0_rows, .inr (5, [.ref q_a0_rows_values, .int a0_rows_many])), (q_a0_rows_values, .inl (cJ, 9600, .inr (.inl a0_rows_values)))] sz) := by
  refine Met.ofW (cc := cX8_hasRow) (maxL := 2) (ret := (some .boolean)) (by decide) rfl ?_
  intro p e s m args below meth c s₁ B hml hv
  obtain ⟨rfl, hsz, hP, hK, hN, hD0⟩ := hv
  have hx := B.exec
  have hb := B.bytes
  have hr := B.returns
  have hts := atoms_spec (ws := wsX8_hasRow) B.pre
  have hown : s.vm.findClass RX8 = some m.cls := findClass_of_methodNamed B.named
  subst hsz
  have hD := hD0.self (sz := s.heap.size)
  generalize hAe : va_A [(h_a0, .inr (7, [w_a0_primes, w_a0_sieved, w_a0_parting, w_a0_primeSums, w_a0_progression, .ref h_a0_rows])), (h_a0_rows, .inr (5, [.ref q_a0_rows_values, .int a0_rows_many])), (q_a0_rows_values, .inl (cJ, 9600, .inr (.inl a0_rows_values)))] s.heap.size = A at hD ⊢
  have hA : ∀ q : Nat, s.heap.size ≤ q → A q := fun q h => by rw [← hAe]; exact Or.inr h
  have hS : va_S A s.heap s.heap [] := va_S.rf
  have hl := lv_entry ([.ref h_a0, .int p1]) (n := 2) (Nat.le_of_ble_eq_true rfl)
  rw [lg_entry_eq]
  generalize (lg_sl ([.ref h_a0, .int p1]) ++ List.replicate (2 - (lg_sl ([.ref h_a0, .int p1])).length) Slot.unset).toArray = ls at hl ⊢
  have hl : lv_has ls 2 [(0, .ref h_a0), (1, .int p1)] := hl
  have h := hQ
  unfold wp_X8_hasRow_c1 at h
  have hw_0 := hts (.fieldLink RX8 147 "NumberSieves" "rows" "LNumberSieves$Rows;") (by decide +kernel)
  have hin_X8 : ∀ w ∈ wsX80, w ∈ wsX8_hasRow := by decide +kernel
  have hin_X5 : ∀ w ∈ wsX50, w ∈ wsX8_hasRow := by decide +kernel
  refine lv_aload_n hx hb dX8_hasRow_0 rfl (lv_at hl 0 rfl) ?_
  refine va_get (D := (dC, dI)) (ci := 7) (v := .ref h_a0_rows) (C := RX8) (T := TX8) (N := 6) hx hb hts hin_X8 hown hK hP 0 rfl rfl 5 (by decide) hw_0 (fun _ h9 => h9) rfl dX8_hasRow_1 ?_
  refine lv_ifnull hx hb dX8_hasRow_4 ?_
  refine lv_iload_n hx hb dX8_hasRow_7 rfl (lv_at hl 1 rfl) ?_
  refine lv_if_lt (tgt := 26) hx hb dX8_hasRow_8 (by decide) (fun c_1 => ?_) (fun c_1 => ?_)
  · replace h := h.1 c_1
    refine lv_iconst (v := (0 : Int32)) hx hb dX8_hasRow_26 (by decide) ?_
    have hP9 := hP.sub (ws' := [(h_a0, .inr (7, [w_a0_primes, w_a0_sieved, w_a0_parting, w_a0_primeSums, w_a0_progression, .ref h_a0_rows])), (h_a0_rows, .inr (5, [.ref q_a0_rows_values, .int a0_rows_many])), (q_a0_rows_values, .inl (cJ, 9600, .inr (.inl a0_rows_values)))]) [0, 1, 2] rfl
    have hD9 := hD.sub (ws' := [(h_a0, .inr (7, [w_a0_primes, w_a0_sieved, w_a0_parting, w_a0_primeSums, w_a0_progression, .ref h_a0_rows])), (h_a0_rows, .inr (5, [.ref q_a0_rows_values, .int a0_rows_many])), (q_a0_rows_values, .inl (cJ, 9600, .inr (.inl a0_rows_values)))]) [0, 1, 2] (by decide) rfl
    exact W.zret (v := (0 : Int32)) hx hb hr (by decide) (fun t ht hW => ⟨⟨_, (), rfl, h, by rw [ht]; exact hP9, hD9⟩, hS.F ht⟩) hS.2.2 dX8_hasRow_27
  · replace h := h.2 c_1
    refine lv_iload_n hx hb dX8_hasRow_11 rfl (lv_at hl 1 rfl) ?_
    refine lv_aload_n hx hb dX8_hasRow_12 rfl (lv_at hl 0 rfl) ?_
    refine va_get (D := (dC, dI)) (ci := 7) (v := .ref h_a0_rows) (C := RX8) (T := TX8) (N := 6) hx hb hts hin_X8 hown hK hP 0 rfl rfl 5 (by decide) hw_0 (fun _ h9 => h9) rfl dX8_hasRow_13 ?_
    refine va_getN (D := (dC, dI)) (ci := 5) (v := .int a0_rows_many) (C := RX5) (T := TX5) (N := 2) hx hb hts hin_X5 hown hK hP 1 rfl rfl 1 (by decide) (nw_10 hN) (fun _ h9 => h9) rfl dX8_hasRow_16 ?_
    refine lv_icmp_ge (tgt := 26) hx hb dX8_hasRow_19 (by decide) (fun c_2 => ?_) (fun c_2 => ?_)
    · replace h := h.1 c_2
      refine lv_iconst (v := (0 : Int32)) hx hb dX8_hasRow_26 (by decide) ?_
      have hP9 := hP.sub (ws' := [(h_a0, .inr (7, [w_a0_primes, w_a0_sieved, w_a0_parting, w_a0_primeSums, w_a0_progression, .ref h_a0_rows])), (h_a0_rows, .inr (5, [.ref q_a0_rows_values, .int a0_rows_many])), (q_a0_rows_values, .inl (cJ, 9600, .inr (.inl a0_rows_values)))]) [0, 1, 2] rfl
      have hD9 := hD.sub (ws' := [(h_a0, .inr (7, [w_a0_primes, w_a0_sieved, w_a0_parting, w_a0_primeSums, w_a0_progression, .ref h_a0_rows])), (h_a0_rows, .inr (5, [.ref q_a0_rows_values, .int a0_rows_many])), (q_a0_rows_values, .inl (cJ, 9600, .inr (.inl a0_rows_values)))]) [0, 1, 2] (by decide) rfl
      exact W.zret (v := (0 : Int32)) hx hb hr (by decide) (fun t ht hW => ⟨⟨_, (), rfl, h, by rw [ht]; exact hP9, hD9⟩, hS.F ht⟩) hS.2.2 dX8_hasRow_27
    · replace h := h.2 c_2
      refine lv_iconst (v := (1 : Int32)) hx hb dX8_hasRow_22 (by decide) ?_
      refine lv_goto (tgt := 27) hx hb dX8_hasRow_23 (by decide) ?_
      have hP9 := hP.sub (ws' := [(h_a0, .inr (7, [w_a0_primes, w_a0_sieved, w_a0_parting, w_a0_primeSums, w_a0_progression, .ref h_a0_rows])), (h_a0_rows, .inr (5, [.ref q_a0_rows_values, .int a0_rows_many])), (q_a0_rows_values, .inl (cJ, 9600, .inr (.inl a0_rows_values)))]) [0, 1, 2] rfl
      have hD9 := hD.sub (ws' := [(h_a0, .inr (7, [w_a0_primes, w_a0_sieved, w_a0_parting, w_a0_primeSums, w_a0_progression, .ref h_a0_rows])), (h_a0_rows, .inr (5, [.ref q_a0_rows_values, .int a0_rows_many])), (q_a0_rows_values, .inl (cJ, 9600, .inr (.inl a0_rows_values)))]) [0, 1, 2] (by decide) rfl
      exact W.zret (v := (1 : Int32)) hx hb hr (by decide) (fun t ht hW => ⟨⟨_, (), rfl, h, by rw [ht]; exact hP9, hD9⟩, hS.F ht⟩) hS.2.2 dX8_hasRow_27
def wp_X8_newRow_c0   (Q : Int32 → (Nat → Int64) → Int32 → Prop) : Prop :=
  wp_X5_init (fun o_2 o_3 => wp_X5_addZeros o_2 o_3 (fun r_5 o_6 o_7 => Q r_5 o_7 o_6))
abbrev rm_X8_newRow_c0 : Room := { frames := 3, cells := 2, slots := 9602, locals := 67 }
abbrev qc_X8_newRow_c0 (dC : Nat → ClassId) (dI : Nat → Nat → Nat) (cI cJ cZ : ClassId) (h_a0 : Nat) (w_a0_primes : Value) (w_a0_sieved : Value) (w_a0_parting : Value) (w_a0_primeSums : Value) (w_a0_progression : Value) (Q : Int32 → (Nat → Int64) → Int32 → Prop) (A : Nat → Prop) : Array Value → State → Outcome → State → Prop := va_Qi (fun (r : Int32) (u : Nat × Nat × (Nat → Int64) × Int32) => Q r u.2.2.1 u.2.2.2) (post_ dC dI A (fun (u : Nat × Nat × (Nat → Int64) × Int32) => ([(h_a0, .inr (7, [w_a0_primes, w_a0_sieved, w_a0_parting, w_a0_primeSums, w_a0_progression, .ref u.1])), (u.1, .inr (5, [.ref u.2.1, .int u.2.2.2])), (u.2.1, .inl (cJ, 9600, .inr (.inl (u.2.2.1))))] : va_W))) A
set_option maxHeartbeats 4000000 in
set_option maxRecDepth 100000 in
theorem c_X8_newRow_c0 (l : Launch) (dC : Nat → ClassId) (dI : Nat → Nat → Nat) (cI cJ cZ : ClassId) (sz : Nat) (h_a0 : Nat) (w_a0_primes : Value) (w_a0_sieved : Value) (w_a0_parting : Value) (w_a0_primeSums : Value) (w_a0_progression : Value)  (Q : Int32 → (Nat → Int64) → Int32 → Prop) (hQ : wp_X8_newRow_c0  Q) : Met l yX8_newRow wsX8_newRow rm_X8_newRow_c0 (pre_ dC dI cI cJ cZ [.ref h_a0] [(h_a0, .inr (7, [w_a0_primes, w_a0_sieved, w_a0_parting, w_a0_primeSums, w_a0_progression, .null]))] sz) (qc_X8_newRow_c0 dC dI cI cJ cZ h_a0 w_a0_primes w_a0_sieved w_a0_parting w_a0_primeSums w_a0_progression Q (va_A [(h_a0, .inr (7, [w_a0_primes, w_a0_sieved, w_a0_parting, w_a0_primeSums, w_a0_progression, .null]))] sz)) 2 9602 (va_A [(h_a0, .inr (7, [w_a0_primes, w_a0_sieved, w_a0_parting, w_a0_primeSums, w_a0_progression, .null]))] sz) := by
  refine Met.ofW (cc := cX8_newRow) (maxL := 1) (ret := (some .int)) (by decide) rfl ?_
  intro p e s m args below meth c s₁ B hml hv
  obtain ⟨rfl, hsz, hP, hK, hN, hD0⟩ := hv
  have hx := B.exec
  have hb := B.bytes
  have hr := B.returns
  have hts := atoms_spec (ws := wsX8_newRow) B.pre
  have hown : s.vm.findClass RX8 = some m.cls := findClass_of_methodNamed B.named
  subst hsz
  have hD := hD0.self (sz := s.heap.size)
  generalize hAe : va_A [(h_a0, .inr (7, [w_a0_primes, w_a0_sieved, w_a0_parting, w_a0_primeSums, w_a0_progression, .null]))] s.heap.size = A at hD ⊢
  have hA : ∀ q : Nat, s.heap.size ≤ q → A q := fun q h => by rw [← hAe]; exact Or.inr h
  have hS : va_S A s.heap s.heap [] := va_S.rf
  have hl := lv_entry ([.ref h_a0]) (n := 1) (Nat.le_of_ble_eq_true rfl)
  rw [lg_entry_eq]
  generalize (lg_sl ([.ref h_a0]) ++ List.replicate (1 - (lg_sl ([.ref h_a0])).length) Slot.unset).toArray = ls at hl ⊢
  have hl : lv_has ls 1 [(0, .ref h_a0)] := hl
  have h := hQ
  unfold wp_X8_newRow_c0 at h
  have hw_0 := hts (.fieldLink RX8 147 "NumberSieves" "rows" "LNumberSieves$Rows;") (by decide +kernel)
  have hin_X8 : ∀ w ∈ wsX80, w ∈ wsX8_newRow := by decide +kernel
  have hin_X5 : ∀ w ∈ wsX50, w ∈ wsX8_newRow := by decide +kernel
  have hw_3 := hts (.classLink RX8 152 RX5) (by decide +kernel)
  have hw_4 := hts (.instantiable RX5 2) (by decide +kernel)
  have hw_5 := hts (.initialized RX5) (by decide +kernel)
  have hw_6 := hts (.methodLink RX8 203 yX5_init) (by decide +kernel)
  have hw_7 := hts (.instanceMethod yX5_init) (by decide +kernel)
  refine lv_aload_n hx hb dX8_newRow_0 rfl (lv_at hl 0 rfl) ?_
  refine va_get (D := (dC, dI)) (ci := 7) (v := .null) (C := RX8) (T := TX8) (N := 6) hx hb hts hin_X8 hown hK hP 0 rfl rfl 5 (by decide) hw_0 (fun _ h9 => h9) rfl dX8_newRow_1 ?_
  refine lv_ifnonnullN hx hb dX8_newRow_4 ?_
  refine lv_aload_n hx hb dX8_newRow_7 rfl (lv_at hl 0 rfl) ?_
  refine va_new (ci := 5) (fs := [.null, .int (0 : Int32)]) (C := RX5) (T := TX5) (N := 2) hx hb hts hin_X5 tyX5 tyX5_ok hown hw_3 hw_4 hw_5 hK hP hD hS hA rfl (by decide +kernel) (Nat.le_of_ble_eq_true rfl) (Nat.le_of_ble_eq_true rfl) dX8_newRow_8 (fun q_1 H hP hD hS => ?_)
  have hP : va_P (dC, dI) vwCl [(h_a0, .inr (7, [w_a0_primes, w_a0_sieved, w_a0_parting, w_a0_primeSums, w_a0_progression, .null])), (q_1, .inr (5, [.null, .int (0 : Int32)]))] H := hP
  have hD : va_D A [(h_a0, .inr (7, [w_a0_primes, w_a0_sieved, w_a0_parting, w_a0_primeSums, w_a0_progression, .null])), (q_1, .inr (5, [.null, .int (0 : Int32)]))] := hD
  refine W.widen (k := 1) (n := 2) (by omega) (by omega) ?_
  refine lv_dup hx hb dX8_newRow_11 rfl ?_
  have hPc := hP.sub (ws' := [(q_1, .inr (5, [.null, .int (0 : Int32)]))]) [1] rfl
  have hDc := hD.sub (ws' := [(q_1, .inr (5, [.null, .int (0 : Int32)]))]) [1] (by decide) rfl
  have hFc := va_free (wc := [(q_1, .inr (5, [.null, .int (0 : Int32)]))]) hD hS hA [1] rfl
  refine va_callv (va_runI (As := []) (rest := [.ref q_1, .ref h_a0]) ⟨hx, hb, hml, hown, hts⟩ (c_X5_init l dC dI cI cJ cZ _ q_1 _ h) (cwI 0 hts gX8_newRow_X5_init rfl rfl rfl hw_5 hw_6 hw_7 rfl (by decide +kernel) ⟨Nat.le_of_ble_eq_true rfl, Nat.le_of_ble_eq_true rfl⟩) ⟨pre_fb, pre_of hPc hDc hK hN⟩ rfl rfl hl.1 rfl (lv_room (Nat.le_of_ble_eq_true rfl)) dX8_newRow_12 ⟨by first | exact Nat.le_of_ble_eq_true rfl | exact Nat.le_refl _, by first | exact Nat.le_of_ble_eq_true rfl | exact Nat.le_refl _⟩) hS (fun q _ h => hFc q h) hFc (fun u t H1 locs ht hvm h hB hz1 hk1 hS => ?_)
  obtain ⟨q_4, o_2, o_3⟩ := u
  obtain ⟨hP1, hD1⟩ := hB
  rw [ht] at hP1
  try dsimp only at h
  obtain ⟨hP, hD⟩ := va_join (wr := [(h_a0, .inr (7, [w_a0_primes, w_a0_sieved, w_a0_parting, w_a0_primeSums, w_a0_progression, .null]))]) (w1 := [(q_1, .inr (5, [.ref q_4, .int o_3])), (q_4, .inl (cJ, 9600, .inr (.inl o_2)))]) hP hD [1] [0] rfl rfl (by decide) (by decide) hk1 hFc hP1 hD1
  generalize H1 = H at hP hS ⊢
  have hP : va_P (dC, dI) vwCl [(h_a0, .inr (7, [w_a0_primes, w_a0_sieved, w_a0_parting, w_a0_primeSums, w_a0_progression, .null])), (q_1, .inr (5, [.ref q_4, .int o_3])), (q_4, .inl (cJ, 9600, .inr (.inl o_2)))] H := hP
  have hD : va_D A [(h_a0, .inr (7, [w_a0_primes, w_a0_sieved, w_a0_parting, w_a0_primeSums, w_a0_progression, .null])), (q_1, .inr (5, [.ref q_4, .int o_3])), (q_4, .inl (cJ, 9600, .inr (.inl o_2)))] := hD
  refine W.widen (k := 2) (n := 9602) (by omega) (by omega) ?_
  refine va_put (D := (dC, dI)) (ci := 7) (v := .ref q_1) (ty := .object "NumberSieves$Rows") (C := RX8) (T := TX8) (N := 6) hx hb hts hin_X8 tyX8 tyX8_ok nmX8 hown hK hP hD hS 0 rfl rfl 5 (by decide) hw_0 (fun _ h9 => h9) rfl (by decide +kernel) rfl rfl (Nat.le_of_ble_eq_true rfl) dX8_newRow_15 (fun H locs hP hD hS => ?_)
  have hP : va_P (dC, dI) vwCl [(h_a0, .inr (7, [w_a0_primes, w_a0_sieved, w_a0_parting, w_a0_primeSums, w_a0_progression, .ref q_1])), (q_1, .inr (5, [.ref q_4, .int o_3])), (q_4, .inl (cJ, 9600, .inr (.inl o_2)))] H := hP
  have hD : va_D A [(h_a0, .inr (7, [w_a0_primes, w_a0_sieved, w_a0_parting, w_a0_primeSums, w_a0_progression, .ref q_1])), (q_1, .inr (5, [.ref q_4, .int o_3])), (q_4, .inl (cJ, 9600, .inr (.inl o_2)))] := hD
  refine lv_aload_n hx hb dX8_newRow_18 rfl (lv_at hl 0 rfl) ?_
  refine va_get (D := (dC, dI)) (ci := 7) (v := .ref q_1) (C := RX8) (T := TX8) (N := 6) hx hb hts hin_X8 hown hK hP 0 rfl rfl 5 (by decide) hw_0 (fun _ h9 => h9) rfl dX8_newRow_19 ?_
  have hPc := hP.sub (ws' := [(q_1, .inr (5, [.ref q_4, .int o_3])), (q_4, .inl (cJ, 9600, .inr (.inl o_2)))]) [1, 2] rfl
  have hDc := hD.sub (ws' := [(q_1, .inr (5, [.ref q_4, .int o_3])), (q_4, .inl (cJ, 9600, .inr (.inl o_2)))]) [1, 2] (by decide) rfl
  have hFc := va_free (wc := [(q_1, .inr (5, [.ref q_4, .int o_3])), (q_4, .inl (cJ, 9600, .inr (.inl o_2)))]) hD hS hA [1, 2] rfl
  refine va_calli (va_runV (As := []) (rest := []) ⟨hx, hb, hml, hown, hts⟩ (c_X5_addZeros l dC dI cI cJ cZ _ q_1 o_2 q_4 o_3 _ h) (cwV 0 hts gX8_newRow_X5_addZeros rfl rfl rfl (by decide +kernel) ⟨Nat.le_of_ble_eq_true rfl, Nat.le_of_ble_eq_true rfl⟩) ⟨pre_fb, va_recv hK hPc (ci := 5) (q0 := 0) rfl rfl, pre_of hPc hDc hK hN⟩ rfl rfl hl.1 rfl (lv_room (Nat.le_of_ble_eq_true rfl)) dX8_newRow_22 ⟨by first | exact Nat.le_of_ble_eq_true rfl | exact Nat.le_refl _, by first | exact Nat.le_of_ble_eq_true rfl | exact Nat.le_refl _⟩) hS (fun q _ h => hFc q h) hFc (fun r_5 u t H1 locs ht hvm h hB hz1 hk1 hS => ?_)
  obtain ⟨o_6, o_7⟩ := u
  obtain ⟨hP1, hD1⟩ := hB
  rw [ht] at hP1
  try dsimp only at h
  obtain ⟨hP, hD⟩ := va_join (wr := [(h_a0, .inr (7, [w_a0_primes, w_a0_sieved, w_a0_parting, w_a0_primeSums, w_a0_progression, .ref q_1]))]) (w1 := [(q_1, .inr (5, [.ref q_4, .int o_6])), (q_4, .inl (cJ, 9600, .inr (.inl o_7)))]) hP hD [1, 2] [0] rfl rfl (by decide) (by decide) hk1 hFc hP1 hD1
  generalize H1 = H at hP hS ⊢
  have hP : va_P (dC, dI) vwCl [(h_a0, .inr (7, [w_a0_primes, w_a0_sieved, w_a0_parting, w_a0_primeSums, w_a0_progression, .ref q_1])), (q_1, .inr (5, [.ref q_4, .int o_6])), (q_4, .inl (cJ, 9600, .inr (.inl o_7)))] H := hP
  have hD : va_D A [(h_a0, .inr (7, [w_a0_primes, w_a0_sieved, w_a0_parting, w_a0_primeSums, w_a0_progression, .ref q_1])), (q_1, .inr (5, [.ref q_4, .int o_6])), (q_4, .inl (cJ, 9600, .inr (.inl o_7)))] := hD
  have hP9 := hP.sub (ws' := [(h_a0, .inr (7, [w_a0_primes, w_a0_sieved, w_a0_parting, w_a0_primeSums, w_a0_progression, .ref q_1])), (q_1, .inr (5, [.ref q_4, .int o_6])), (q_4, .inl (cJ, 9600, .inr (.inl o_7)))]) [0, 1, 2] rfl
  have hD9 := hD.sub (ws' := [(h_a0, .inr (7, [w_a0_primes, w_a0_sieved, w_a0_parting, w_a0_primeSums, w_a0_progression, .ref q_1])), (q_1, .inr (5, [.ref q_4, .int o_6])), (q_4, .inl (cJ, 9600, .inr (.inl o_7)))]) [0, 1, 2] (by decide) rfl
  exact W.iret (v := r_5) hx hb hr (fun t ht hW => ⟨⟨_, (q_1, q_4, o_7, o_6), rfl, h, by rw [ht]; exact hP9, hD9⟩, hS.F ht⟩) hS.2.2 dX8_newRow_25
def wp_X8_newRow_c1 (a0_rows_values : Nat → Int64) (a0_rows_many : Int32)  (Q : Int32 → Int32 → (Nat → Int64) → Prop) : Prop :=
  wp_X5_addZeros a0_rows_values a0_rows_many (fun r_1 o_2 o_3 => Q r_1 o_2 o_3)
abbrev rm_X8_newRow_c1 : Room := { frames := 3, cells := 0, slots := 0, locals := 67 }
abbrev qc_X8_newRow_c1 (dC : Nat → ClassId) (dI : Nat → Nat → Nat) (cI cJ cZ : ClassId) (h_a0 : Nat) (w_a0_primes : Value) (w_a0_sieved : Value) (w_a0_parting : Value) (w_a0_primeSums : Value) (w_a0_progression : Value) (h_a0_rows : Nat) (a0_rows_values : Nat → Int64) (q_a0_rows_values : Nat) (a0_rows_many : Int32) (Q : Int32 → Int32 → (Nat → Int64) → Prop) (A : Nat → Prop) : Array Value → State → Outcome → State → Prop := va_Qi (fun (r : Int32) (u : Int32 × (Nat → Int64)) => Q r u.1 u.2) (post_ dC dI A (fun (u : Int32 × (Nat → Int64)) => ([(h_a0, .inr (7, [w_a0_primes, w_a0_sieved, w_a0_parting, w_a0_primeSums, w_a0_progression, .ref h_a0_rows])), (h_a0_rows, .inr (5, [.ref q_a0_rows_values, .int u.1])), (q_a0_rows_values, .inl (cJ, 9600, .inr (.inl (u.2))))] : va_W))) A
set_option maxHeartbeats 4000000 in
set_option maxRecDepth 100000 in
theorem c_X8_newRow_c1 (l : Launch) (dC : Nat → ClassId) (dI : Nat → Nat → Nat) (cI cJ cZ : ClassId) (sz : Nat) (h_a0 : Nat) (w_a0_primes : Value) (w_a0_sieved : Value) (w_a0_parting : Value) (w_a0_primeSums : Value) (w_a0_progression : Value) (h_a0_rows : Nat) (a0_rows_values : Nat → Int64) (q_a0_rows_values : Nat) (a0_rows_many : Int32)  (Q : Int32 → Int32 → (Nat → Int64) → Prop) (hQ : wp_X8_newRow_c1 a0_rows_values a0_rows_many Q) : Met l yX8_newRow wsX8_newRow rm_X8_newRow_c1 (pre_ dC dI cI cJ cZ [.ref h_a0] [(h_a0, .inr (7, [w_a0_primes, w_a0_sieved, w_a0_parting, w_a0_primeSums, w_a0_progression, .ref h_a0_rows])), (h_a0_rows, .inr (5, [.ref q_a0_rows_values, .int a0_rows_many])), (q_a0_rows_values, .inl (cJ, 9600, .inr (.inl a0_rows_values)))] sz) (qc_X8_newRow_c1 dC dI cI cJ cZ h_a0 w_a0_primes w_a0_sieved w_a0_parting w_a0_primeSums w_a0_progression h_a0_rows a0_rows_values q_a0_rows_values a0_rows_many Q (va_A [(h_a0, .inr (7, [w_a0_primes, w_a0_sieved, w_a0_parting, w_a0_primeSums, w_a0_progression, .ref h_a0_rows])), (h_a0_rows, .inr (5, [.ref q_a0_rows_values, .int a0_rows_many])), (q_a0_rows_values, .inl (cJ, 9600, .inr (.inl a0_rows_values)))] sz)) 0 0 (va_A [(h_a0, .inr (7, [w_a0_primes, w_a0_sieved, w_a0_parting, w_a0_primeSums, w_a0_progression, .ref h_a0_rows])), (h_a0_rows, .inr (5, [.ref q_a0_rows_values, .int a0_rows_many])), (q_a0_rows_values, .inl (cJ, 9600, .inr (.inl a0_rows_values)))] sz) := by
  refine Met.ofW (cc := cX8_newRow) (maxL := 1) (ret := (some .int)) (by decide) rfl ?_
  intro p e s m args below meth c s₁ B hml hv
  obtain ⟨rfl, hsz, hP, hK, hN, hD0⟩ := hv
  have hx := B.exec
  have hb := B.bytes
  have hr := B.returns
  have hts := atoms_spec (ws := wsX8_newRow) B.pre
  have hown : s.vm.findClass RX8 = some m.cls := findClass_of_methodNamed B.named
  subst hsz
  have hD := hD0.self (sz := s.heap.size)
  generalize hAe : va_A [(h_a0, .inr (7, [w_a0_primes, w_a0_sieved, w_a0_parting, w_a0_primeSums, w_a0_progression, .ref h_a0_rows])), (h_a0_rows, .inr (5, [.ref q_a0_rows_values, .int a0_rows_many])), (q_a0_rows_values, .inl (cJ, 9600, .inr (.inl a0_rows_values)))] s.heap.size = A at hD ⊢
  have hA : ∀ q : Nat, s.heap.size ≤ q → A q := fun q h => by rw [← hAe]; exact Or.inr h
  have hS : va_S A s.heap s.heap [] := va_S.rf
  have hl := lv_entry ([.ref h_a0]) (n := 1) (Nat.le_of_ble_eq_true rfl)
  rw [lg_entry_eq]
  generalize (lg_sl ([.ref h_a0]) ++ List.replicate (1 - (lg_sl ([.ref h_a0])).length) Slot.unset).toArray = ls at hl ⊢
  have hl : lv_has ls 1 [(0, .ref h_a0)] := hl
  have h := hQ
  unfold wp_X8_newRow_c1 at h
  have hw_0 := hts (.fieldLink RX8 147 "NumberSieves" "rows" "LNumberSieves$Rows;") (by decide +kernel)
  have hin_X8 : ∀ w ∈ wsX80, w ∈ wsX8_newRow := by decide +kernel
  refine lv_aload_n hx hb dX8_newRow_0 rfl (lv_at hl 0 rfl) ?_
  refine va_get (D := (dC, dI)) (ci := 7) (v := .ref h_a0_rows) (C := RX8) (T := TX8) (N := 6) hx hb hts hin_X8 hown hK hP 0 rfl rfl 5 (by decide) hw_0 (fun _ h9 => h9) rfl dX8_newRow_1 ?_
  refine lv_ifnonnull (tgt := 18) hx hb dX8_newRow_4 (by decide) ?_
  refine lv_aload_n hx hb dX8_newRow_18 rfl (lv_at hl 0 rfl) ?_
  refine va_get (D := (dC, dI)) (ci := 7) (v := .ref h_a0_rows) (C := RX8) (T := TX8) (N := 6) hx hb hts hin_X8 hown hK hP 0 rfl rfl 5 (by decide) hw_0 (fun _ h9 => h9) rfl dX8_newRow_19 ?_
  have hPc := hP.sub (ws' := [(h_a0_rows, .inr (5, [.ref q_a0_rows_values, .int a0_rows_many])), (q_a0_rows_values, .inl (cJ, 9600, .inr (.inl a0_rows_values)))]) [1, 2] rfl
  have hDc := hD.sub (ws' := [(h_a0_rows, .inr (5, [.ref q_a0_rows_values, .int a0_rows_many])), (q_a0_rows_values, .inl (cJ, 9600, .inr (.inl a0_rows_values)))]) [1, 2] (by decide) rfl
  have hFc := va_free (wc := [(h_a0_rows, .inr (5, [.ref q_a0_rows_values, .int a0_rows_many])), (q_a0_rows_values, .inl (cJ, 9600, .inr (.inl a0_rows_values)))]) hD hS hA [1, 2] rfl
  refine va_calli (va_runV (As := []) (rest := []) ⟨hx, hb, hml, hown, hts⟩ (c_X5_addZeros l dC dI cI cJ cZ _ h_a0_rows a0_rows_values q_a0_rows_values a0_rows_many _ h) (cwV 0 hts gX8_newRow_X5_addZeros rfl rfl rfl (by decide +kernel) ⟨Nat.le_of_ble_eq_true rfl, Nat.le_of_ble_eq_true rfl⟩) ⟨pre_fb, va_recv hK hPc (ci := 5) (q0 := 0) rfl rfl, pre_of hPc hDc hK hN⟩ rfl rfl hl.1 rfl (lv_room (Nat.le_of_ble_eq_true rfl)) dX8_newRow_22 ⟨by first | exact Nat.le_of_ble_eq_true rfl | exact Nat.le_refl _, by first | exact Nat.le_of_ble_eq_true rfl | exact Nat.le_refl _⟩) hS (fun q _ h => hFc q h) hFc (fun r_1 u t H1 locs ht hvm h hB hz1 hk1 hS => ?_)
  obtain ⟨o_2, o_3⟩ := u
  obtain ⟨hP1, hD1⟩ := hB
  rw [ht] at hP1
  try dsimp only at h
  obtain ⟨hP, hD⟩ := va_join (wr := [(h_a0, .inr (7, [w_a0_primes, w_a0_sieved, w_a0_parting, w_a0_primeSums, w_a0_progression, .ref h_a0_rows]))]) (w1 := [(h_a0_rows, .inr (5, [.ref q_a0_rows_values, .int o_2])), (q_a0_rows_values, .inl (cJ, 9600, .inr (.inl o_3)))]) hP hD [1, 2] [0] rfl rfl (by decide) (by decide) hk1 hFc hP1 hD1
  generalize H1 = H at hP hS ⊢
  have hP : va_P (dC, dI) vwCl [(h_a0, .inr (7, [w_a0_primes, w_a0_sieved, w_a0_parting, w_a0_primeSums, w_a0_progression, .ref h_a0_rows])), (h_a0_rows, .inr (5, [.ref q_a0_rows_values, .int o_2])), (q_a0_rows_values, .inl (cJ, 9600, .inr (.inl o_3)))] H := hP
  have hD : va_D A [(h_a0, .inr (7, [w_a0_primes, w_a0_sieved, w_a0_parting, w_a0_primeSums, w_a0_progression, .ref h_a0_rows])), (h_a0_rows, .inr (5, [.ref q_a0_rows_values, .int o_2])), (q_a0_rows_values, .inl (cJ, 9600, .inr (.inl o_3)))] := hD
  have hP9 := hP.sub (ws' := [(h_a0, .inr (7, [w_a0_primes, w_a0_sieved, w_a0_parting, w_a0_primeSums, w_a0_progression, .ref h_a0_rows])), (h_a0_rows, .inr (5, [.ref q_a0_rows_values, .int o_2])), (q_a0_rows_values, .inl (cJ, 9600, .inr (.inl o_3)))]) [0, 1, 2] rfl
  have hD9 := hD.sub (ws' := [(h_a0, .inr (7, [w_a0_primes, w_a0_sieved, w_a0_parting, w_a0_primeSums, w_a0_progression, .ref h_a0_rows])), (h_a0_rows, .inr (5, [.ref q_a0_rows_values, .int o_2])), (q_a0_rows_values, .inl (cJ, 9600, .inr (.inl o_3)))]) [0, 1, 2] (by decide) rfl
  exact W.iret (v := r_1) hx hb hr (fun t ht hW => ⟨⟨_, (o_2, o_3), rfl, h, by rw [ht]; exact hP9, hD9⟩, hS.F ht⟩) hS.2.2 dX8_newRow_25
def wp_X8_least_c0  (p1 : Int32) (Q : Int64 → Prop) : Prop :=
  Q (0 : Int64)
abbrev rm_X8_least_c0 : Room := { frames := 1, cells := 0, slots := 0, locals := 21 }
abbrev qc_X8_least_c0 (dC : Nat → ClassId) (dI : Nat → Nat → Nat) (cI cJ cZ : ClassId) (h_a0 : Nat) (w_a0_primes : Value) (w_a0_parting : Value) (w_a0_primeSums : Value) (w_a0_progression : Value) (w_a0_rows : Value) (Q : Int64 → Prop) (A : Nat → Prop) : Array Value → State → Outcome → State → Prop := va_Ql (fun (r : Int64) (_ : Unit) => Q r) (post_ dC dI A (fun (u : Unit) => ([(h_a0, .inr (7, [w_a0_primes, .null, w_a0_parting, w_a0_primeSums, w_a0_progression, w_a0_rows]))] : va_W))) A
set_option maxHeartbeats 4000000 in
set_option maxRecDepth 100000 in
theorem c_X8_least_c0 (l : Launch) (dC : Nat → ClassId) (dI : Nat → Nat → Nat) (cI cJ cZ : ClassId) (sz : Nat) (h_a0 : Nat) (w_a0_primes : Value) (w_a0_parting : Value) (w_a0_primeSums : Value) (w_a0_progression : Value) (w_a0_rows : Value) (p1 : Int32) (Q : Int64 → Prop) (hQ : wp_X8_least_c0 p1 Q) : Met l yX8_least wsX8_least rm_X8_least_c0 (pre_ dC dI cI cJ cZ [.ref h_a0, .int p1] [(h_a0, .inr (7, [w_a0_primes, .null, w_a0_parting, w_a0_primeSums, w_a0_progression, w_a0_rows]))] sz) (qc_X8_least_c0 dC dI cI cJ cZ h_a0 w_a0_primes w_a0_parting w_a0_primeSums w_a0_progression w_a0_rows Q (va_A [(h_a0, .inr (7, [w_a0_primes, .null, w_a0_parting, w_a0_primeSums, w_a0_progression, w_a0_rows]))] sz)) 0 0 (va_A [(h_a0, .inr (7, [w_a0_primes, .null, w_a0_parting, w_a0_primeSums, w_a0_progression, w_a0_rows]))] sz) := by
  refine Met.ofW (cc := cX8_least) (maxL := 2) (ret := (some .long)) (by decide) rfl ?_
  intro p e s m args below meth c s₁ B hml hv
  obtain ⟨rfl, hsz, hP, hK, hN, hD0⟩ := hv
  have hx := B.exec
  have hb := B.bytes
  have hr := B.returns
  have hts := atoms_spec (ws := wsX8_least) B.pre
  have hown : s.vm.findClass RX8 = some m.cls := findClass_of_methodNamed B.named
  subst hsz
  have hD := hD0.self (sz := s.heap.size)
  generalize hAe : va_A [(h_a0, .inr (7, [w_a0_primes, .null, w_a0_parting, w_a0_primeSums, w_a0_progression, w_a0_rows]))] s.heap.size = A at hD ⊢
  have hA : ∀ q : Nat, s.heap.size ≤ q → A q := fun q h => by rw [← hAe]; exact Or.inr h
  have hS : va_S A s.heap s.heap [] := va_S.rf
  have hl := lv_entry ([.ref h_a0, .int p1]) (n := 2) (Nat.le_of_ble_eq_true rfl)
  rw [lg_entry_eq]
  generalize (lg_sl ([.ref h_a0, .int p1]) ++ List.replicate (2 - (lg_sl ([.ref h_a0, .int p1])).length) Slot.unset).toArray = ls at hl ⊢
  have hl : lv_has ls 2 [(0, .ref h_a0), (1, .int p1)] := hl
  have h := hQ
  unfold wp_X8_least_c0 at h
  have hw_0 := hts (.fieldLink RX8 11 "NumberSieves" "sieved" "LNumberSieves$Span;") (by decide +kernel)
  have hin_X8 : ∀ w ∈ wsX80, w ∈ wsX8_least := by decide +kernel
  refine lv_aload_n hx hb dX8_least_0 rfl (lv_at hl 0 rfl) ?_
  refine va_get (D := (dC, dI)) (ci := 7) (v := .null) (C := RX8) (T := TX8) (N := 6) hx hb hts hin_X8 hown hK hP 0 rfl rfl 1 (by decide) hw_0 (fun _ h9 => h9) rfl dX8_least_1 ?_
  refine lv_ifnonnullN hx hb dX8_least_4 ?_
  refine lv_lconst (v := (0 : Int64)) hx hb dX8_least_7 (by decide) ?_
  refine lv_goto (tgt := 19) hx hb dX8_least_8 (by decide) ?_
  have hP9 := hP.sub (ws' := [(h_a0, .inr (7, [w_a0_primes, .null, w_a0_parting, w_a0_primeSums, w_a0_progression, w_a0_rows]))]) [0] rfl
  have hD9 := hD.sub (ws' := [(h_a0, .inr (7, [w_a0_primes, .null, w_a0_parting, w_a0_primeSums, w_a0_progression, w_a0_rows]))]) [0] (by decide) rfl
  exact W.lret (v := (0 : Int64)) hx hb hr (fun t ht hW => ⟨⟨_, (), rfl, h, by rw [ht]; exact hP9, hD9⟩, hS.F ht⟩) hS.2.2 dX8_least_19
def wp_X8_least_c1 (a0_sieved_leasts : Nat → Int64) (a0_sieved_many : Int32) (p1 : Int32) (Q : Int64 → Prop) : Prop :=
  wp_X6_leastOf a0_sieved_leasts a0_sieved_many p1 (fun r_1 => Q r_1)
abbrev rm_X8_least_c1 : Room := { frames := 1, cells := 0, slots := 0, locals := 21 }
abbrev qc_X8_least_c1 (dC : Nat → ClassId) (dI : Nat → Nat → Nat) (cI cJ cZ : ClassId) (h_a0 : Nat) (w_a0_primes : Value) (h_a0_sieved : Nat) (a0_sieved_leasts : Nat → Int64) (q_a0_sieved_leasts : Nat) (a0_sieved_greatests : Nat → Int64) (q_a0_sieved_greatests : Nat) (a0_sieved_rests : Nat → Int64) (q_a0_sieved_rests : Nat) (h_a0_sieved_squared : Nat) (a0_sieved_squared_words : Nat → Int64) (q_a0_sieved_squared_words : Nat) (a0_sieved_from : Int64) (a0_sieved_many : Int32) (a0_sieved_primeCount : Int32) (a0_sieved_gap : Int32) (a0_sieved_twins : Int32) (a0_sieved_squareFree : Int32) (w_a0_parting : Value) (w_a0_primeSums : Value) (w_a0_progression : Value) (w_a0_rows : Value) (Q : Int64 → Prop) (A : Nat → Prop) : Array Value → State → Outcome → State → Prop := va_Ql (fun (r : Int64) (_ : Unit) => Q r) (post_ dC dI A (fun (u : Unit) => ([(h_a0, .inr (7, [w_a0_primes, .ref h_a0_sieved, w_a0_parting, w_a0_primeSums, w_a0_progression, w_a0_rows])), (h_a0_sieved, .inr (6, [.ref q_a0_sieved_leasts, .ref q_a0_sieved_greatests, .ref q_a0_sieved_rests, .ref h_a0_sieved_squared, .long a0_sieved_from, .int a0_sieved_many, .int a0_sieved_primeCount, .int a0_sieved_gap, .int a0_sieved_twins, .int a0_sieved_squareFree])), (q_a0_sieved_leasts, .inl (cJ, 5000, .inr (.inl a0_sieved_leasts))), (q_a0_sieved_greatests, .inl (cJ, 5000, .inr (.inl a0_sieved_greatests))), (q_a0_sieved_rests, .inl (cJ, 5000, .inr (.inl a0_sieved_rests))), (h_a0_sieved_squared, .inr (0, [.ref q_a0_sieved_squared_words])), (q_a0_sieved_squared_words, .inl (cJ, 79, .inr (.inl a0_sieved_squared_words)))] : va_W))) A
set_option maxHeartbeats 4000000 in
set_option maxRecDepth 100000 in
theorem c_X8_least_c1 (l : Launch) (dC : Nat → ClassId) (dI : Nat → Nat → Nat) (cI cJ cZ : ClassId) (sz : Nat) (h_a0 : Nat) (w_a0_primes : Value) (h_a0_sieved : Nat) (a0_sieved_leasts : Nat → Int64) (q_a0_sieved_leasts : Nat) (a0_sieved_greatests : Nat → Int64) (q_a0_sieved_greatests : Nat) (a0_sieved_rests : Nat → Int64) (q_a0_sieved_rests : Nat) (h_a0_sieved_squared : Nat) (a0_sieved_squared_words : Nat → Int64) (q_a0_sieved_squared_words : Nat) (a0_sieved_from : Int64) (a0_sieved_many : Int32) (a0_sieved_primeCount : Int32) (a0_sieved_gap : Int32) (a0_sieved_twins : Int32) (a0_sieved_squareFree : Int32) (w_a0_parting : Value) (w_a0_primeSums : Value) (w_a0_progression : Value) (w_a0_rows : Value) (p1 : Int32) (Q : Int64 → Prop) (hQ : wp_X8_least_c1 a0_sieved_leasts a0_sieved_many p1 Q) : Met l yX8_least wsX8_least rm_X8_least_c1 (pre_ dC dI cI cJ cZ [.ref h_a0, .int p1] [(h_a0, .inr (7, [w_a0_primes, .ref h_a0_sieved, w_a0_parting, w_a0_primeSums, w_a0_progression, w_a0_rows])), (h_a0_sieved, .inr (6, [.ref q_a0_sieved_leasts, .ref q_a0_sieved_greatests, .ref q_a0_sieved_rests, .ref h_a0_sieved_squared, .long a0_sieved_from, .int a0_sieved_many, .int a0_sieved_primeCount, .int a0_sieved_gap, .int a0_sieved_twins, .int a0_sieved_squareFree])), (q_a0_sieved_leasts, .inl (cJ, 5000, .inr (.inl a0_sieved_leasts))), (q_a0_sieved_greatests, .inl (cJ, 5000, .inr (.inl a0_sieved_greatests))), (q_a0_sieved_rests, .inl (cJ, 5000, .inr (.inl a0_sieved_rests))), (h_a0_sieved_squared, .inr (0, [.ref q_a0_sieved_squared_words])), (q_a0_sieved_squared_words, .inl (cJ, 79, .inr (.inl a0_sieved_squared_words)))] sz) (qc_X8_least_c1 dC dI cI cJ cZ h_a0 w_a0_primes h_a0_sieved a0_sieved_leasts q_a0_sieved_leasts a0_sieved_greatests q_a0_sieved_greatests a0_sieved_rests q_a0_sieved_rests h_a0_sieved_squared a0_sieved_squared_words q_a0_sieved_squared_words a0_sieved_from a0_sieved_many a0_sieved_primeCount a0_sieved_gap a0_sieved_twins a0_sieved_squareFree w_a0_parting w_a0_primeSums w_a0_progression w_a0_rows Q (va_A [(h_a0, .inr (7, [w_a0_primes, .ref h_a0_sieved, w_a0_parting, w_a0_primeSums, w_a0_progression, w_a0_rows])), (h_a0_sieved, .inr (6, [.ref q_a0_sieved_leasts, .ref q_a0_sieved_greatests, .ref q_a0_sieved_rests, .ref h_a0_sieved_squared, .long a0_sieved_from, .int a0_sieved_many, .int a0_sieved_primeCount, .int a0_sieved_gap, .int a0_sieved_twins, .int a0_sieved_squareFree])), (q_a0_sieved_leasts, .inl (cJ, 5000, .inr (.inl a0_sieved_leasts))), (q_a0_sieved_greatests, .inl (cJ, 5000, .inr (.inl a0_sieved_greatests))), (q_a0_sieved_rests, .inl (cJ, 5000, .inr (.inl a0_sieved_rests))), (h_a0_sieved_squared, .inr (0, [.ref q_a0_sieved_squared_words])), (q_a0_sieved_squared_words, .inl (cJ, 79, .inr (.inl a0_sieved_squared_words)))] sz)) 0 0 (va_A [(h_a0, .inr (7, [w_a0_primes, .ref h_a0_sieved, w_a0_parting, w_a0_primeSums, w_a0_progression, w_a0_rows])), (h_a0_sieved, .inr (6, [.ref q_a0_sieved_leasts, .ref q_a0_sieved_greatests, .ref q_a0_sieved_rests, .ref h_a0_sieved_squared, .long a0_sieved_from, .int a0_sieved_many, .int a0_sieved_primeCount, .int a0_sieved_gap, .int a0_sieved_twins, .int a0_sieved_squareFree])), (q_a0_sieved_leasts, .inl (cJ, 5000, .inr (.inl a0_sieved_leasts))), (q_a0_sieved_greatests, .inl (cJ, 5000, .inr (.inl a0_sieved_greatests))), (q_a0_sieved_rests, .inl (cJ, 5000, .inr (.inl a0_sieved_rests))), (h_a0_sieved_squared, .inr (0, [.ref q_a0_sieved_squared_words])), (q_a0_sieved_squared_words, .inl (cJ, 79, .inr (.inl a0_sieved_squared_words)))] sz) := by
  refine Met.ofW (cc := cX8_least) (maxL := 2) (ret := (some .long)) (by decide) rfl ?_
  intro p e s m args below meth c s₁ B hml hv
  obtain ⟨rfl, hsz, hP, hK, hN, hD0⟩ := hv
  have hx := B.exec
  have hb := B.bytes
  have hr := B.returns
  have hts := atoms_spec (ws := wsX8_least) B.pre
  have hown : s.vm.findClass RX8 = some m.cls := findClass_of_methodNamed B.named
  subst hsz
  have hD := hD0.self (sz := s.heap.size)
  generalize hAe : va_A [(h_a0, .inr (7, [w_a0_primes, .ref h_a0_sieved, w_a0_parting, w_a0_primeSums, w_a0_progression, w_a0_rows])), (h_a0_sieved, .inr (6, [.ref q_a0_sieved_leasts, .ref q_a0_sieved_greatests, .ref q_a0_sieved_rests, .ref h_a0_sieved_squared, .long a0_sieved_from, .int a0_sieved_many, .int a0_sieved_primeCount, .int a0_sieved_gap, .int a0_sieved_twins, .int a0_sieved_squareFree])), (q_a0_sieved_leasts, .inl (cJ, 5000, .inr (.inl a0_sieved_leasts))), (q_a0_sieved_greatests, .inl (cJ, 5000, .inr (.inl a0_sieved_greatests))), (q_a0_sieved_rests, .inl (cJ, 5000, .inr (.inl a0_sieved_rests))), (h_a0_sieved_squared, .inr (0, [.ref q_a0_sieved_squared_words])), (q_a0_sieved_squared_words, .inl (cJ, 79, .inr (.inl a0_sieved_squared_words)))] s.heap.size = A at hD ⊢
  have hA : ∀ q : Nat, s.heap.size ≤ q → A q := fun q h => by rw [← hAe]; exact Or.inr h
  have hS : va_S A s.heap s.heap [] := va_S.rf
  have hl := lv_entry ([.ref h_a0, .int p1]) (n := 2) (Nat.le_of_ble_eq_true rfl)
  rw [lg_entry_eq]
  generalize (lg_sl ([.ref h_a0, .int p1]) ++ List.replicate (2 - (lg_sl ([.ref h_a0, .int p1])).length) Slot.unset).toArray = ls at hl ⊢
  have hl : lv_has ls 2 [(0, .ref h_a0), (1, .int p1)] := hl
  have h := hQ
  unfold wp_X8_least_c1 at h
  have hw_0 := hts (.fieldLink RX8 11 "NumberSieves" "sieved" "LNumberSieves$Span;") (by decide +kernel)
  have hin_X8 : ∀ w ∈ wsX80, w ∈ wsX8_least := by decide +kernel
  refine lv_aload_n hx hb dX8_least_0 rfl (lv_at hl 0 rfl) ?_
  refine va_get (D := (dC, dI)) (ci := 7) (v := .ref h_a0_sieved) (C := RX8) (T := TX8) (N := 6) hx hb hts hin_X8 hown hK hP 0 rfl rfl 1 (by decide) hw_0 (fun _ h9 => h9) rfl dX8_least_1 ?_
  refine lv_ifnonnull (tgt := 11) hx hb dX8_least_4 (by decide) ?_
  refine lv_aload_n hx hb dX8_least_11 rfl (lv_at hl 0 rfl) ?_
  refine va_get (D := (dC, dI)) (ci := 7) (v := .ref h_a0_sieved) (C := RX8) (T := TX8) (N := 6) hx hb hts hin_X8 hown hK hP 0 rfl rfl 1 (by decide) hw_0 (fun _ h9 => h9) rfl dX8_least_12 ?_
  refine lv_iload_n hx hb dX8_least_15 rfl (lv_at hl 1 rfl) ?_
  have hPc := hP.sub (ws' := [(h_a0_sieved, .inr (6, [.ref q_a0_sieved_leasts, .ref q_a0_sieved_greatests, .ref q_a0_sieved_rests, .ref h_a0_sieved_squared, .long a0_sieved_from, .int a0_sieved_many, .int a0_sieved_primeCount, .int a0_sieved_gap, .int a0_sieved_twins, .int a0_sieved_squareFree])), (q_a0_sieved_leasts, .inl (cJ, 5000, .inr (.inl a0_sieved_leasts)))]) [1, 2] rfl
  have hDc := hD.sub (ws' := [(h_a0_sieved, .inr (6, [.ref q_a0_sieved_leasts, .ref q_a0_sieved_greatests, .ref q_a0_sieved_rests, .ref h_a0_sieved_squared, .long a0_sieved_from, .int a0_sieved_many, .int a0_sieved_primeCount, .int a0_sieved_gap, .int a0_sieved_twins, .int a0_sieved_squareFree])), (q_a0_sieved_leasts, .inl (cJ, 5000, .inr (.inl a0_sieved_leasts)))]) [1, 2] (by decide) rfl
  have hFc := va_free (wc := [(h_a0_sieved, .inr (6, [.ref q_a0_sieved_leasts, .ref q_a0_sieved_greatests, .ref q_a0_sieved_rests, .ref h_a0_sieved_squared, .long a0_sieved_from, .int a0_sieved_many, .int a0_sieved_primeCount, .int a0_sieved_gap, .int a0_sieved_twins, .int a0_sieved_squareFree])), (q_a0_sieved_leasts, .inl (cJ, 5000, .inr (.inl a0_sieved_leasts)))]) hD hS hA [1, 2] rfl
  refine va_calll (va_runV (As := [.int p1]) (rest := []) ⟨hx, hb, hml, hown, hts⟩ (c_X6_leastOf l dC dI cI cJ cZ _ h_a0_sieved a0_sieved_leasts q_a0_sieved_leasts (.ref q_a0_sieved_greatests) (.ref q_a0_sieved_rests) (.ref h_a0_sieved_squared) a0_sieved_from a0_sieved_many a0_sieved_primeCount a0_sieved_gap a0_sieved_twins a0_sieved_squareFree p1 _ h) (cwV 1 hts gX8_least_X6_leastOf rfl rfl rfl (by decide +kernel) ⟨Nat.le_of_ble_eq_true rfl, Nat.le_of_ble_eq_true rfl⟩) ⟨pre_fb, va_recv hK hPc (ci := 6) (q0 := 0) rfl rfl, pre_of hPc hDc hK hN⟩ rfl rfl hl.1 rfl (lv_room (Nat.le_of_ble_eq_true rfl)) dX8_least_16 ⟨by first | exact Nat.le_of_ble_eq_true rfl | exact Nat.le_refl _, by first | exact Nat.le_of_ble_eq_true rfl | exact Nat.le_refl _⟩) hS (fun q _ h => hFc q h) hFc (fun r_1 u t H1 locs ht hvm h hB hz1 hk1 hS => ?_)
  obtain ⟨hP1, hD1⟩ := hB
  rw [ht] at hP1
  try dsimp only at h
  obtain ⟨hP, hD⟩ := va_join (wr := [(h_a0, .inr (7, [w_a0_primes, .ref h_a0_sieved, w_a0_parting, w_a0_primeSums, w_a0_progression, w_a0_rows])), (q_a0_sieved_greatests, .inl (cJ, 5000, .inr (.inl a0_sieved_greatests))), (q_a0_sieved_rests, .inl (cJ, 5000, .inr (.inl a0_sieved_rests))), (h_a0_sieved_squared, .inr (0, [.ref q_a0_sieved_squared_words])), (q_a0_sieved_squared_words, .inl (cJ, 79, .inr (.inl a0_sieved_squared_words)))]) (w1 := [(h_a0_sieved, .inr (6, [.ref q_a0_sieved_leasts, .ref q_a0_sieved_greatests, .ref q_a0_sieved_rests, .ref h_a0_sieved_squared, .long a0_sieved_from, .int a0_sieved_many, .int a0_sieved_primeCount, .int a0_sieved_gap, .int a0_sieved_twins, .int a0_sieved_squareFree])), (q_a0_sieved_leasts, .inl (cJ, 5000, .inr (.inl a0_sieved_leasts)))]) hP hD [1, 2] [0, 3, 4, 5, 6] rfl rfl (by decide) (by decide) hk1 hFc hP1 hD1
  generalize H1 = H at hP hS ⊢
  have hP : va_P (dC, dI) vwCl [(h_a0, .inr (7, [w_a0_primes, .ref h_a0_sieved, w_a0_parting, w_a0_primeSums, w_a0_progression, w_a0_rows])), (q_a0_sieved_greatests, .inl (cJ, 5000, .inr (.inl a0_sieved_greatests))), (q_a0_sieved_rests, .inl (cJ, 5000, .inr (.inl a0_sieved_rests))), (h_a0_sieved_squared, .inr (0, [.ref q_a0_sieved_squared_words])), (q_a0_sieved_squared_words, .inl (cJ, 79, .inr (.inl a0_sieved_squared_words))), (h_a0_sieved, .inr (6, [.ref q_a0_sieved_leasts, .ref q_a0_sieved_greatests, .ref q_a0_sieved_rests, .ref h_a0_sieved_squared, .long a0_sieved_from, .int a0_sieved_many, .int a0_sieved_primeCount, .int a0_sieved_gap, .int a0_sieved_twins, .int a0_sieved_squareFree])), (q_a0_sieved_leasts, .inl (cJ, 5000, .inr (.inl a0_sieved_leasts)))] H := hP
  have hD : va_D A [(h_a0, .inr (7, [w_a0_primes, .ref h_a0_sieved, w_a0_parting, w_a0_primeSums, w_a0_progression, w_a0_rows])), (q_a0_sieved_greatests, .inl (cJ, 5000, .inr (.inl a0_sieved_greatests))), (q_a0_sieved_rests, .inl (cJ, 5000, .inr (.inl a0_sieved_rests))), (h_a0_sieved_squared, .inr (0, [.ref q_a0_sieved_squared_words])), (q_a0_sieved_squared_words, .inl (cJ, 79, .inr (.inl a0_sieved_squared_words))), (h_a0_sieved, .inr (6, [.ref q_a0_sieved_leasts, .ref q_a0_sieved_greatests, .ref q_a0_sieved_rests, .ref h_a0_sieved_squared, .long a0_sieved_from, .int a0_sieved_many, .int a0_sieved_primeCount, .int a0_sieved_gap, .int a0_sieved_twins, .int a0_sieved_squareFree])), (q_a0_sieved_leasts, .inl (cJ, 5000, .inr (.inl a0_sieved_leasts)))] := hD
  have hP9 := hP.sub (ws' := [(h_a0, .inr (7, [w_a0_primes, .ref h_a0_sieved, w_a0_parting, w_a0_primeSums, w_a0_progression, w_a0_rows])), (h_a0_sieved, .inr (6, [.ref q_a0_sieved_leasts, .ref q_a0_sieved_greatests, .ref q_a0_sieved_rests, .ref h_a0_sieved_squared, .long a0_sieved_from, .int a0_sieved_many, .int a0_sieved_primeCount, .int a0_sieved_gap, .int a0_sieved_twins, .int a0_sieved_squareFree])), (q_a0_sieved_leasts, .inl (cJ, 5000, .inr (.inl a0_sieved_leasts))), (q_a0_sieved_greatests, .inl (cJ, 5000, .inr (.inl a0_sieved_greatests))), (q_a0_sieved_rests, .inl (cJ, 5000, .inr (.inl a0_sieved_rests))), (h_a0_sieved_squared, .inr (0, [.ref q_a0_sieved_squared_words])), (q_a0_sieved_squared_words, .inl (cJ, 79, .inr (.inl a0_sieved_squared_words)))]) [0, 5, 6, 1, 2, 3, 4] rfl
  have hD9 := hD.sub (ws' := [(h_a0, .inr (7, [w_a0_primes, .ref h_a0_sieved, w_a0_parting, w_a0_primeSums, w_a0_progression, w_a0_rows])), (h_a0_sieved, .inr (6, [.ref q_a0_sieved_leasts, .ref q_a0_sieved_greatests, .ref q_a0_sieved_rests, .ref h_a0_sieved_squared, .long a0_sieved_from, .int a0_sieved_many, .int a0_sieved_primeCount, .int a0_sieved_gap, .int a0_sieved_twins, .int a0_sieved_squareFree])), (q_a0_sieved_leasts, .inl (cJ, 5000, .inr (.inl a0_sieved_leasts))), (q_a0_sieved_greatests, .inl (cJ, 5000, .inr (.inl a0_sieved_greatests))), (q_a0_sieved_rests, .inl (cJ, 5000, .inr (.inl a0_sieved_rests))), (h_a0_sieved_squared, .inr (0, [.ref q_a0_sieved_squared_words])), (q_a0_sieved_squared_words, .inl (cJ, 79, .inr (.inl a0_sieved_squared_words)))]) [0, 5, 6, 1, 2, 3, 4] (by decide) rfl
  exact W.lret (v := r_1) hx hb hr (fun t ht hW => ⟨⟨_, (), rfl, h, by rw [ht]; exact hP9, hD9⟩, hS.F ht⟩) hS.2.2 dX8_least_19
def wp_X8_spanned_c0  (p1 : Int32) (Q : Int32 → Prop) : Prop :=
  ((p1 = (4 : Int32) → Q (0 : Int32)) ∧ (¬ p1 = (4 : Int32) → Q (-1 : Int32)))
abbrev rm_X8_spanned_c0 : Room := { frames := 0, cells := 0, slots := 0, locals := 0 }
abbrev qc_X8_spanned_c0 (dC : Nat → ClassId) (dI : Nat → Nat → Nat) (cI cJ cZ : ClassId) (h_a0 : Nat) (w_a0_primes : Value) (w_a0_parting : Value) (w_a0_primeSums : Value) (w_a0_progression : Value) (w_a0_rows : Value) (Q : Int32 → Prop) (A : Nat → Prop) : Array Value → State → Outcome → State → Prop := va_Qi (fun (r : Int32) (_ : Unit) => Q r) (post_ dC dI A (fun (u : Unit) => ([(h_a0, .inr (7, [w_a0_primes, .null, w_a0_parting, w_a0_primeSums, w_a0_progression, w_a0_rows]))] : va_W))) A
set_option maxHeartbeats 4000000 in
set_option maxRecDepth 100000 in
theorem c_X8_spanned_c0 (l : Launch) (dC : Nat → ClassId) (dI : Nat → Nat → Nat) (cI cJ cZ : ClassId) (sz : Nat) (h_a0 : Nat) (w_a0_primes : Value) (w_a0_parting : Value) (w_a0_primeSums : Value) (w_a0_progression : Value) (w_a0_rows : Value) (p1 : Int32) (Q : Int32 → Prop) (hQ : wp_X8_spanned_c0 p1 Q) : Met l yX8_spanned wsX8_spanned rm_X8_spanned_c0 (pre_ dC dI cI cJ cZ [.ref h_a0, .int p1] [(h_a0, .inr (7, [w_a0_primes, .null, w_a0_parting, w_a0_primeSums, w_a0_progression, w_a0_rows]))] sz) (qc_X8_spanned_c0 dC dI cI cJ cZ h_a0 w_a0_primes w_a0_parting w_a0_primeSums w_a0_progression w_a0_rows Q (va_A [(h_a0, .inr (7, [w_a0_primes, .null, w_a0_parting, w_a0_primeSums, w_a0_progression, w_a0_rows]))] sz)) 0 0 (va_A [(h_a0, .inr (7, [w_a0_primes, .null, w_a0_parting, w_a0_primeSums, w_a0_progression, w_a0_rows]))] sz) := by
  refine Met.ofW (cc := cX8_spanned) (maxL := 2) (ret := (some .int)) (by decide) rfl ?_
  intro p e s m args below meth c s₁ B hml hv
  obtain ⟨rfl, hsz, hP, hK, hN, hD0⟩ := hv
  have hx := B.exec
  have hb := B.bytes
  have hr := B.returns
  have hts := atoms_spec (ws := wsX8_spanned) B.pre
  have hown : s.vm.findClass RX8 = some m.cls := findClass_of_methodNamed B.named
  subst hsz
  have hD := hD0.self (sz := s.heap.size)
  generalize hAe : va_A [(h_a0, .inr (7, [w_a0_primes, .null, w_a0_parting, w_a0_primeSums, w_a0_progression, w_a0_rows]))] s.heap.size = A at hD ⊢
  have hA : ∀ q : Nat, s.heap.size ≤ q → A q := fun q h => by rw [← hAe]; exact Or.inr h
  have hS : va_S A s.heap s.heap [] := va_S.rf
  have hl := lv_entry ([.ref h_a0, .int p1]) (n := 2) (Nat.le_of_ble_eq_true rfl)
  rw [lg_entry_eq]
  generalize (lg_sl ([.ref h_a0, .int p1]) ++ List.replicate (2 - (lg_sl ([.ref h_a0, .int p1])).length) Slot.unset).toArray = ls at hl ⊢
  have hl : lv_has ls 2 [(0, .ref h_a0), (1, .int p1)] := hl
  have h := hQ
  unfold wp_X8_spanned_c0 at h
  have hw_0 := hts (.fieldLink RX8 11 "NumberSieves" "sieved" "LNumberSieves$Span;") (by decide +kernel)
  have hin_X8 : ∀ w ∈ wsX80, w ∈ wsX8_spanned := by decide +kernel
  refine lv_aload_n hx hb dX8_spanned_0 rfl (lv_at hl 0 rfl) ?_
  refine va_get (D := (dC, dI)) (ci := 7) (v := .null) (C := RX8) (T := TX8) (N := 6) hx hb hts hin_X8 hown hK hP 0 rfl rfl 1 (by decide) hw_0 (fun _ h9 => h9) rfl dX8_spanned_1 ?_
  refine lv_ifnonnullN hx hb dX8_spanned_4 ?_
  refine lv_iload_n hx hb dX8_spanned_7 rfl (lv_at hl 1 rfl) ?_
  refine lv_iconst (v := (4 : Int32)) hx hb dX8_spanned_8 (by decide) ?_
  refine lv_icmp_ne (tgt := 16) hx hb dX8_spanned_9 (by decide) (fun c_1 => ?_) (fun c_1 => ?_)
  · replace h := h.2 c_1
    refine lv_iconst (v := (-1 : Int32)) hx hb dX8_spanned_16 (by decide) ?_
    have hP9 := hP.sub (ws' := [(h_a0, .inr (7, [w_a0_primes, .null, w_a0_parting, w_a0_primeSums, w_a0_progression, w_a0_rows]))]) [0] rfl
    have hD9 := hD.sub (ws' := [(h_a0, .inr (7, [w_a0_primes, .null, w_a0_parting, w_a0_primeSums, w_a0_progression, w_a0_rows]))]) [0] (by decide) rfl
    exact W.iret (v := (-1 : Int32)) hx hb hr (fun t ht hW => ⟨⟨_, (), rfl, h, by rw [ht]; exact hP9, hD9⟩, hS.F ht⟩) hS.2.2 dX8_spanned_17
  · replace h := h.1 c_1
    refine lv_iconst (v := (0 : Int32)) hx hb dX8_spanned_12 (by decide) ?_
    refine lv_goto (tgt := 17) hx hb dX8_spanned_13 (by decide) ?_
    have hP9 := hP.sub (ws' := [(h_a0, .inr (7, [w_a0_primes, .null, w_a0_parting, w_a0_primeSums, w_a0_progression, w_a0_rows]))]) [0] rfl
    have hD9 := hD.sub (ws' := [(h_a0, .inr (7, [w_a0_primes, .null, w_a0_parting, w_a0_primeSums, w_a0_progression, w_a0_rows]))]) [0] (by decide) rfl
    exact W.iret (v := (0 : Int32)) hx hb hr (fun t ht hW => ⟨⟨_, (), rfl, h, by rw [ht]; exact hP9, hD9⟩, hS.F ht⟩) hS.2.2 dX8_spanned_17
def wp_X8_spanned_c1 (a0_sieved_many : Int32) (a0_sieved_primeCount : Int32) (a0_sieved_gap : Int32) (a0_sieved_twins : Int32) (a0_sieved_squareFree : Int32) (p1 : Int32) (Q : Int32 → Prop) : Prop :=
  ((p1 = (0 : Int32) → Q a0_sieved_primeCount) ∧ (p1 = (1 : Int32) → Q a0_sieved_gap) ∧ (p1 = (2 : Int32) → Q a0_sieved_twins) ∧ (p1 = (3 : Int32) → Q a0_sieved_squareFree) ∧ (p1 = (4 : Int32) → Q a0_sieved_many) ∧ (¬ p1 = (0 : Int32) → ¬ p1 = (1 : Int32) → ¬ p1 = (2 : Int32) → ¬ p1 = (3 : Int32) → ¬ p1 = (4 : Int32) → Q (-1 : Int32)))
abbrev rm_X8_spanned_c1 : Room := { frames := 0, cells := 0, slots := 0, locals := 0 }
abbrev qc_X8_spanned_c1 (dC : Nat → ClassId) (dI : Nat → Nat → Nat) (cI cJ cZ : ClassId) (h_a0 : Nat) (w_a0_primes : Value) (h_a0_sieved : Nat) (a0_sieved_leasts : Nat → Int64) (q_a0_sieved_leasts : Nat) (a0_sieved_greatests : Nat → Int64) (q_a0_sieved_greatests : Nat) (a0_sieved_rests : Nat → Int64) (q_a0_sieved_rests : Nat) (h_a0_sieved_squared : Nat) (a0_sieved_squared_words : Nat → Int64) (q_a0_sieved_squared_words : Nat) (a0_sieved_from : Int64) (a0_sieved_many : Int32) (a0_sieved_primeCount : Int32) (a0_sieved_gap : Int32) (a0_sieved_twins : Int32) (a0_sieved_squareFree : Int32) (w_a0_parting : Value) (w_a0_primeSums : Value) (w_a0_progression : Value) (w_a0_rows : Value) (Q : Int32 → Prop) (A : Nat → Prop) : Array Value → State → Outcome → State → Prop := va_Qi (fun (r : Int32) (_ : Unit) => Q r) (post_ dC dI A (fun (u : Unit) => ([(h_a0, .inr (7, [w_a0_primes, .ref h_a0_sieved, w_a0_parting, w_a0_primeSums, w_a0_progression, w_a0_rows])), (h_a0_sieved, .inr (6, [.ref q_a0_sieved_leasts, .ref q_a0_sieved_greatests, .ref q_a0_sieved_rests, .ref h_a0_sieved_squared, .long a0_sieved_from, .int a0_sieved_many, .int a0_sieved_primeCount, .int a0_sieved_gap, .int a0_sieved_twins, .int a0_sieved_squareFree])), (q_a0_sieved_leasts, .inl (cJ, 5000, .inr (.inl a0_sieved_leasts))), (q_a0_sieved_greatests, .inl (cJ, 5000, .inr (.inl a0_sieved_greatests))), (q_a0_sieved_rests, .inl (cJ, 5000, .inr (.inl a0_sieved_rests))), (h_a0_sieved_squared, .inr (0, [.ref q_a0_sieved_squared_words])), (q_a0_sieved_squared_words, .inl (cJ, 79, .inr (.inl a0_sieved_squared_words)))] : va_W))) A
set_option maxHeartbeats 4000000 in
set_option maxRecDepth 100000 in
theorem c_X8_spanned_c1 (l : Launch) (dC : Nat → ClassId) (dI : Nat → Nat → Nat) (cI cJ cZ : ClassId) (sz : Nat) (h_a0 : Nat) (w_a0_primes : Value) (h_a0_sieved : Nat) (a0_sieved_leasts : Nat → Int64) (q_a0_sieved_leasts : Nat) (a0_sieved_greatests : Nat → Int64) (q_a0_sieved_greatests : Nat) (a0_sieved_rests : Nat → Int64) (q_a0_sieved_rests : Nat) (h_a0_sieved_squared : Nat) (a0_sieved_squared_words : Nat → Int64) (q_a0_sieved_squared_words : Nat) (a0_sieved_from : Int64) (a0_sieved_many : Int32) (a0_sieved_primeCount : Int32) (a0_sieved_gap : Int32) (a0_sieved_twins : Int32) (a0_sieved_squareFree : Int32) (w_a0_parting : Value) (w_a0_primeSums : Value) (w_a0_progression : Value) (w_a0_rows : Value) (p1 : Int32) (Q : Int32 → Prop) (hQ : wp_X8_spanned_c1 a0_sieved_many a0_sieved_primeCount a0_sieved_gap a0_sieved_twins a0_sieved_squareFree p1 Q) : Met l yX8_spanned wsX8_spanned rm_X8_spanned_c1 (pre_ dC dI cI cJ cZ [.ref h_a0, .int p1] [(h_a0, .inr (7, [w_a0_primes, .ref h_a0_sieved, w_a0_parting, w_a0_primeSums, w_a0_progression, w_a0_rows])), (h_a0_sieved, .inr (6, [.ref q_a0_sieved_leasts, .ref q_a0_sieved_greatests, .ref q_a0_sieved_rests, .ref h_a0_sieved_squared, .long a0_sieved_from, .int a0_sieved_many, .int a0_sieved_primeCount, .int a0_sieved_gap, .int a0_sieved_twins, .int a0_sieved_squareFree])), (q_a0_sieved_leasts, .inl (cJ, 5000, .inr (.inl a0_sieved_leasts))), (q_a0_sieved_greatests, .inl (cJ, 5000, .inr (.inl a0_sieved_greatests))), (q_a0_sieved_rests, .inl (cJ, 5000, .inr (.inl a0_sieved_rests))), (h_a0_sieved_squared, .inr (0, [.ref q_a0_sieved_squared_words])), (q_a0_sieved_squared_words, .inl (cJ, 79, .inr (.inl a0_sieved_squared_words)))] sz) (qc_X8_spanned_c1 dC dI cI cJ cZ h_a0 w_a0_primes h_a0_sieved a0_sieved_leasts q_a0_sieved_leasts a0_sieved_greatests q_a0_sieved_greatests a0_sieved_rests q_a0_sieved_rests h_a0_sieved_squared a0_sieved_squared_words q_a0_sieved_squared_words a0_sieved_from a0_sieved_many a0_sieved_primeCount a0_sieved_gap a0_sieved_twins a0_sieved_squareFree w_a0_parting w_a0_primeSums w_a0_progression w_a0_rows Q (va_A [(h_a0, .inr (7, [w_a0_primes, .ref h_a0_sieved, w_a0_parting, w_a0_primeSums, w_a0_progression, w_a0_rows])), (h_a0_sieved, .inr (6, [.ref q_a0_sieved_leasts, .ref q_a0_sieved_greatests, .ref q_a0_sieved_rests, .ref h_a0_sieved_squared, .long a0_sieved_from, .int a0_sieved_many, .int a0_sieved_primeCount, .int a0_sieved_gap, .int a0_sieved_twins, .int a0_sieved_squareFree])), (q_a0_sieved_leasts, .inl (cJ, 5000, .inr (.inl a0_sieved_leasts))), (q_a0_sieved_greatests, .inl (cJ, 5000, .inr (.inl a0_sieved_greatests))), (q_a0_sieved_rests, .inl (cJ, 5000, .inr (.inl a0_sieved_rests))), (h_a0_sieved_squared, .inr (0, [.ref q_a0_sieved_squared_words])), (q_a0_sieved_squared_words, .inl (cJ, 79, .inr (.inl a0_sieved_squared_words)))] sz)) 0 0 (va_A [(h_a0, .inr (7, [w_a0_primes, .ref h_a0_sieved, w_a0_parting, w_a0_primeSums, w_a0_progression, w_a0_rows])), (h_a0_sieved, .inr (6, [.ref q_a0_sieved_leasts, .ref q_a0_sieved_greatests, .ref q_a0_sieved_rests, .ref h_a0_sieved_squared, .long a0_sieved_from, .int a0_sieved_many, .int a0_sieved_primeCount, .int a0_sieved_gap, .int a0_sieved_twins, .int a0_sieved_squareFree])), (q_a0_sieved_leasts, .inl (cJ, 5000, .inr (.inl a0_sieved_leasts))), (q_a0_sieved_greatests, .inl (cJ, 5000, .inr (.inl a0_sieved_greatests))), (q_a0_sieved_rests, .inl (cJ, 5000, .inr (.inl a0_sieved_rests))), (h_a0_sieved_squared, .inr (0, [.ref q_a0_sieved_squared_words])), (q_a0_sieved_squared_words, .inl (cJ, 79, .inr (.inl a0_sieved_squared_words)))] sz) := by
  refine Met.ofW (cc := cX8_spanned) (maxL := 2) (ret := (some .int)) (by decide) rfl ?_
  intro p e s m args below meth c s₁ B hml hv
  obtain ⟨rfl, hsz, hP, hK, hN, hD0⟩ := hv
  have hx := B.exec
  have hb := B.bytes
  have hr := B.returns
  have hts := atoms_spec (ws := wsX8_spanned) B.pre
  have hown : s.vm.findClass RX8 = some m.cls := findClass_of_methodNamed B.named
  subst hsz
  have hD := hD0.self (sz := s.heap.size)
  generalize hAe : va_A [(h_a0, .inr (7, [w_a0_primes, .ref h_a0_sieved, w_a0_parting, w_a0_primeSums, w_a0_progression, w_a0_rows])), (h_a0_sieved, .inr (6, [.ref q_a0_sieved_leasts, .ref q_a0_sieved_greatests, .ref q_a0_sieved_rests, .ref h_a0_sieved_squared, .long a0_sieved_from, .int a0_sieved_many, .int a0_sieved_primeCount, .int a0_sieved_gap, .int a0_sieved_twins, .int a0_sieved_squareFree])), (q_a0_sieved_leasts, .inl (cJ, 5000, .inr (.inl a0_sieved_leasts))), (q_a0_sieved_greatests, .inl (cJ, 5000, .inr (.inl a0_sieved_greatests))), (q_a0_sieved_rests, .inl (cJ, 5000, .inr (.inl a0_sieved_rests))), (h_a0_sieved_squared, .inr (0, [.ref q_a0_sieved_squared_words])), (q_a0_sieved_squared_words, .inl (cJ, 79, .inr (.inl a0_sieved_squared_words)))] s.heap.size = A at hD ⊢
  have hA : ∀ q : Nat, s.heap.size ≤ q → A q := fun q h => by rw [← hAe]; exact Or.inr h
  have hS : va_S A s.heap s.heap [] := va_S.rf
  have hl := lv_entry ([.ref h_a0, .int p1]) (n := 2) (Nat.le_of_ble_eq_true rfl)
  rw [lg_entry_eq]
  generalize (lg_sl ([.ref h_a0, .int p1]) ++ List.replicate (2 - (lg_sl ([.ref h_a0, .int p1])).length) Slot.unset).toArray = ls at hl ⊢
  have hl : lv_has ls 2 [(0, .ref h_a0), (1, .int p1)] := hl
  have h := hQ
  unfold wp_X8_spanned_c1 at h
  have hw_0 := hts (.fieldLink RX8 11 "NumberSieves" "sieved" "LNumberSieves$Span;") (by decide +kernel)
  have hin_X8 : ∀ w ∈ wsX80, w ∈ wsX8_spanned := by decide +kernel
  have hin_X6 : ∀ w ∈ wsX60, w ∈ wsX8_spanned := by decide +kernel
  refine lv_aload_n hx hb dX8_spanned_0 rfl (lv_at hl 0 rfl) ?_
  refine va_get (D := (dC, dI)) (ci := 7) (v := .ref h_a0_sieved) (C := RX8) (T := TX8) (N := 6) hx hb hts hin_X8 hown hK hP 0 rfl rfl 1 (by decide) hw_0 (fun _ h9 => h9) rfl dX8_spanned_1 ?_
  refine lv_ifnonnull (tgt := 18) hx hb dX8_spanned_4 (by decide) ?_
  refine lv_iload_n hx hb dX8_spanned_18 rfl (lv_at hl 1 rfl) ?_
  by_cases c_1 : p1 = (0 : Int32)
  · refine lv_tableIn (off := 33) (tgt := 52) hx hb dX8_spanned_19 (by rw [c_1]; decide) (by rw [c_1]; decide) (by rw [c_1]; rfl) (by decide) ?_
    replace h := h.1 c_1
    refine lv_aload_n hx hb dX8_spanned_52 rfl (lv_at hl 0 rfl) ?_
    refine va_get (D := (dC, dI)) (ci := 7) (v := .ref h_a0_sieved) (C := RX8) (T := TX8) (N := 6) hx hb hts hin_X8 hown hK hP 0 rfl rfl 1 (by decide) hw_0 (fun _ h9 => h9) rfl dX8_spanned_53 ?_
    refine va_getN (D := (dC, dI)) (ci := 6) (v := .int a0_sieved_primeCount) (C := RX6) (T := TX6) (N := 10) hx hb hts hin_X6 hown hK hP 1 rfl rfl 6 (by decide) (nw_1 hN) (fun _ h9 => h9) rfl dX8_spanned_56 ?_
    have hP9 := hP.sub (ws' := [(h_a0, .inr (7, [w_a0_primes, .ref h_a0_sieved, w_a0_parting, w_a0_primeSums, w_a0_progression, w_a0_rows])), (h_a0_sieved, .inr (6, [.ref q_a0_sieved_leasts, .ref q_a0_sieved_greatests, .ref q_a0_sieved_rests, .ref h_a0_sieved_squared, .long a0_sieved_from, .int a0_sieved_many, .int a0_sieved_primeCount, .int a0_sieved_gap, .int a0_sieved_twins, .int a0_sieved_squareFree])), (q_a0_sieved_leasts, .inl (cJ, 5000, .inr (.inl a0_sieved_leasts))), (q_a0_sieved_greatests, .inl (cJ, 5000, .inr (.inl a0_sieved_greatests))), (q_a0_sieved_rests, .inl (cJ, 5000, .inr (.inl a0_sieved_rests))), (h_a0_sieved_squared, .inr (0, [.ref q_a0_sieved_squared_words])), (q_a0_sieved_squared_words, .inl (cJ, 79, .inr (.inl a0_sieved_squared_words)))]) [0, 1, 2, 3, 4, 5, 6] rfl
    have hD9 := hD.sub (ws' := [(h_a0, .inr (7, [w_a0_primes, .ref h_a0_sieved, w_a0_parting, w_a0_primeSums, w_a0_progression, w_a0_rows])), (h_a0_sieved, .inr (6, [.ref q_a0_sieved_leasts, .ref q_a0_sieved_greatests, .ref q_a0_sieved_rests, .ref h_a0_sieved_squared, .long a0_sieved_from, .int a0_sieved_many, .int a0_sieved_primeCount, .int a0_sieved_gap, .int a0_sieved_twins, .int a0_sieved_squareFree])), (q_a0_sieved_leasts, .inl (cJ, 5000, .inr (.inl a0_sieved_leasts))), (q_a0_sieved_greatests, .inl (cJ, 5000, .inr (.inl a0_sieved_greatests))), (q_a0_sieved_rests, .inl (cJ, 5000, .inr (.inl a0_sieved_rests))), (h_a0_sieved_squared, .inr (0, [.ref q_a0_sieved_squared_words])), (q_a0_sieved_squared_words, .inl (cJ, 79, .inr (.inl a0_sieved_squared_words)))]) [0, 1, 2, 3, 4, 5, 6] (by decide) rfl
    exact W.iret (v := a0_sieved_primeCount) hx hb hr (fun t ht hW => ⟨⟨_, (), rfl, h, by rw [ht]; exact hP9, hD9⟩, hS.F ht⟩) hS.2.2 dX8_spanned_59
  by_cases c_2 : p1 = (1 : Int32)
  · refine lv_tableIn (off := 41) (tgt := 60) hx hb dX8_spanned_19 (by rw [c_2]; decide) (by rw [c_2]; decide) (by rw [c_2]; rfl) (by decide) ?_
    replace h := h.2.1 c_2
    refine lv_aload_n hx hb dX8_spanned_60 rfl (lv_at hl 0 rfl) ?_
    refine va_get (D := (dC, dI)) (ci := 7) (v := .ref h_a0_sieved) (C := RX8) (T := TX8) (N := 6) hx hb hts hin_X8 hown hK hP 0 rfl rfl 1 (by decide) hw_0 (fun _ h9 => h9) rfl dX8_spanned_61 ?_
    refine va_getN (D := (dC, dI)) (ci := 6) (v := .int a0_sieved_gap) (C := RX6) (T := TX6) (N := 10) hx hb hts hin_X6 hown hK hP 1 rfl rfl 7 (by decide) (nw_2 hN) (fun _ h9 => h9) rfl dX8_spanned_64 ?_
    have hP9 := hP.sub (ws' := [(h_a0, .inr (7, [w_a0_primes, .ref h_a0_sieved, w_a0_parting, w_a0_primeSums, w_a0_progression, w_a0_rows])), (h_a0_sieved, .inr (6, [.ref q_a0_sieved_leasts, .ref q_a0_sieved_greatests, .ref q_a0_sieved_rests, .ref h_a0_sieved_squared, .long a0_sieved_from, .int a0_sieved_many, .int a0_sieved_primeCount, .int a0_sieved_gap, .int a0_sieved_twins, .int a0_sieved_squareFree])), (q_a0_sieved_leasts, .inl (cJ, 5000, .inr (.inl a0_sieved_leasts))), (q_a0_sieved_greatests, .inl (cJ, 5000, .inr (.inl a0_sieved_greatests))), (q_a0_sieved_rests, .inl (cJ, 5000, .inr (.inl a0_sieved_rests))), (h_a0_sieved_squared, .inr (0, [.ref q_a0_sieved_squared_words])), (q_a0_sieved_squared_words, .inl (cJ, 79, .inr (.inl a0_sieved_squared_words)))]) [0, 1, 2, 3, 4, 5, 6] rfl
    have hD9 := hD.sub (ws' := [(h_a0, .inr (7, [w_a0_primes, .ref h_a0_sieved, w_a0_parting, w_a0_primeSums, w_a0_progression, w_a0_rows])), (h_a0_sieved, .inr (6, [.ref q_a0_sieved_leasts, .ref q_a0_sieved_greatests, .ref q_a0_sieved_rests, .ref h_a0_sieved_squared, .long a0_sieved_from, .int a0_sieved_many, .int a0_sieved_primeCount, .int a0_sieved_gap, .int a0_sieved_twins, .int a0_sieved_squareFree])), (q_a0_sieved_leasts, .inl (cJ, 5000, .inr (.inl a0_sieved_leasts))), (q_a0_sieved_greatests, .inl (cJ, 5000, .inr (.inl a0_sieved_greatests))), (q_a0_sieved_rests, .inl (cJ, 5000, .inr (.inl a0_sieved_rests))), (h_a0_sieved_squared, .inr (0, [.ref q_a0_sieved_squared_words])), (q_a0_sieved_squared_words, .inl (cJ, 79, .inr (.inl a0_sieved_squared_words)))]) [0, 1, 2, 3, 4, 5, 6] (by decide) rfl
    exact W.iret (v := a0_sieved_gap) hx hb hr (fun t ht hW => ⟨⟨_, (), rfl, h, by rw [ht]; exact hP9, hD9⟩, hS.F ht⟩) hS.2.2 dX8_spanned_67
  by_cases c_3 : p1 = (2 : Int32)
  · refine lv_tableIn (off := 49) (tgt := 68) hx hb dX8_spanned_19 (by rw [c_3]; decide) (by rw [c_3]; decide) (by rw [c_3]; rfl) (by decide) ?_
    replace h := h.2.2.1 c_3
    refine lv_aload_n hx hb dX8_spanned_68 rfl (lv_at hl 0 rfl) ?_
    refine va_get (D := (dC, dI)) (ci := 7) (v := .ref h_a0_sieved) (C := RX8) (T := TX8) (N := 6) hx hb hts hin_X8 hown hK hP 0 rfl rfl 1 (by decide) hw_0 (fun _ h9 => h9) rfl dX8_spanned_69 ?_
    refine va_getN (D := (dC, dI)) (ci := 6) (v := .int a0_sieved_twins) (C := RX6) (T := TX6) (N := 10) hx hb hts hin_X6 hown hK hP 1 rfl rfl 8 (by decide) (nw_3 hN) (fun _ h9 => h9) rfl dX8_spanned_72 ?_
    have hP9 := hP.sub (ws' := [(h_a0, .inr (7, [w_a0_primes, .ref h_a0_sieved, w_a0_parting, w_a0_primeSums, w_a0_progression, w_a0_rows])), (h_a0_sieved, .inr (6, [.ref q_a0_sieved_leasts, .ref q_a0_sieved_greatests, .ref q_a0_sieved_rests, .ref h_a0_sieved_squared, .long a0_sieved_from, .int a0_sieved_many, .int a0_sieved_primeCount, .int a0_sieved_gap, .int a0_sieved_twins, .int a0_sieved_squareFree])), (q_a0_sieved_leasts, .inl (cJ, 5000, .inr (.inl a0_sieved_leasts))), (q_a0_sieved_greatests, .inl (cJ, 5000, .inr (.inl a0_sieved_greatests))), (q_a0_sieved_rests, .inl (cJ, 5000, .inr (.inl a0_sieved_rests))), (h_a0_sieved_squared, .inr (0, [.ref q_a0_sieved_squared_words])), (q_a0_sieved_squared_words, .inl (cJ, 79, .inr (.inl a0_sieved_squared_words)))]) [0, 1, 2, 3, 4, 5, 6] rfl
    have hD9 := hD.sub (ws' := [(h_a0, .inr (7, [w_a0_primes, .ref h_a0_sieved, w_a0_parting, w_a0_primeSums, w_a0_progression, w_a0_rows])), (h_a0_sieved, .inr (6, [.ref q_a0_sieved_leasts, .ref q_a0_sieved_greatests, .ref q_a0_sieved_rests, .ref h_a0_sieved_squared, .long a0_sieved_from, .int a0_sieved_many, .int a0_sieved_primeCount, .int a0_sieved_gap, .int a0_sieved_twins, .int a0_sieved_squareFree])), (q_a0_sieved_leasts, .inl (cJ, 5000, .inr (.inl a0_sieved_leasts))), (q_a0_sieved_greatests, .inl (cJ, 5000, .inr (.inl a0_sieved_greatests))), (q_a0_sieved_rests, .inl (cJ, 5000, .inr (.inl a0_sieved_rests))), (h_a0_sieved_squared, .inr (0, [.ref q_a0_sieved_squared_words])), (q_a0_sieved_squared_words, .inl (cJ, 79, .inr (.inl a0_sieved_squared_words)))]) [0, 1, 2, 3, 4, 5, 6] (by decide) rfl
    exact W.iret (v := a0_sieved_twins) hx hb hr (fun t ht hW => ⟨⟨_, (), rfl, h, by rw [ht]; exact hP9, hD9⟩, hS.F ht⟩) hS.2.2 dX8_spanned_75
  by_cases c_4 : p1 = (3 : Int32)
  · refine lv_tableIn (off := 57) (tgt := 76) hx hb dX8_spanned_19 (by rw [c_4]; decide) (by rw [c_4]; decide) (by rw [c_4]; rfl) (by decide) ?_
    replace h := h.2.2.2.1 c_4
    refine lv_aload_n hx hb dX8_spanned_76 rfl (lv_at hl 0 rfl) ?_
    refine va_get (D := (dC, dI)) (ci := 7) (v := .ref h_a0_sieved) (C := RX8) (T := TX8) (N := 6) hx hb hts hin_X8 hown hK hP 0 rfl rfl 1 (by decide) hw_0 (fun _ h9 => h9) rfl dX8_spanned_77 ?_
    refine va_getN (D := (dC, dI)) (ci := 6) (v := .int a0_sieved_squareFree) (C := RX6) (T := TX6) (N := 10) hx hb hts hin_X6 hown hK hP 1 rfl rfl 9 (by decide) (nw_4 hN) (fun _ h9 => h9) rfl dX8_spanned_80 ?_
    have hP9 := hP.sub (ws' := [(h_a0, .inr (7, [w_a0_primes, .ref h_a0_sieved, w_a0_parting, w_a0_primeSums, w_a0_progression, w_a0_rows])), (h_a0_sieved, .inr (6, [.ref q_a0_sieved_leasts, .ref q_a0_sieved_greatests, .ref q_a0_sieved_rests, .ref h_a0_sieved_squared, .long a0_sieved_from, .int a0_sieved_many, .int a0_sieved_primeCount, .int a0_sieved_gap, .int a0_sieved_twins, .int a0_sieved_squareFree])), (q_a0_sieved_leasts, .inl (cJ, 5000, .inr (.inl a0_sieved_leasts))), (q_a0_sieved_greatests, .inl (cJ, 5000, .inr (.inl a0_sieved_greatests))), (q_a0_sieved_rests, .inl (cJ, 5000, .inr (.inl a0_sieved_rests))), (h_a0_sieved_squared, .inr (0, [.ref q_a0_sieved_squared_words])), (q_a0_sieved_squared_words, .inl (cJ, 79, .inr (.inl a0_sieved_squared_words)))]) [0, 1, 2, 3, 4, 5, 6] rfl
    have hD9 := hD.sub (ws' := [(h_a0, .inr (7, [w_a0_primes, .ref h_a0_sieved, w_a0_parting, w_a0_primeSums, w_a0_progression, w_a0_rows])), (h_a0_sieved, .inr (6, [.ref q_a0_sieved_leasts, .ref q_a0_sieved_greatests, .ref q_a0_sieved_rests, .ref h_a0_sieved_squared, .long a0_sieved_from, .int a0_sieved_many, .int a0_sieved_primeCount, .int a0_sieved_gap, .int a0_sieved_twins, .int a0_sieved_squareFree])), (q_a0_sieved_leasts, .inl (cJ, 5000, .inr (.inl a0_sieved_leasts))), (q_a0_sieved_greatests, .inl (cJ, 5000, .inr (.inl a0_sieved_greatests))), (q_a0_sieved_rests, .inl (cJ, 5000, .inr (.inl a0_sieved_rests))), (h_a0_sieved_squared, .inr (0, [.ref q_a0_sieved_squared_words])), (q_a0_sieved_squared_words, .inl (cJ, 79, .inr (.inl a0_sieved_squared_words)))]) [0, 1, 2, 3, 4, 5, 6] (by decide) rfl
    exact W.iret (v := a0_sieved_squareFree) hx hb hr (fun t ht hW => ⟨⟨_, (), rfl, h, by rw [ht]; exact hP9, hD9⟩, hS.F ht⟩) hS.2.2 dX8_spanned_83
  by_cases c_5 : p1 = (4 : Int32)
  · refine lv_tableIn (off := 65) (tgt := 84) hx hb dX8_spanned_19 (by rw [c_5]; decide) (by rw [c_5]; decide) (by rw [c_5]; rfl) (by decide) ?_
    replace h := h.2.2.2.2.1 c_5
    refine lv_aload_n hx hb dX8_spanned_84 rfl (lv_at hl 0 rfl) ?_
    refine va_get (D := (dC, dI)) (ci := 7) (v := .ref h_a0_sieved) (C := RX8) (T := TX8) (N := 6) hx hb hts hin_X8 hown hK hP 0 rfl rfl 1 (by decide) hw_0 (fun _ h9 => h9) rfl dX8_spanned_85 ?_
    refine va_getN (D := (dC, dI)) (ci := 6) (v := .int a0_sieved_many) (C := RX6) (T := TX6) (N := 10) hx hb hts hin_X6 hown hK hP 1 rfl rfl 5 (by decide) (nw_0 hN) (fun _ h9 => h9) rfl dX8_spanned_88 ?_
    have hP9 := hP.sub (ws' := [(h_a0, .inr (7, [w_a0_primes, .ref h_a0_sieved, w_a0_parting, w_a0_primeSums, w_a0_progression, w_a0_rows])), (h_a0_sieved, .inr (6, [.ref q_a0_sieved_leasts, .ref q_a0_sieved_greatests, .ref q_a0_sieved_rests, .ref h_a0_sieved_squared, .long a0_sieved_from, .int a0_sieved_many, .int a0_sieved_primeCount, .int a0_sieved_gap, .int a0_sieved_twins, .int a0_sieved_squareFree])), (q_a0_sieved_leasts, .inl (cJ, 5000, .inr (.inl a0_sieved_leasts))), (q_a0_sieved_greatests, .inl (cJ, 5000, .inr (.inl a0_sieved_greatests))), (q_a0_sieved_rests, .inl (cJ, 5000, .inr (.inl a0_sieved_rests))), (h_a0_sieved_squared, .inr (0, [.ref q_a0_sieved_squared_words])), (q_a0_sieved_squared_words, .inl (cJ, 79, .inr (.inl a0_sieved_squared_words)))]) [0, 1, 2, 3, 4, 5, 6] rfl
    have hD9 := hD.sub (ws' := [(h_a0, .inr (7, [w_a0_primes, .ref h_a0_sieved, w_a0_parting, w_a0_primeSums, w_a0_progression, w_a0_rows])), (h_a0_sieved, .inr (6, [.ref q_a0_sieved_leasts, .ref q_a0_sieved_greatests, .ref q_a0_sieved_rests, .ref h_a0_sieved_squared, .long a0_sieved_from, .int a0_sieved_many, .int a0_sieved_primeCount, .int a0_sieved_gap, .int a0_sieved_twins, .int a0_sieved_squareFree])), (q_a0_sieved_leasts, .inl (cJ, 5000, .inr (.inl a0_sieved_leasts))), (q_a0_sieved_greatests, .inl (cJ, 5000, .inr (.inl a0_sieved_greatests))), (q_a0_sieved_rests, .inl (cJ, 5000, .inr (.inl a0_sieved_rests))), (h_a0_sieved_squared, .inr (0, [.ref q_a0_sieved_squared_words])), (q_a0_sieved_squared_words, .inl (cJ, 79, .inr (.inl a0_sieved_squared_words)))]) [0, 1, 2, 3, 4, 5, 6] (by decide) rfl
    exact W.iret (v := a0_sieved_many) hx hb hr (fun t ht hW => ⟨⟨_, (), rfl, h, by rw [ht]; exact hP9, hD9⟩, hS.F ht⟩) hS.2.2 dX8_spanned_91
  have t0 : p1.toInt ≠ 0 := fun q => c_1 (Int32.toInt_inj.mp (q.trans (by decide)))
  have t1 : p1.toInt ≠ 1 := fun q => c_2 (Int32.toInt_inj.mp (q.trans (by decide)))
  have t2 : p1.toInt ≠ 2 := fun q => c_3 (Int32.toInt_inj.mp (q.trans (by decide)))
  have t3 : p1.toInt ≠ 3 := fun q => c_4 (Int32.toInt_inj.mp (q.trans (by decide)))
  have t4 : p1.toInt ≠ 4 := fun q => c_5 (Int32.toInt_inj.mp (q.trans (by decide)))
  refine lv_tableOut (tgt := 92) hx hb dX8_spanned_19 (by omega) (by decide) ?_
  replace h := h.2.2.2.2.2 c_1 c_2 c_3 c_4 c_5
  refine lv_iconst (v := (-1 : Int32)) hx hb dX8_spanned_92 (by decide) ?_
  have hP9 := hP.sub (ws' := [(h_a0, .inr (7, [w_a0_primes, .ref h_a0_sieved, w_a0_parting, w_a0_primeSums, w_a0_progression, w_a0_rows])), (h_a0_sieved, .inr (6, [.ref q_a0_sieved_leasts, .ref q_a0_sieved_greatests, .ref q_a0_sieved_rests, .ref h_a0_sieved_squared, .long a0_sieved_from, .int a0_sieved_many, .int a0_sieved_primeCount, .int a0_sieved_gap, .int a0_sieved_twins, .int a0_sieved_squareFree])), (q_a0_sieved_leasts, .inl (cJ, 5000, .inr (.inl a0_sieved_leasts))), (q_a0_sieved_greatests, .inl (cJ, 5000, .inr (.inl a0_sieved_greatests))), (q_a0_sieved_rests, .inl (cJ, 5000, .inr (.inl a0_sieved_rests))), (h_a0_sieved_squared, .inr (0, [.ref q_a0_sieved_squared_words])), (q_a0_sieved_squared_words, .inl (cJ, 79, .inr (.inl a0_sieved_squared_words)))]) [0, 1, 2, 3, 4, 5, 6] rfl
  have hD9 := hD.sub (ws' := [(h_a0, .inr (7, [w_a0_primes, .ref h_a0_sieved, w_a0_parting, w_a0_primeSums, w_a0_progression, w_a0_rows])), (h_a0_sieved, .inr (6, [.ref q_a0_sieved_leasts, .ref q_a0_sieved_greatests, .ref q_a0_sieved_rests, .ref h_a0_sieved_squared, .long a0_sieved_from, .int a0_sieved_many, .int a0_sieved_primeCount, .int a0_sieved_gap, .int a0_sieved_twins, .int a0_sieved_squareFree])), (q_a0_sieved_leasts, .inl (cJ, 5000, .inr (.inl a0_sieved_leasts))), (q_a0_sieved_greatests, .inl (cJ, 5000, .inr (.inl a0_sieved_greatests))), (q_a0_sieved_rests, .inl (cJ, 5000, .inr (.inl a0_sieved_rests))), (h_a0_sieved_squared, .inr (0, [.ref q_a0_sieved_squared_words])), (q_a0_sieved_squared_words, .inl (cJ, 79, .inr (.inl a0_sieved_squared_words)))]) [0, 1, 2, 3, 4, 5, 6] (by decide) rfl
  exact W.iret (v := (-1 : Int32)) hx hb hr (fun t ht hW => ⟨⟨_, (), rfl, h, by rw [ht]; exact hP9, hD9⟩, hS.F ht⟩) hS.2.2 dX8_spanned_93
def wp_X8_smooth_c0  (p1 : Int64) (p2 : Int32) (Q : Int32 → Prop) : Prop :=
  Q (-1 : Int32)
abbrev rm_X8_smooth_c0 : Room := { frames := 1, cells := 0, slots := 0, locals := 24 }
abbrev qc_X8_smooth_c0 (dC : Nat → ClassId) (dI : Nat → Nat → Nat) (cI cJ cZ : ClassId) (h_a0 : Nat) (w_a0_primes : Value) (w_a0_parting : Value) (w_a0_primeSums : Value) (w_a0_progression : Value) (w_a0_rows : Value) (Q : Int32 → Prop) (A : Nat → Prop) : Array Value → State → Outcome → State → Prop := va_Qi (fun (r : Int32) (_ : Unit) => Q r) (post_ dC dI A (fun (u : Unit) => ([(h_a0, .inr (7, [w_a0_primes, .null, w_a0_parting, w_a0_primeSums, w_a0_progression, w_a0_rows]))] : va_W))) A
set_option maxHeartbeats 4000000 in
set_option maxRecDepth 100000 in
theorem c_X8_smooth_c0 (l : Launch) (dC : Nat → ClassId) (dI : Nat → Nat → Nat) (cI cJ cZ : ClassId) (sz : Nat) (h_a0 : Nat) (w_a0_primes : Value) (w_a0_parting : Value) (w_a0_primeSums : Value) (w_a0_progression : Value) (w_a0_rows : Value) (p1 : Int64) (p2 : Int32) (Q : Int32 → Prop) (hQ : wp_X8_smooth_c0 p1 p2 Q) : Met l yX8_smooth wsX8_smooth rm_X8_smooth_c0 (pre_ dC dI cI cJ cZ [.ref h_a0, .long p1, .int p2] [(h_a0, .inr (7, [w_a0_primes, .null, w_a0_parting, w_a0_primeSums, w_a0_progression, w_a0_rows]))] sz) (qc_X8_smooth_c0 dC dI cI cJ cZ h_a0 w_a0_primes w_a0_parting w_a0_primeSums w_a0_progression w_a0_rows Q (va_A [(h_a0, .inr (7, [w_a0_primes, .null, w_a0_parting, w_a0_primeSums, w_a0_progression, w_a0_rows]))] sz)) 0 0 (va_A [(h_a0, .inr (7, [w_a0_primes, .null, w_a0_parting, w_a0_primeSums, w_a0_progression, w_a0_rows]))] sz) := by
  refine Met.ofW (cc := cX8_smooth) (maxL := 4) (ret := (some .int)) (by decide) rfl ?_
  intro p e s m args below meth c s₁ B hml hv
  obtain ⟨rfl, hsz, hP, hK, hN, hD0⟩ := hv
  have hx := B.exec
  have hb := B.bytes
  have hr := B.returns
  have hts := atoms_spec (ws := wsX8_smooth) B.pre
  have hown : s.vm.findClass RX8 = some m.cls := findClass_of_methodNamed B.named
  subst hsz
  have hD := hD0.self (sz := s.heap.size)
  generalize hAe : va_A [(h_a0, .inr (7, [w_a0_primes, .null, w_a0_parting, w_a0_primeSums, w_a0_progression, w_a0_rows]))] s.heap.size = A at hD ⊢
  have hA : ∀ q : Nat, s.heap.size ≤ q → A q := fun q h => by rw [← hAe]; exact Or.inr h
  have hS : va_S A s.heap s.heap [] := va_S.rf
  have hl := lv_entry ([.ref h_a0, .long p1, .int p2]) (n := 4) (Nat.le_of_ble_eq_true rfl)
  rw [lg_entry_eq]
  generalize (lg_sl ([.ref h_a0, .long p1, .int p2]) ++ List.replicate (4 - (lg_sl ([.ref h_a0, .long p1, .int p2])).length) Slot.unset).toArray = ls at hl ⊢
  have hl : lv_has ls 4 [(0, .ref h_a0), (1, .long p1), (3, .int p2)] := hl
  have h := hQ
  unfold wp_X8_smooth_c0 at h
  have hw_0 := hts (.fieldLink RX8 11 "NumberSieves" "sieved" "LNumberSieves$Span;") (by decide +kernel)
  have hin_X8 : ∀ w ∈ wsX80, w ∈ wsX8_smooth := by decide +kernel
  refine lv_aload_n hx hb dX8_smooth_0 rfl (lv_at hl 0 rfl) ?_
  refine va_get (D := (dC, dI)) (ci := 7) (v := .null) (C := RX8) (T := TX8) (N := 6) hx hb hts hin_X8 hown hK hP 0 rfl rfl 1 (by decide) hw_0 (fun _ h9 => h9) rfl dX8_smooth_1 ?_
  refine lv_ifnullN (tgt := 14) hx hb dX8_smooth_4 (by decide) ?_
  refine lv_iconst (v := (-1 : Int32)) hx hb dX8_smooth_14 (by decide) ?_
  have hP9 := hP.sub (ws' := [(h_a0, .inr (7, [w_a0_primes, .null, w_a0_parting, w_a0_primeSums, w_a0_progression, w_a0_rows]))]) [0] rfl
  have hD9 := hD.sub (ws' := [(h_a0, .inr (7, [w_a0_primes, .null, w_a0_parting, w_a0_primeSums, w_a0_progression, w_a0_rows]))]) [0] (by decide) rfl
  exact W.iret (v := (-1 : Int32)) hx hb hr (fun t ht hW => ⟨⟨_, (), rfl, h, by rw [ht]; exact hP9, hD9⟩, hS.F ht⟩) hS.2.2 dX8_smooth_15
def wp_X8_smooth_c1 (a0_sieved_leasts : Nat → Int64) (a0_sieved_greatests : Nat → Int64) (a0_sieved_from : Int64) (a0_sieved_many : Int32) (p1 : Int64) (p2 : Int32) (Q : Int32 → Prop) : Prop :=
  wp_X8_isInRange p1 (fun r_1 => ((r_1 = (0 : Int32) → Q (-1 : Int32)) ∧ (¬ r_1 = (0 : Int32) → ((p2 = (0 : Int32) → wp_X6_smoothBy a0_sieved_greatests a0_sieved_many p1 (fun r_4 => Q r_4)) ∧ (¬ p2 = (0 : Int32) → wp_X6_roughBy a0_sieved_leasts a0_sieved_from a0_sieved_many p1 (fun r_5 => Q r_5))))))
abbrev rm_X8_smooth_c1 : Room := { frames := 1, cells := 0, slots := 0, locals := 24 }
abbrev qc_X8_smooth_c1 (dC : Nat → ClassId) (dI : Nat → Nat → Nat) (cI cJ cZ : ClassId) (h_a0 : Nat) (w_a0_primes : Value) (h_a0_sieved : Nat) (a0_sieved_leasts : Nat → Int64) (q_a0_sieved_leasts : Nat) (a0_sieved_greatests : Nat → Int64) (q_a0_sieved_greatests : Nat) (a0_sieved_rests : Nat → Int64) (q_a0_sieved_rests : Nat) (h_a0_sieved_squared : Nat) (a0_sieved_squared_words : Nat → Int64) (q_a0_sieved_squared_words : Nat) (a0_sieved_from : Int64) (a0_sieved_many : Int32) (a0_sieved_primeCount : Int32) (a0_sieved_gap : Int32) (a0_sieved_twins : Int32) (a0_sieved_squareFree : Int32) (w_a0_parting : Value) (w_a0_primeSums : Value) (w_a0_progression : Value) (w_a0_rows : Value) (Q : Int32 → Prop) (A : Nat → Prop) : Array Value → State → Outcome → State → Prop := va_Qi (fun (r : Int32) (_ : Unit) => Q r) (post_ dC dI A (fun (u : Unit) => ([(h_a0, .inr (7, [w_a0_primes, .ref h_a0_sieved, w_a0_parting, w_a0_primeSums, w_a0_progression, w_a0_rows])), (h_a0_sieved, .inr (6, [.ref q_a0_sieved_leasts, .ref q_a0_sieved_greatests, .ref q_a0_sieved_rests, .ref h_a0_sieved_squared, .long a0_sieved_from, .int a0_sieved_many, .int a0_sieved_primeCount, .int a0_sieved_gap, .int a0_sieved_twins, .int a0_sieved_squareFree])), (q_a0_sieved_leasts, .inl (cJ, 5000, .inr (.inl a0_sieved_leasts))), (q_a0_sieved_greatests, .inl (cJ, 5000, .inr (.inl a0_sieved_greatests))), (q_a0_sieved_rests, .inl (cJ, 5000, .inr (.inl a0_sieved_rests))), (h_a0_sieved_squared, .inr (0, [.ref q_a0_sieved_squared_words])), (q_a0_sieved_squared_words, .inl (cJ, 79, .inr (.inl a0_sieved_squared_words)))] : va_W))) A
set_option maxHeartbeats 4000000 in
set_option maxRecDepth 100000 in
theorem c_X8_smooth_c1 (l : Launch) (dC : Nat → ClassId) (dI : Nat → Nat → Nat) (cI cJ cZ : ClassId) (sz : Nat) (h_a0 : Nat) (w_a0_primes : Value) (h_a0_sieved : Nat) (a0_sieved_leasts : Nat → Int64) (q_a0_sieved_leasts : Nat) (a0_sieved_greatests : Nat → Int64) (q_a0_sieved_greatests : Nat) (a0_sieved_rests : Nat → Int64) (q_a0_sieved_rests : Nat) (h_a0_sieved_squared : Nat) (a0_sieved_squared_words : Nat → Int64) (q_a0_sieved_squared_words : Nat) (a0_sieved_from : Int64) (a0_sieved_many : Int32) (a0_sieved_primeCount : Int32) (a0_sieved_gap : Int32) (a0_sieved_twins : Int32) (a0_sieved_squareFree : Int32) (w_a0_parting : Value) (w_a0_primeSums : Value) (w_a0_progression : Value) (w_a0_rows : Value) (p1 : Int64) (p2 : Int32) (Q : Int32 → Prop) (hQ : wp_X8_smooth_c1 a0_sieved_leasts a0_sieved_greatests a0_sieved_from a0_sieved_many p1 p2 Q) : Met l yX8_smooth wsX8_smooth rm_X8_smooth_c1 (pre_ dC dI cI cJ cZ [.ref h_a0, .long p1, .int p2] [(h_a0, .inr (7, [w_a0_primes, .ref h_a0_sieved, w_a0_parting, w_a0_primeSums, w_a0_progression, w_a0_rows])), (h_a0_sieved, .inr (6, [.ref q_a0_sieved_leasts, .ref q_a0_sieved_greatests, .ref q_a0_sieved_rests, .ref h_a0_sieved_squared, .long a0_sieved_from, .int a0_sieved_many, .int a0_sieved_primeCount, .int a0_sieved_gap, .int a0_sieved_twins, .int a0_sieved_squareFree])), (q_a0_sieved_leasts, .inl (cJ, 5000, .inr (.inl a0_sieved_leasts))), (q_a0_sieved_greatests, .inl (cJ, 5000, .inr (.inl a0_sieved_greatests))), (q_a0_sieved_rests, .inl (cJ, 5000, .inr (.inl a0_sieved_rests))), (h_a0_sieved_squared, .inr (0, [.ref q_a0_sieved_squared_words])), (q_a0_sieved_squared_words, .inl (cJ, 79, .inr (.inl a0_sieved_squared_words)))] sz) (qc_X8_smooth_c1 dC dI cI cJ cZ h_a0 w_a0_primes h_a0_sieved a0_sieved_leasts q_a0_sieved_leasts a0_sieved_greatests q_a0_sieved_greatests a0_sieved_rests q_a0_sieved_rests h_a0_sieved_squared a0_sieved_squared_words q_a0_sieved_squared_words a0_sieved_from a0_sieved_many a0_sieved_primeCount a0_sieved_gap a0_sieved_twins a0_sieved_squareFree w_a0_parting w_a0_primeSums w_a0_progression w_a0_rows Q (va_A [(h_a0, .inr (7, [w_a0_primes, .ref h_a0_sieved, w_a0_parting, w_a0_primeSums, w_a0_progression, w_a0_rows])), (h_a0_sieved, .inr (6, [.ref q_a0_sieved_leasts, .ref q_a0_sieved_greatests, .ref q_a0_sieved_rests, .ref h_a0_sieved_squared, .long a0_sieved_from, .int a0_sieved_many, .int a0_sieved_primeCount, .int a0_sieved_gap, .int a0_sieved_twins, .int a0_sieved_squareFree])), (q_a0_sieved_leasts, .inl (cJ, 5000, .inr (.inl a0_sieved_leasts))), (q_a0_sieved_greatests, .inl (cJ, 5000, .inr (.inl a0_sieved_greatests))), (q_a0_sieved_rests, .inl (cJ, 5000, .inr (.inl a0_sieved_rests))), (h_a0_sieved_squared, .inr (0, [.ref q_a0_sieved_squared_words])), (q_a0_sieved_squared_words, .inl (cJ, 79, .inr (.inl a0_sieved_squared_words)))] sz)) 0 0 (va_A [(h_a0, .inr (7, [w_a0_primes, .ref h_a0_sieved, w_a0_parting, w_a0_primeSums, w_a0_progression, w_a0_rows])), (h_a0_sieved, .inr (6, [.ref q_a0_sieved_leasts, .ref q_a0_sieved_greatests, .ref q_a0_sieved_rests, .ref h_a0_sieved_squared, .long a0_sieved_from, .int a0_sieved_many, .int a0_sieved_primeCount, .int a0_sieved_gap, .int a0_sieved_twins, .int a0_sieved_squareFree])), (q_a0_sieved_leasts, .inl (cJ, 5000, .inr (.inl a0_sieved_leasts))), (q_a0_sieved_greatests, .inl (cJ, 5000, .inr (.inl a0_sieved_greatests))), (q_a0_sieved_rests, .inl (cJ, 5000, .inr (.inl a0_sieved_rests))), (h_a0_sieved_squared, .inr (0, [.ref q_a0_sieved_squared_words])), (q_a0_sieved_squared_words, .inl (cJ, 79, .inr (.inl a0_sieved_squared_words)))] sz) := by
  refine Met.ofW (cc := cX8_smooth) (maxL := 4) (ret := (some .int)) (by decide) rfl ?_
  intro p e s m args below meth c s₁ B hml hv
  obtain ⟨rfl, hsz, hP, hK, hN, hD0⟩ := hv
  have hx := B.exec
  have hb := B.bytes
  have hr := B.returns
  have hts := atoms_spec (ws := wsX8_smooth) B.pre
  have hown : s.vm.findClass RX8 = some m.cls := findClass_of_methodNamed B.named
  subst hsz
  have hD := hD0.self (sz := s.heap.size)
  generalize hAe : va_A [(h_a0, .inr (7, [w_a0_primes, .ref h_a0_sieved, w_a0_parting, w_a0_primeSums, w_a0_progression, w_a0_rows])), (h_a0_sieved, .inr (6, [.ref q_a0_sieved_leasts, .ref q_a0_sieved_greatests, .ref q_a0_sieved_rests, .ref h_a0_sieved_squared, .long a0_sieved_from, .int a0_sieved_many, .int a0_sieved_primeCount, .int a0_sieved_gap, .int a0_sieved_twins, .int a0_sieved_squareFree])), (q_a0_sieved_leasts, .inl (cJ, 5000, .inr (.inl a0_sieved_leasts))), (q_a0_sieved_greatests, .inl (cJ, 5000, .inr (.inl a0_sieved_greatests))), (q_a0_sieved_rests, .inl (cJ, 5000, .inr (.inl a0_sieved_rests))), (h_a0_sieved_squared, .inr (0, [.ref q_a0_sieved_squared_words])), (q_a0_sieved_squared_words, .inl (cJ, 79, .inr (.inl a0_sieved_squared_words)))] s.heap.size = A at hD ⊢
  have hA : ∀ q : Nat, s.heap.size ≤ q → A q := fun q h => by rw [← hAe]; exact Or.inr h
  have hS : va_S A s.heap s.heap [] := va_S.rf
  have hl := lv_entry ([.ref h_a0, .long p1, .int p2]) (n := 4) (Nat.le_of_ble_eq_true rfl)
  rw [lg_entry_eq]
  generalize (lg_sl ([.ref h_a0, .long p1, .int p2]) ++ List.replicate (4 - (lg_sl ([.ref h_a0, .long p1, .int p2])).length) Slot.unset).toArray = ls at hl ⊢
  have hl : lv_has ls 4 [(0, .ref h_a0), (1, .long p1), (3, .int p2)] := hl
  have h := hQ
  unfold wp_X8_smooth_c1 at h
  have hw_0 := hts (.fieldLink RX8 11 "NumberSieves" "sieved" "LNumberSieves$Span;") (by decide +kernel)
  have hin_X8 : ∀ w ∈ wsX80, w ∈ wsX8_smooth := by decide +kernel
  refine lv_aload_n hx hb dX8_smooth_0 rfl (lv_at hl 0 rfl) ?_
  refine va_get (D := (dC, dI)) (ci := 7) (v := .ref h_a0_sieved) (C := RX8) (T := TX8) (N := 6) hx hb hts hin_X8 hown hK hP 0 rfl rfl 1 (by decide) hw_0 (fun _ h9 => h9) rfl dX8_smooth_1 ?_
  refine lv_ifnull hx hb dX8_smooth_4 ?_
  refine lv_lload_n hx hb dX8_smooth_7 rfl (lv_at hl 1 rfl) ?_
  have hPc := hP.sub (ws' := []) [] rfl
  have hDc := hD.sub (ws' := []) [] (by decide) rfl
  have hFc := va_free (wc := []) hD hS hA [] rfl
  refine va_calli (va_runS (As := [.long p1]) (rest := []) ⟨hx, hb, hml, hown, hts⟩ (c_X8_isInRange l dC dI cI cJ cZ _ p1 _ h) (va_cwS 1 hts gX8_smooth_X8_isInRange rfl rfl rfl (by decide +kernel) ⟨Nat.le_of_ble_eq_true rfl, Nat.le_of_ble_eq_true rfl⟩) ⟨pre_fb, pre_of hPc hDc hK hN⟩ rfl rfl hl.1 rfl (lv_room (Nat.le_of_ble_eq_true rfl)) dX8_smooth_8 ⟨by first | exact Nat.le_of_ble_eq_true rfl | exact Nat.le_refl _, by first | exact Nat.le_of_ble_eq_true rfl | exact Nat.le_refl _⟩) hS (fun q _ h => hFc q h) hFc (fun r_1 u t H1 locs ht hvm h hB hz1 hk1 hS => ?_)
  obtain ⟨hP1, hD1⟩ := hB
  rw [ht] at hP1
  try dsimp only at h
  obtain ⟨hP, hD⟩ := va_join (wr := [(h_a0, .inr (7, [w_a0_primes, .ref h_a0_sieved, w_a0_parting, w_a0_primeSums, w_a0_progression, w_a0_rows])), (h_a0_sieved, .inr (6, [.ref q_a0_sieved_leasts, .ref q_a0_sieved_greatests, .ref q_a0_sieved_rests, .ref h_a0_sieved_squared, .long a0_sieved_from, .int a0_sieved_many, .int a0_sieved_primeCount, .int a0_sieved_gap, .int a0_sieved_twins, .int a0_sieved_squareFree])), (q_a0_sieved_leasts, .inl (cJ, 5000, .inr (.inl a0_sieved_leasts))), (q_a0_sieved_greatests, .inl (cJ, 5000, .inr (.inl a0_sieved_greatests))), (q_a0_sieved_rests, .inl (cJ, 5000, .inr (.inl a0_sieved_rests))), (h_a0_sieved_squared, .inr (0, [.ref q_a0_sieved_squared_words])), (q_a0_sieved_squared_words, .inl (cJ, 79, .inr (.inl a0_sieved_squared_words)))]) (w1 := []) hP hD [] [0, 1, 2, 3, 4, 5, 6] rfl rfl (by decide) (by decide) hk1 hFc hP1 hD1
  generalize H1 = H at hP hS ⊢
  have hP : va_P (dC, dI) vwCl [(h_a0, .inr (7, [w_a0_primes, .ref h_a0_sieved, w_a0_parting, w_a0_primeSums, w_a0_progression, w_a0_rows])), (h_a0_sieved, .inr (6, [.ref q_a0_sieved_leasts, .ref q_a0_sieved_greatests, .ref q_a0_sieved_rests, .ref h_a0_sieved_squared, .long a0_sieved_from, .int a0_sieved_many, .int a0_sieved_primeCount, .int a0_sieved_gap, .int a0_sieved_twins, .int a0_sieved_squareFree])), (q_a0_sieved_leasts, .inl (cJ, 5000, .inr (.inl a0_sieved_leasts))), (q_a0_sieved_greatests, .inl (cJ, 5000, .inr (.inl a0_sieved_greatests))), (q_a0_sieved_rests, .inl (cJ, 5000, .inr (.inl a0_sieved_rests))), (h_a0_sieved_squared, .inr (0, [.ref q_a0_sieved_squared_words])), (q_a0_sieved_squared_words, .inl (cJ, 79, .inr (.inl a0_sieved_squared_words)))] H := hP
  have hD : va_D A [(h_a0, .inr (7, [w_a0_primes, .ref h_a0_sieved, w_a0_parting, w_a0_primeSums, w_a0_progression, w_a0_rows])), (h_a0_sieved, .inr (6, [.ref q_a0_sieved_leasts, .ref q_a0_sieved_greatests, .ref q_a0_sieved_rests, .ref h_a0_sieved_squared, .long a0_sieved_from, .int a0_sieved_many, .int a0_sieved_primeCount, .int a0_sieved_gap, .int a0_sieved_twins, .int a0_sieved_squareFree])), (q_a0_sieved_leasts, .inl (cJ, 5000, .inr (.inl a0_sieved_leasts))), (q_a0_sieved_greatests, .inl (cJ, 5000, .inr (.inl a0_sieved_greatests))), (q_a0_sieved_rests, .inl (cJ, 5000, .inr (.inl a0_sieved_rests))), (h_a0_sieved_squared, .inr (0, [.ref q_a0_sieved_squared_words])), (q_a0_sieved_squared_words, .inl (cJ, 79, .inr (.inl a0_sieved_squared_words)))] := hD
  refine lv_if_ne (tgt := 16) hx hb dX8_smooth_11 (by decide) (fun c_2 => ?_) (fun c_2 => ?_)
  · replace h := h.2 c_2
    refine lv_iload_n hx hb dX8_smooth_16 rfl (lv_at hl 2 rfl) ?_
    refine lv_if_eq (tgt := 31) hx hb dX8_smooth_17 (by decide) (fun c_3 => ?_) (fun c_3 => ?_)
    · replace h := h.1 c_3
      refine lv_aload_n hx hb dX8_smooth_31 rfl (lv_at hl 0 rfl) ?_
      refine va_get (D := (dC, dI)) (ci := 7) (v := .ref h_a0_sieved) (C := RX8) (T := TX8) (N := 6) hx hb hts hin_X8 hown hK hP 0 rfl rfl 1 (by decide) hw_0 (fun _ h9 => h9) rfl dX8_smooth_32 ?_
      refine lv_lload_n hx hb dX8_smooth_35 rfl (lv_at hl 1 rfl) ?_
      have hPc := hP.sub (ws' := [(h_a0_sieved, .inr (6, [.ref q_a0_sieved_leasts, .ref q_a0_sieved_greatests, .ref q_a0_sieved_rests, .ref h_a0_sieved_squared, .long a0_sieved_from, .int a0_sieved_many, .int a0_sieved_primeCount, .int a0_sieved_gap, .int a0_sieved_twins, .int a0_sieved_squareFree])), (q_a0_sieved_greatests, .inl (cJ, 5000, .inr (.inl a0_sieved_greatests)))]) [1, 3] rfl
      have hDc := hD.sub (ws' := [(h_a0_sieved, .inr (6, [.ref q_a0_sieved_leasts, .ref q_a0_sieved_greatests, .ref q_a0_sieved_rests, .ref h_a0_sieved_squared, .long a0_sieved_from, .int a0_sieved_many, .int a0_sieved_primeCount, .int a0_sieved_gap, .int a0_sieved_twins, .int a0_sieved_squareFree])), (q_a0_sieved_greatests, .inl (cJ, 5000, .inr (.inl a0_sieved_greatests)))]) [1, 3] (by decide) rfl
      have hFc := va_free (wc := [(h_a0_sieved, .inr (6, [.ref q_a0_sieved_leasts, .ref q_a0_sieved_greatests, .ref q_a0_sieved_rests, .ref h_a0_sieved_squared, .long a0_sieved_from, .int a0_sieved_many, .int a0_sieved_primeCount, .int a0_sieved_gap, .int a0_sieved_twins, .int a0_sieved_squareFree])), (q_a0_sieved_greatests, .inl (cJ, 5000, .inr (.inl a0_sieved_greatests)))]) hD hS hA [1, 3] rfl
      refine va_calli (va_runV (As := [.long p1]) (rest := []) ⟨hx, hb, hml, hown, hts⟩ (c_X6_smoothBy l dC dI cI cJ cZ _ h_a0_sieved (.ref q_a0_sieved_leasts) a0_sieved_greatests q_a0_sieved_greatests (.ref q_a0_sieved_rests) (.ref h_a0_sieved_squared) a0_sieved_from a0_sieved_many a0_sieved_primeCount a0_sieved_gap a0_sieved_twins a0_sieved_squareFree p1 _ h) (cwV 1 hts gX8_smooth_X6_smoothBy rfl rfl rfl (by decide +kernel) ⟨Nat.le_of_ble_eq_true rfl, Nat.le_of_ble_eq_true rfl⟩) ⟨pre_fb, va_recv hK hPc (ci := 6) (q0 := 0) rfl rfl, pre_of hPc hDc hK hN⟩ rfl rfl hl.1 rfl (lv_room (Nat.le_of_ble_eq_true rfl)) dX8_smooth_36 ⟨by first | exact Nat.le_of_ble_eq_true rfl | exact Nat.le_refl _, by first | exact Nat.le_of_ble_eq_true rfl | exact Nat.le_refl _⟩) hS (fun q _ h => hFc q h) hFc (fun r_4 u t H1 locs ht hvm h hB hz1 hk1 hS => ?_)
      obtain ⟨hP1, hD1⟩ := hB
      rw [ht] at hP1
      try dsimp only at h
      obtain ⟨hP, hD⟩ := va_join (wr := [(h_a0, .inr (7, [w_a0_primes, .ref h_a0_sieved, w_a0_parting, w_a0_primeSums, w_a0_progression, w_a0_rows])), (q_a0_sieved_leasts, .inl (cJ, 5000, .inr (.inl a0_sieved_leasts))), (q_a0_sieved_rests, .inl (cJ, 5000, .inr (.inl a0_sieved_rests))), (h_a0_sieved_squared, .inr (0, [.ref q_a0_sieved_squared_words])), (q_a0_sieved_squared_words, .inl (cJ, 79, .inr (.inl a0_sieved_squared_words)))]) (w1 := [(h_a0_sieved, .inr (6, [.ref q_a0_sieved_leasts, .ref q_a0_sieved_greatests, .ref q_a0_sieved_rests, .ref h_a0_sieved_squared, .long a0_sieved_from, .int a0_sieved_many, .int a0_sieved_primeCount, .int a0_sieved_gap, .int a0_sieved_twins, .int a0_sieved_squareFree])), (q_a0_sieved_greatests, .inl (cJ, 5000, .inr (.inl a0_sieved_greatests)))]) hP hD [1, 3] [0, 2, 4, 5, 6] rfl rfl (by decide) (by decide) hk1 hFc hP1 hD1
      generalize H1 = H at hP hS ⊢
      have hP : va_P (dC, dI) vwCl [(h_a0, .inr (7, [w_a0_primes, .ref h_a0_sieved, w_a0_parting, w_a0_primeSums, w_a0_progression, w_a0_rows])), (q_a0_sieved_leasts, .inl (cJ, 5000, .inr (.inl a0_sieved_leasts))), (q_a0_sieved_rests, .inl (cJ, 5000, .inr (.inl a0_sieved_rests))), (h_a0_sieved_squared, .inr (0, [.ref q_a0_sieved_squared_words])), (q_a0_sieved_squared_words, .inl (cJ, 79, .inr (.inl a0_sieved_squared_words))), (h_a0_sieved, .inr (6, [.ref q_a0_sieved_leasts, .ref q_a0_sieved_greatests, .ref q_a0_sieved_rests, .ref h_a0_sieved_squared, .long a0_sieved_from, .int a0_sieved_many, .int a0_sieved_primeCount, .int a0_sieved_gap, .int a0_sieved_twins, .int a0_sieved_squareFree])), (q_a0_sieved_greatests, .inl (cJ, 5000, .inr (.inl a0_sieved_greatests)))] H := hP
      have hD : va_D A [(h_a0, .inr (7, [w_a0_primes, .ref h_a0_sieved, w_a0_parting, w_a0_primeSums, w_a0_progression, w_a0_rows])), (q_a0_sieved_leasts, .inl (cJ, 5000, .inr (.inl a0_sieved_leasts))), (q_a0_sieved_rests, .inl (cJ, 5000, .inr (.inl a0_sieved_rests))), (h_a0_sieved_squared, .inr (0, [.ref q_a0_sieved_squared_words])), (q_a0_sieved_squared_words, .inl (cJ, 79, .inr (.inl a0_sieved_squared_words))), (h_a0_sieved, .inr (6, [.ref q_a0_sieved_leasts, .ref q_a0_sieved_greatests, .ref q_a0_sieved_rests, .ref h_a0_sieved_squared, .long a0_sieved_from, .int a0_sieved_many, .int a0_sieved_primeCount, .int a0_sieved_gap, .int a0_sieved_twins, .int a0_sieved_squareFree])), (q_a0_sieved_greatests, .inl (cJ, 5000, .inr (.inl a0_sieved_greatests)))] := hD
      have hP9 := hP.sub (ws' := [(h_a0, .inr (7, [w_a0_primes, .ref h_a0_sieved, w_a0_parting, w_a0_primeSums, w_a0_progression, w_a0_rows])), (h_a0_sieved, .inr (6, [.ref q_a0_sieved_leasts, .ref q_a0_sieved_greatests, .ref q_a0_sieved_rests, .ref h_a0_sieved_squared, .long a0_sieved_from, .int a0_sieved_many, .int a0_sieved_primeCount, .int a0_sieved_gap, .int a0_sieved_twins, .int a0_sieved_squareFree])), (q_a0_sieved_leasts, .inl (cJ, 5000, .inr (.inl a0_sieved_leasts))), (q_a0_sieved_greatests, .inl (cJ, 5000, .inr (.inl a0_sieved_greatests))), (q_a0_sieved_rests, .inl (cJ, 5000, .inr (.inl a0_sieved_rests))), (h_a0_sieved_squared, .inr (0, [.ref q_a0_sieved_squared_words])), (q_a0_sieved_squared_words, .inl (cJ, 79, .inr (.inl a0_sieved_squared_words)))]) [0, 5, 1, 6, 2, 3, 4] rfl
      have hD9 := hD.sub (ws' := [(h_a0, .inr (7, [w_a0_primes, .ref h_a0_sieved, w_a0_parting, w_a0_primeSums, w_a0_progression, w_a0_rows])), (h_a0_sieved, .inr (6, [.ref q_a0_sieved_leasts, .ref q_a0_sieved_greatests, .ref q_a0_sieved_rests, .ref h_a0_sieved_squared, .long a0_sieved_from, .int a0_sieved_many, .int a0_sieved_primeCount, .int a0_sieved_gap, .int a0_sieved_twins, .int a0_sieved_squareFree])), (q_a0_sieved_leasts, .inl (cJ, 5000, .inr (.inl a0_sieved_leasts))), (q_a0_sieved_greatests, .inl (cJ, 5000, .inr (.inl a0_sieved_greatests))), (q_a0_sieved_rests, .inl (cJ, 5000, .inr (.inl a0_sieved_rests))), (h_a0_sieved_squared, .inr (0, [.ref q_a0_sieved_squared_words])), (q_a0_sieved_squared_words, .inl (cJ, 79, .inr (.inl a0_sieved_squared_words)))]) [0, 5, 1, 6, 2, 3, 4] (by decide) rfl
      exact W.iret (v := r_4) hx hb hr (fun t ht hW => ⟨⟨_, (), rfl, h, by rw [ht]; exact hP9, hD9⟩, hS.F ht⟩) hS.2.2 dX8_smooth_39
    · replace h := h.2 c_3
      refine lv_aload_n hx hb dX8_smooth_20 rfl (lv_at hl 0 rfl) ?_
      refine va_get (D := (dC, dI)) (ci := 7) (v := .ref h_a0_sieved) (C := RX8) (T := TX8) (N := 6) hx hb hts hin_X8 hown hK hP 0 rfl rfl 1 (by decide) hw_0 (fun _ h9 => h9) rfl dX8_smooth_21 ?_
      refine lv_lload_n hx hb dX8_smooth_24 rfl (lv_at hl 1 rfl) ?_
      have hPc := hP.sub (ws' := [(h_a0_sieved, .inr (6, [.ref q_a0_sieved_leasts, .ref q_a0_sieved_greatests, .ref q_a0_sieved_rests, .ref h_a0_sieved_squared, .long a0_sieved_from, .int a0_sieved_many, .int a0_sieved_primeCount, .int a0_sieved_gap, .int a0_sieved_twins, .int a0_sieved_squareFree])), (q_a0_sieved_leasts, .inl (cJ, 5000, .inr (.inl a0_sieved_leasts)))]) [1, 2] rfl
      have hDc := hD.sub (ws' := [(h_a0_sieved, .inr (6, [.ref q_a0_sieved_leasts, .ref q_a0_sieved_greatests, .ref q_a0_sieved_rests, .ref h_a0_sieved_squared, .long a0_sieved_from, .int a0_sieved_many, .int a0_sieved_primeCount, .int a0_sieved_gap, .int a0_sieved_twins, .int a0_sieved_squareFree])), (q_a0_sieved_leasts, .inl (cJ, 5000, .inr (.inl a0_sieved_leasts)))]) [1, 2] (by decide) rfl
      have hFc := va_free (wc := [(h_a0_sieved, .inr (6, [.ref q_a0_sieved_leasts, .ref q_a0_sieved_greatests, .ref q_a0_sieved_rests, .ref h_a0_sieved_squared, .long a0_sieved_from, .int a0_sieved_many, .int a0_sieved_primeCount, .int a0_sieved_gap, .int a0_sieved_twins, .int a0_sieved_squareFree])), (q_a0_sieved_leasts, .inl (cJ, 5000, .inr (.inl a0_sieved_leasts)))]) hD hS hA [1, 2] rfl
      refine va_calli (va_runV (As := [.long p1]) (rest := []) ⟨hx, hb, hml, hown, hts⟩ (c_X6_roughBy l dC dI cI cJ cZ _ h_a0_sieved a0_sieved_leasts q_a0_sieved_leasts (.ref q_a0_sieved_greatests) (.ref q_a0_sieved_rests) (.ref h_a0_sieved_squared) a0_sieved_from a0_sieved_many a0_sieved_primeCount a0_sieved_gap a0_sieved_twins a0_sieved_squareFree p1 _ h) (cwV 1 hts gX8_smooth_X6_roughBy rfl rfl rfl (by decide +kernel) ⟨Nat.le_of_ble_eq_true rfl, Nat.le_of_ble_eq_true rfl⟩) ⟨pre_fb, va_recv hK hPc (ci := 6) (q0 := 0) rfl rfl, pre_of hPc hDc hK hN⟩ rfl rfl hl.1 rfl (lv_room (Nat.le_of_ble_eq_true rfl)) dX8_smooth_25 ⟨by first | exact Nat.le_of_ble_eq_true rfl | exact Nat.le_refl _, by first | exact Nat.le_of_ble_eq_true rfl | exact Nat.le_refl _⟩) hS (fun q _ h => hFc q h) hFc (fun r_5 u t H1 locs ht hvm h hB hz1 hk1 hS => ?_)
      obtain ⟨hP1, hD1⟩ := hB
      rw [ht] at hP1
      try dsimp only at h
      obtain ⟨hP, hD⟩ := va_join (wr := [(h_a0, .inr (7, [w_a0_primes, .ref h_a0_sieved, w_a0_parting, w_a0_primeSums, w_a0_progression, w_a0_rows])), (q_a0_sieved_greatests, .inl (cJ, 5000, .inr (.inl a0_sieved_greatests))), (q_a0_sieved_rests, .inl (cJ, 5000, .inr (.inl a0_sieved_rests))), (h_a0_sieved_squared, .inr (0, [.ref q_a0_sieved_squared_words])), (q_a0_sieved_squared_words, .inl (cJ, 79, .inr (.inl a0_sieved_squared_words)))]) (w1 := [(h_a0_sieved, .inr (6, [.ref q_a0_sieved_leasts, .ref q_a0_sieved_greatests, .ref q_a0_sieved_rests, .ref h_a0_sieved_squared, .long a0_sieved_from, .int a0_sieved_many, .int a0_sieved_primeCount, .int a0_sieved_gap, .int a0_sieved_twins, .int a0_sieved_squareFree])), (q_a0_sieved_leasts, .inl (cJ, 5000, .inr (.inl a0_sieved_leasts)))]) hP hD [1, 2] [0, 3, 4, 5, 6] rfl rfl (by decide) (by decide) hk1 hFc hP1 hD1
      generalize H1 = H at hP hS ⊢
      have hP : va_P (dC, dI) vwCl [(h_a0, .inr (7, [w_a0_primes, .ref h_a0_sieved, w_a0_parting, w_a0_primeSums, w_a0_progression, w_a0_rows])), (q_a0_sieved_greatests, .inl (cJ, 5000, .inr (.inl a0_sieved_greatests))), (q_a0_sieved_rests, .inl (cJ, 5000, .inr (.inl a0_sieved_rests))), (h_a0_sieved_squared, .inr (0, [.ref q_a0_sieved_squared_words])), (q_a0_sieved_squared_words, .inl (cJ, 79, .inr (.inl a0_sieved_squared_words))), (h_a0_sieved, .inr (6, [.ref q_a0_sieved_leasts, .ref q_a0_sieved_greatests, .ref q_a0_sieved_rests, .ref h_a0_sieved_squared, .long a0_sieved_from, .int a0_sieved_many, .int a0_sieved_primeCount, .int a0_sieved_gap, .int a0_sieved_twins, .int a0_sieved_squareFree])), (q_a0_sieved_leasts, .inl (cJ, 5000, .inr (.inl a0_sieved_leasts)))] H := hP
      have hD : va_D A [(h_a0, .inr (7, [w_a0_primes, .ref h_a0_sieved, w_a0_parting, w_a0_primeSums, w_a0_progression, w_a0_rows])), (q_a0_sieved_greatests, .inl (cJ, 5000, .inr (.inl a0_sieved_greatests))), (q_a0_sieved_rests, .inl (cJ, 5000, .inr (.inl a0_sieved_rests))), (h_a0_sieved_squared, .inr (0, [.ref q_a0_sieved_squared_words])), (q_a0_sieved_squared_words, .inl (cJ, 79, .inr (.inl a0_sieved_squared_words))), (h_a0_sieved, .inr (6, [.ref q_a0_sieved_leasts, .ref q_a0_sieved_greatests, .ref q_a0_sieved_rests, .ref h_a0_sieved_squared, .long a0_sieved_from, .int a0_sieved_many, .int a0_sieved_primeCount, .int a0_sieved_gap, .int a0_sieved_twins, .int a0_sieved_squareFree])), (q_a0_sieved_leasts, .inl (cJ, 5000, .inr (.inl a0_sieved_leasts)))] := hD
      refine lv_goto (tgt := 39) hx hb dX8_smooth_28 (by decide) ?_
      have hP9 := hP.sub (ws' := [(h_a0, .inr (7, [w_a0_primes, .ref h_a0_sieved, w_a0_parting, w_a0_primeSums, w_a0_progression, w_a0_rows])), (h_a0_sieved, .inr (6, [.ref q_a0_sieved_leasts, .ref q_a0_sieved_greatests, .ref q_a0_sieved_rests, .ref h_a0_sieved_squared, .long a0_sieved_from, .int a0_sieved_many, .int a0_sieved_primeCount, .int a0_sieved_gap, .int a0_sieved_twins, .int a0_sieved_squareFree])), (q_a0_sieved_leasts, .inl (cJ, 5000, .inr (.inl a0_sieved_leasts))), (q_a0_sieved_greatests, .inl (cJ, 5000, .inr (.inl a0_sieved_greatests))), (q_a0_sieved_rests, .inl (cJ, 5000, .inr (.inl a0_sieved_rests))), (h_a0_sieved_squared, .inr (0, [.ref q_a0_sieved_squared_words])), (q_a0_sieved_squared_words, .inl (cJ, 79, .inr (.inl a0_sieved_squared_words)))]) [0, 5, 6, 1, 2, 3, 4] rfl
      have hD9 := hD.sub (ws' := [(h_a0, .inr (7, [w_a0_primes, .ref h_a0_sieved, w_a0_parting, w_a0_primeSums, w_a0_progression, w_a0_rows])), (h_a0_sieved, .inr (6, [.ref q_a0_sieved_leasts, .ref q_a0_sieved_greatests, .ref q_a0_sieved_rests, .ref h_a0_sieved_squared, .long a0_sieved_from, .int a0_sieved_many, .int a0_sieved_primeCount, .int a0_sieved_gap, .int a0_sieved_twins, .int a0_sieved_squareFree])), (q_a0_sieved_leasts, .inl (cJ, 5000, .inr (.inl a0_sieved_leasts))), (q_a0_sieved_greatests, .inl (cJ, 5000, .inr (.inl a0_sieved_greatests))), (q_a0_sieved_rests, .inl (cJ, 5000, .inr (.inl a0_sieved_rests))), (h_a0_sieved_squared, .inr (0, [.ref q_a0_sieved_squared_words])), (q_a0_sieved_squared_words, .inl (cJ, 79, .inr (.inl a0_sieved_squared_words)))]) [0, 5, 6, 1, 2, 3, 4] (by decide) rfl
      exact W.iret (v := r_5) hx hb hr (fun t ht hW => ⟨⟨_, (), rfl, h, by rw [ht]; exact hP9, hD9⟩, hS.F ht⟩) hS.2.2 dX8_smooth_39
  · replace h := h.1 c_2
    refine lv_iconst (v := (-1 : Int32)) hx hb dX8_smooth_14 (by decide) ?_
    have hP9 := hP.sub (ws' := [(h_a0, .inr (7, [w_a0_primes, .ref h_a0_sieved, w_a0_parting, w_a0_primeSums, w_a0_progression, w_a0_rows])), (h_a0_sieved, .inr (6, [.ref q_a0_sieved_leasts, .ref q_a0_sieved_greatests, .ref q_a0_sieved_rests, .ref h_a0_sieved_squared, .long a0_sieved_from, .int a0_sieved_many, .int a0_sieved_primeCount, .int a0_sieved_gap, .int a0_sieved_twins, .int a0_sieved_squareFree])), (q_a0_sieved_leasts, .inl (cJ, 5000, .inr (.inl a0_sieved_leasts))), (q_a0_sieved_greatests, .inl (cJ, 5000, .inr (.inl a0_sieved_greatests))), (q_a0_sieved_rests, .inl (cJ, 5000, .inr (.inl a0_sieved_rests))), (h_a0_sieved_squared, .inr (0, [.ref q_a0_sieved_squared_words])), (q_a0_sieved_squared_words, .inl (cJ, 79, .inr (.inl a0_sieved_squared_words)))]) [0, 1, 2, 3, 4, 5, 6] rfl
    have hD9 := hD.sub (ws' := [(h_a0, .inr (7, [w_a0_primes, .ref h_a0_sieved, w_a0_parting, w_a0_primeSums, w_a0_progression, w_a0_rows])), (h_a0_sieved, .inr (6, [.ref q_a0_sieved_leasts, .ref q_a0_sieved_greatests, .ref q_a0_sieved_rests, .ref h_a0_sieved_squared, .long a0_sieved_from, .int a0_sieved_many, .int a0_sieved_primeCount, .int a0_sieved_gap, .int a0_sieved_twins, .int a0_sieved_squareFree])), (q_a0_sieved_leasts, .inl (cJ, 5000, .inr (.inl a0_sieved_leasts))), (q_a0_sieved_greatests, .inl (cJ, 5000, .inr (.inl a0_sieved_greatests))), (q_a0_sieved_rests, .inl (cJ, 5000, .inr (.inl a0_sieved_rests))), (h_a0_sieved_squared, .inr (0, [.ref q_a0_sieved_squared_words])), (q_a0_sieved_squared_words, .inl (cJ, 79, .inr (.inl a0_sieved_squared_words)))]) [0, 1, 2, 3, 4, 5, 6] (by decide) rfl
    exact W.iret (v := (-1 : Int32)) hx hb hr (fun t ht hW => ⟨⟨_, (), rfl, h, by rw [ht]; exact hP9, hD9⟩, hS.F ht⟩) hS.2.2 dX8_smooth_15
def wp_X8_prime_c0 (mcP msP : Nat)  (p1 : Int64) (Q : Int32 → Option ((Nat → Int32) × Int32) → Prop) : Prop :=
  wp_X8_isInRange p1 (fun r_1 => ((r_1 = (0 : Int32) → Q (-1 : Int32) none) ∧ (¬ r_1 = (0 : Int32) → (4 ≤ mcP ∧ 11158 ≤ msP ∧ wp_X8_knownPrimes_c0 (fun o_3 o_4 => wp_X3_isPrime o_3 o_4 p1 (fun r_9 => ((r_9 = (0 : Int32) → Q (0 : Int32) (some (o_3, o_4))) ∧ (¬ r_9 = (0 : Int32) → Q (1 : Int32) (some (o_3, o_4))))))))))
abbrev rm_X8_prime_c0 (mcP msP : Nat) : Room := { frames := 5, cells := mcP, slots := msP, locals := 111 }
abbrev qc_X8_prime_c0 (dC : Nat → ClassId) (dI : Nat → Nat → Nat) (cI cJ cZ : ClassId) (h_a0 : Nat) (w_a0_sieved : Value) (w_a0_parting : Value) (w_a0_primeSums : Value) (w_a0_progression : Value) (w_a0_rows : Value) (Q : Int32 → Option ((Nat → Int32) × Int32) → Prop) (A : Nat → Prop) : Array Value → State → Outcome → State → Prop := va_Qi (fun (r : Int32) (u : Option ((Nat × Nat) × ((Nat → Int32) × Int32))) => Q r (u.map Prod.snd)) (post_ dC dI A (fun (u : Option ((Nat × Nat) × ((Nat → Int32) × Int32))) => ([(h_a0, .inr (7, [(match u with | none => Value.null | some w => Value.ref w.1.1), w_a0_sieved, w_a0_parting, w_a0_primeSums, w_a0_progression, w_a0_rows]))] : va_W) ++ (match u with | none => ([] : va_W) | some w => [(w.1.1, .inr (3, [.ref w.1.2, .int w.2.2])), (w.1.2, .inl (cI, 9592, .inl (w.2.1)))]))) A
set_option maxHeartbeats 4000000 in
set_option maxRecDepth 100000 in
theorem c_X8_prime_c0 (l : Launch) (dC : Nat → ClassId) (dI : Nat → Nat → Nat) (cI cJ cZ : ClassId) (sz : Nat) (mcP msP : Nat) (h_a0 : Nat) (w_a0_sieved : Value) (w_a0_parting : Value) (w_a0_primeSums : Value) (w_a0_progression : Value) (w_a0_rows : Value) (p1 : Int64) (Q : Int32 → Option ((Nat → Int32) × Int32) → Prop) (hQ : wp_X8_prime_c0 mcP msP p1 Q) : Met l yX8_prime wsX8_prime (rm_X8_prime_c0 mcP msP) (pre_ dC dI cI cJ cZ [.ref h_a0, .long p1] [(h_a0, .inr (7, [.null, w_a0_sieved, w_a0_parting, w_a0_primeSums, w_a0_progression, w_a0_rows]))] sz) (qc_X8_prime_c0 dC dI cI cJ cZ h_a0 w_a0_sieved w_a0_parting w_a0_primeSums w_a0_progression w_a0_rows Q (va_A [(h_a0, .inr (7, [.null, w_a0_sieved, w_a0_parting, w_a0_primeSums, w_a0_progression, w_a0_rows]))] sz)) mcP msP (va_A [(h_a0, .inr (7, [.null, w_a0_sieved, w_a0_parting, w_a0_primeSums, w_a0_progression, w_a0_rows]))] sz) := by
  refine Met.ofW (cc := cX8_prime) (maxL := 3) (ret := (some .int)) (by decide) rfl ?_
  intro p e s m args below meth c s₁ B hml hv
  obtain ⟨rfl, hsz, hP, hK, hN, hD0⟩ := hv
  have hx := B.exec
  have hb := B.bytes
  have hr := B.returns
  have hts := atoms_spec (ws := wsX8_prime) B.pre
  have hown : s.vm.findClass RX8 = some m.cls := findClass_of_methodNamed B.named
  subst hsz
  have hD := hD0.self (sz := s.heap.size)
  generalize hAe : va_A [(h_a0, .inr (7, [.null, w_a0_sieved, w_a0_parting, w_a0_primeSums, w_a0_progression, w_a0_rows]))] s.heap.size = A at hD ⊢
  have hA : ∀ q : Nat, s.heap.size ≤ q → A q := fun q h => by rw [← hAe]; exact Or.inr h
  have hS : va_S A s.heap s.heap [] := va_S.rf
  have hl := lv_entry ([.ref h_a0, .long p1]) (n := 3) (Nat.le_of_ble_eq_true rfl)
  rw [lg_entry_eq]
  generalize (lg_sl ([.ref h_a0, .long p1]) ++ List.replicate (3 - (lg_sl ([.ref h_a0, .long p1])).length) Slot.unset).toArray = ls at hl ⊢
  have hl : lv_has ls 3 [(0, .ref h_a0), (1, .long p1)] := hl
  have h := hQ
  unfold wp_X8_prime_c0 at h
  refine lv_lload_n hx hb dX8_prime_0 rfl (lv_at hl 1 rfl) ?_
  have hPc := hP.sub (ws' := []) [] rfl
  have hDc := hD.sub (ws' := []) [] (by decide) rfl
  have hFc := va_free (wc := []) hD hS hA [] rfl
  refine va_calli (va_runS (As := [.long p1]) (rest := []) ⟨hx, hb, hml, hown, hts⟩ (c_X8_isInRange l dC dI cI cJ cZ _ p1 _ h) (va_cwS 1 hts gX8_prime_X8_isInRange rfl rfl rfl (by decide +kernel) ⟨Nat.le_of_ble_eq_true rfl, Nat.le_of_ble_eq_true rfl⟩) ⟨pre_fb, pre_of hPc hDc hK hN⟩ rfl rfl hl.1 rfl (lv_room (Nat.le_of_ble_eq_true rfl)) dX8_prime_1 ⟨by show _ ≤ mcP; omega, by show _ ≤ msP; omega⟩) hS (fun q _ h => hFc q h) hFc (fun r_1 u t H1 locs ht hvm h hB hz1 hk1 hS => ?_)
  obtain ⟨hP1, hD1⟩ := hB
  rw [ht] at hP1
  try dsimp only at h
  obtain ⟨hP, hD⟩ := va_join (wr := [(h_a0, .inr (7, [.null, w_a0_sieved, w_a0_parting, w_a0_primeSums, w_a0_progression, w_a0_rows]))]) (w1 := []) hP hD [] [0] rfl rfl (by decide) (by decide) hk1 hFc hP1 hD1
  generalize H1 = H at hP hS ⊢
  have hP : va_P (dC, dI) vwCl [(h_a0, .inr (7, [.null, w_a0_sieved, w_a0_parting, w_a0_primeSums, w_a0_progression, w_a0_rows]))] H := hP
  have hD : va_D A [(h_a0, .inr (7, [.null, w_a0_sieved, w_a0_parting, w_a0_primeSums, w_a0_progression, w_a0_rows]))] := hD
  refine lv_if_ne (tgt := 9) hx hb dX8_prime_4 (by decide) (fun c_2 => ?_) (fun c_2 => ?_)
  · replace h := h.2 c_2
    refine lv_aload_n hx hb dX8_prime_9 rfl (lv_at hl 0 rfl) ?_
    have hPc := hP.sub (ws' := [(h_a0, .inr (7, [.null, w_a0_sieved, w_a0_parting, w_a0_primeSums, w_a0_progression, w_a0_rows]))]) [0] rfl
    have hDc := hD.sub (ws' := [(h_a0, .inr (7, [.null, w_a0_sieved, w_a0_parting, w_a0_primeSums, w_a0_progression, w_a0_rows]))]) [0] (by decide) rfl
    have hFc := va_free (wc := [(h_a0, .inr (7, [.null, w_a0_sieved, w_a0_parting, w_a0_primeSums, w_a0_progression, w_a0_rows]))]) hD hS hA [0] rfl
    obtain ⟨hm_5, hm_6, h⟩ := h
    refine va_callr (va_runV (As := []) (rest := []) ⟨hx, hb, hml, hown, hts⟩ (c_X8_knownPrimes_c0 l dC dI cI cJ cZ _ h_a0 (w_a0_sieved) (w_a0_parting) (w_a0_primeSums) (w_a0_progression) (w_a0_rows) _ h) (cwV 0 hts gX8_prime_X8_knownPrimes rfl rfl rfl (by decide +kernel) ⟨Nat.le_of_ble_eq_true rfl, Nat.le_of_ble_eq_true rfl⟩) ⟨pre_fb, va_recv hK hPc (ci := 7) (q0 := 0) rfl rfl, pre_of hPc hDc hK hN⟩ rfl rfl hl.1 rfl (lv_room (Nat.le_of_ble_eq_true rfl)) dX8_prime_10 ⟨hm_5, hm_6⟩) hS (fun q _ h => hFc q h) hFc (fun u ra t H1 locs ht hvm h hB hz1 hk1 hS => ?_)
    obtain ⟨q_7, q_8, o_3, o_4⟩ := u
    obtain ⟨hra, hP1, hD1⟩ := hB
    try dsimp only at hra
    subst ra
    rw [ht] at hP1
    try dsimp only at h
    obtain ⟨hP, hD⟩ := va_join (wr := []) (w1 := [(h_a0, .inr (7, [.ref q_7, w_a0_sieved, w_a0_parting, w_a0_primeSums, w_a0_progression, w_a0_rows])), (q_7, .inr (3, [.ref q_8, .int o_4])), (q_8, .inl (cI, 9592, .inl o_3))]) hP hD [0] [] rfl rfl (by decide) (by decide) hk1 hFc hP1 hD1
    generalize H1 = H at hP hS ⊢
    have hP : va_P (dC, dI) vwCl [(h_a0, .inr (7, [.ref q_7, w_a0_sieved, w_a0_parting, w_a0_primeSums, w_a0_progression, w_a0_rows])), (q_7, .inr (3, [.ref q_8, .int o_4])), (q_8, .inl (cI, 9592, .inl o_3))] H := hP
    have hD : va_D A [(h_a0, .inr (7, [.ref q_7, w_a0_sieved, w_a0_parting, w_a0_primeSums, w_a0_progression, w_a0_rows])), (q_7, .inr (3, [.ref q_8, .int o_4])), (q_8, .inl (cI, 9592, .inl o_3))] := hD
    refine W.widen (k := 4) (n := 11158) (by omega) (by omega) ?_
    refine lv_lload_n hx hb dX8_prime_13 rfl (lv_at hl 1 rfl) ?_
    have hPc := hP.sub (ws' := [(q_7, .inr (3, [.ref q_8, .int o_4])), (q_8, .inl (cI, 9592, .inl o_3))]) [1, 2] rfl
    have hDc := hD.sub (ws' := [(q_7, .inr (3, [.ref q_8, .int o_4])), (q_8, .inl (cI, 9592, .inl o_3))]) [1, 2] (by decide) rfl
    have hFc := va_free (wc := [(q_7, .inr (3, [.ref q_8, .int o_4])), (q_8, .inl (cI, 9592, .inl o_3))]) hD hS hA [1, 2] rfl
    refine va_calli (va_runV (As := [.long p1]) (rest := []) ⟨hx, hb, hml, hown, hts⟩ (c_X3_isPrime l dC dI cI cJ cZ _ q_7 o_3 q_8 o_4 p1 _ h) (cwV 1 hts gX8_prime_X3_isPrime rfl rfl rfl (by decide +kernel) ⟨Nat.le_of_ble_eq_true rfl, Nat.le_of_ble_eq_true rfl⟩) ⟨pre_fb, va_recv hK hPc (ci := 3) (q0 := 0) rfl rfl, pre_of hPc hDc hK hN⟩ rfl rfl hl.1 rfl (lv_room (Nat.le_of_ble_eq_true rfl)) dX8_prime_14 ⟨by show _ ≤ mcP; omega, by show _ ≤ msP; omega⟩) hS (fun q _ h => hFc q h) hFc (fun r_9 u t H1 locs ht hvm h hB hz1 hk1 hS => ?_)
    obtain ⟨hP1, hD1⟩ := hB
    rw [ht] at hP1
    try dsimp only at h
    obtain ⟨hP, hD⟩ := va_join (wr := [(h_a0, .inr (7, [.ref q_7, w_a0_sieved, w_a0_parting, w_a0_primeSums, w_a0_progression, w_a0_rows]))]) (w1 := [(q_7, .inr (3, [.ref q_8, .int o_4])), (q_8, .inl (cI, 9592, .inl o_3))]) hP hD [1, 2] [0] rfl rfl (by decide) (by decide) hk1 hFc hP1 hD1
    generalize H1 = H at hP hS ⊢
    have hP : va_P (dC, dI) vwCl [(h_a0, .inr (7, [.ref q_7, w_a0_sieved, w_a0_parting, w_a0_primeSums, w_a0_progression, w_a0_rows])), (q_7, .inr (3, [.ref q_8, .int o_4])), (q_8, .inl (cI, 9592, .inl o_3))] H := hP
    have hD : va_D A [(h_a0, .inr (7, [.ref q_7, w_a0_sieved, w_a0_parting, w_a0_primeSums, w_a0_progression, w_a0_rows])), (q_7, .inr (3, [.ref q_8, .int o_4])), (q_8, .inl (cI, 9592, .inl o_3))] := hD
    refine lv_if_eq (tgt := 24) hx hb dX8_prime_17 (by decide) (fun c_10 => ?_) (fun c_10 => ?_)
    · replace h := h.1 c_10
      refine lv_iconst (v := (0 : Int32)) hx hb dX8_prime_24 (by decide) ?_
      have hP9 := hP.sub (ws' := [(h_a0, .inr (7, [.ref q_7, w_a0_sieved, w_a0_parting, w_a0_primeSums, w_a0_progression, w_a0_rows])), (q_7, .inr (3, [.ref q_8, .int o_4])), (q_8, .inl (cI, 9592, .inl o_3))]) [0, 1, 2] rfl
      have hD9 := hD.sub (ws' := [(h_a0, .inr (7, [.ref q_7, w_a0_sieved, w_a0_parting, w_a0_primeSums, w_a0_progression, w_a0_rows])), (q_7, .inr (3, [.ref q_8, .int o_4])), (q_8, .inl (cI, 9592, .inl o_3))]) [0, 1, 2] (by decide) rfl
      refine W.widen (k := mcP) (n := msP) (by first | omega | exact Nat.le_of_ble_eq_true rfl) (by first | omega | exact Nat.le_of_ble_eq_true rfl) ?_
      exact W.iret (v := (0 : Int32)) hx hb hr (fun t ht hW => ⟨⟨_, some ((q_7, q_8), (o_3, o_4)), rfl, h, by rw [ht]; exact hP9, hD9⟩, hS.F ht⟩) hS.2.2 dX8_prime_25
    · replace h := h.2 c_10
      refine lv_iconst (v := (1 : Int32)) hx hb dX8_prime_20 (by decide) ?_
      refine lv_goto (tgt := 25) hx hb dX8_prime_21 (by decide) ?_
      have hP9 := hP.sub (ws' := [(h_a0, .inr (7, [.ref q_7, w_a0_sieved, w_a0_parting, w_a0_primeSums, w_a0_progression, w_a0_rows])), (q_7, .inr (3, [.ref q_8, .int o_4])), (q_8, .inl (cI, 9592, .inl o_3))]) [0, 1, 2] rfl
      have hD9 := hD.sub (ws' := [(h_a0, .inr (7, [.ref q_7, w_a0_sieved, w_a0_parting, w_a0_primeSums, w_a0_progression, w_a0_rows])), (q_7, .inr (3, [.ref q_8, .int o_4])), (q_8, .inl (cI, 9592, .inl o_3))]) [0, 1, 2] (by decide) rfl
      refine W.widen (k := mcP) (n := msP) (by first | omega | exact Nat.le_of_ble_eq_true rfl) (by first | omega | exact Nat.le_of_ble_eq_true rfl) ?_
      exact W.iret (v := (1 : Int32)) hx hb hr (fun t ht hW => ⟨⟨_, some ((q_7, q_8), (o_3, o_4)), rfl, h, by rw [ht]; exact hP9, hD9⟩, hS.F ht⟩) hS.2.2 dX8_prime_25
  · replace h := h.1 c_2
    refine lv_iconst (v := (-1 : Int32)) hx hb dX8_prime_7 (by decide) ?_
    have hP9 := hP.sub (ws' := [(h_a0, .inr (7, [.null, w_a0_sieved, w_a0_parting, w_a0_primeSums, w_a0_progression, w_a0_rows]))]) [0] rfl
    have hD9 := hD.sub (ws' := [(h_a0, .inr (7, [.null, w_a0_sieved, w_a0_parting, w_a0_primeSums, w_a0_progression, w_a0_rows]))]) [0] (by decide) rfl
    refine W.widen (k := mcP) (n := msP) (by first | omega | exact Nat.le_of_ble_eq_true rfl) (by first | omega | exact Nat.le_of_ble_eq_true rfl) ?_
    exact W.iret (v := (-1 : Int32)) hx hb hr (fun t ht hW => ⟨⟨_, none, rfl, h, by rw [ht]; exact hP9, hD9⟩, hS.F ht⟩) hS.2.2 dX8_prime_8
def wp_X8_prime_c1 (a0_primes_table : Nat → Int32) (a0_primes_many : Int32) (p1 : Int64) (Q : Int32 → Prop) : Prop :=
  wp_X8_isInRange p1 (fun r_1 => ((r_1 = (0 : Int32) → Q (-1 : Int32)) ∧ (¬ r_1 = (0 : Int32) → wp_X8_knownPrimes_c1 (wp_X3_isPrime a0_primes_table a0_primes_many p1 (fun r_3 => ((r_3 = (0 : Int32) → Q (0 : Int32)) ∧ (¬ r_3 = (0 : Int32) → Q (1 : Int32))))))))
abbrev rm_X8_prime_c1 : Room := { frames := 5, cells := 0, slots := 0, locals := 111 }
abbrev qc_X8_prime_c1 (dC : Nat → ClassId) (dI : Nat → Nat → Nat) (cI cJ cZ : ClassId) (h_a0 : Nat) (h_a0_primes : Nat) (a0_primes_table : Nat → Int32) (q_a0_primes_table : Nat) (a0_primes_many : Int32) (w_a0_sieved : Value) (w_a0_parting : Value) (w_a0_primeSums : Value) (w_a0_progression : Value) (w_a0_rows : Value) (Q : Int32 → Prop) (A : Nat → Prop) : Array Value → State → Outcome → State → Prop := va_Qi (fun (r : Int32) (_ : Unit) => Q r) (post_ dC dI A (fun (u : Unit) => ([(h_a0, .inr (7, [.ref h_a0_primes, w_a0_sieved, w_a0_parting, w_a0_primeSums, w_a0_progression, w_a0_rows])), (h_a0_primes, .inr (3, [.ref q_a0_primes_table, .int a0_primes_many])), (q_a0_primes_table, .inl (cI, 9592, .inl a0_primes_table))] : va_W))) A
set_option maxHeartbeats 4000000 in
set_option maxRecDepth 100000 in
theorem c_X8_prime_c1 (l : Launch) (dC : Nat → ClassId) (dI : Nat → Nat → Nat) (cI cJ cZ : ClassId) (sz : Nat) (h_a0 : Nat) (h_a0_primes : Nat) (a0_primes_table : Nat → Int32) (q_a0_primes_table : Nat) (a0_primes_many : Int32) (w_a0_sieved : Value) (w_a0_parting : Value) (w_a0_primeSums : Value) (w_a0_progression : Value) (w_a0_rows : Value) (p1 : Int64) (Q : Int32 → Prop) (hQ : wp_X8_prime_c1 a0_primes_table a0_primes_many p1 Q) : Met l yX8_prime wsX8_prime rm_X8_prime_c1 (pre_ dC dI cI cJ cZ [.ref h_a0, .long p1] [(h_a0, .inr (7, [.ref h_a0_primes, w_a0_sieved, w_a0_parting, w_a0_primeSums, w_a0_progression, w_a0_rows])), (h_a0_primes, .inr (3, [.ref q_a0_primes_table, .int a0_primes_many])), (q_a0_primes_table, .inl (cI, 9592, .inl a0_primes_table))] sz) (qc_X8_prime_c1 dC dI cI cJ cZ h_a0 h_a0_primes a0_primes_table q_a0_primes_table a0_primes_many w_a0_sieved w_a0_parting w_a0_primeSums w_a0_progression w_a0_rows Q (va_A [(h_a0, .inr (7, [.ref h_a0_primes, w_a0_sieved, w_a0_parting, w_a0_primeSums, w_a0_progression, w_a0_rows])), (h_a0_primes, .inr (3, [.ref q_a0_primes_table, .int a0_primes_many])), (q_a0_primes_table, .inl (cI, 9592, .inl a0_primes_table))] sz)) 0 0 (va_A [(h_a0, .inr (7, [.ref h_a0_primes, w_a0_sieved, w_a0_parting, w_a0_primeSums, w_a0_progression, w_a0_rows])), (h_a0_primes, .inr (3, [.ref q_a0_primes_table, .int a0_primes_many])), (q_a0_primes_table, .inl (cI, 9592, .inl a0_primes_table))] sz) := by
  refine Met.ofW (cc := cX8_prime) (maxL := 3) (ret := (some .int)) (by decide) rfl ?_
  intro p e s m args below meth c s₁ B hml hv
  obtain ⟨rfl, hsz, hP, hK, hN, hD0⟩ := hv
  have hx := B.exec
  have hb := B.bytes
  have hr := B.returns
  have hts := atoms_spec (ws := wsX8_prime) B.pre
  have hown : s.vm.findClass RX8 = some m.cls := findClass_of_methodNamed B.named
  subst hsz
  have hD := hD0.self (sz := s.heap.size)
  generalize hAe : va_A [(h_a0, .inr (7, [.ref h_a0_primes, w_a0_sieved, w_a0_parting, w_a0_primeSums, w_a0_progression, w_a0_rows])), (h_a0_primes, .inr (3, [.ref q_a0_primes_table, .int a0_primes_many])), (q_a0_primes_table, .inl (cI, 9592, .inl a0_primes_table))] s.heap.size = A at hD ⊢
  have hA : ∀ q : Nat, s.heap.size ≤ q → A q := fun q h => by rw [← hAe]; exact Or.inr h
  have hS : va_S A s.heap s.heap [] := va_S.rf
  have hl := lv_entry ([.ref h_a0, .long p1]) (n := 3) (Nat.le_of_ble_eq_true rfl)
  rw [lg_entry_eq]
  generalize (lg_sl ([.ref h_a0, .long p1]) ++ List.replicate (3 - (lg_sl ([.ref h_a0, .long p1])).length) Slot.unset).toArray = ls at hl ⊢
  have hl : lv_has ls 3 [(0, .ref h_a0), (1, .long p1)] := hl
  have h := hQ
  unfold wp_X8_prime_c1 at h
  refine lv_lload_n hx hb dX8_prime_0 rfl (lv_at hl 1 rfl) ?_
  have hPc := hP.sub (ws' := []) [] rfl
  have hDc := hD.sub (ws' := []) [] (by decide) rfl
  have hFc := va_free (wc := []) hD hS hA [] rfl
  refine va_calli (va_runS (As := [.long p1]) (rest := []) ⟨hx, hb, hml, hown, hts⟩ (c_X8_isInRange l dC dI cI cJ cZ _ p1 _ h) (va_cwS 1 hts gX8_prime_X8_isInRange rfl rfl rfl (by decide +kernel) ⟨Nat.le_of_ble_eq_true rfl, Nat.le_of_ble_eq_true rfl⟩) ⟨pre_fb, pre_of hPc hDc hK hN⟩ rfl rfl hl.1 rfl (lv_room (Nat.le_of_ble_eq_true rfl)) dX8_prime_1 ⟨by first | exact Nat.le_of_ble_eq_true rfl | exact Nat.le_refl _, by first | exact Nat.le_of_ble_eq_true rfl | exact Nat.le_refl _⟩) hS (fun q _ h => hFc q h) hFc (fun r_1 u t H1 locs ht hvm h hB hz1 hk1 hS => ?_)
  obtain ⟨hP1, hD1⟩ := hB
  rw [ht] at hP1
  try dsimp only at h
  obtain ⟨hP, hD⟩ := va_join (wr := [(h_a0, .inr (7, [.ref h_a0_primes, w_a0_sieved, w_a0_parting, w_a0_primeSums, w_a0_progression, w_a0_rows])), (h_a0_primes, .inr (3, [.ref q_a0_primes_table, .int a0_primes_many])), (q_a0_primes_table, .inl (cI, 9592, .inl a0_primes_table))]) (w1 := []) hP hD [] [0, 1, 2] rfl rfl (by decide) (by decide) hk1 hFc hP1 hD1
  generalize H1 = H at hP hS ⊢
  have hP : va_P (dC, dI) vwCl [(h_a0, .inr (7, [.ref h_a0_primes, w_a0_sieved, w_a0_parting, w_a0_primeSums, w_a0_progression, w_a0_rows])), (h_a0_primes, .inr (3, [.ref q_a0_primes_table, .int a0_primes_many])), (q_a0_primes_table, .inl (cI, 9592, .inl a0_primes_table))] H := hP
  have hD : va_D A [(h_a0, .inr (7, [.ref h_a0_primes, w_a0_sieved, w_a0_parting, w_a0_primeSums, w_a0_progression, w_a0_rows])), (h_a0_primes, .inr (3, [.ref q_a0_primes_table, .int a0_primes_many])), (q_a0_primes_table, .inl (cI, 9592, .inl a0_primes_table))] := hD
  refine lv_if_ne (tgt := 9) hx hb dX8_prime_4 (by decide) (fun c_2 => ?_) (fun c_2 => ?_)
  · replace h := h.2 c_2
    refine lv_aload_n hx hb dX8_prime_9 rfl (lv_at hl 0 rfl) ?_
    have hPc := hP.sub (ws' := [(h_a0, .inr (7, [.ref h_a0_primes, w_a0_sieved, w_a0_parting, w_a0_primeSums, w_a0_progression, w_a0_rows])), (h_a0_primes, .inr (3, [.ref q_a0_primes_table, .int a0_primes_many])), (q_a0_primes_table, .inl (cI, 9592, .inl a0_primes_table))]) [0, 1, 2] rfl
    have hDc := hD.sub (ws' := [(h_a0, .inr (7, [.ref h_a0_primes, w_a0_sieved, w_a0_parting, w_a0_primeSums, w_a0_progression, w_a0_rows])), (h_a0_primes, .inr (3, [.ref q_a0_primes_table, .int a0_primes_many])), (q_a0_primes_table, .inl (cI, 9592, .inl a0_primes_table))]) [0, 1, 2] (by decide) rfl
    have hFc := va_free (wc := [(h_a0, .inr (7, [.ref h_a0_primes, w_a0_sieved, w_a0_parting, w_a0_primeSums, w_a0_progression, w_a0_rows])), (h_a0_primes, .inr (3, [.ref q_a0_primes_table, .int a0_primes_many])), (q_a0_primes_table, .inl (cI, 9592, .inl a0_primes_table))]) hD hS hA [0, 1, 2] rfl
    refine va_callr (va_runV (As := []) (rest := []) ⟨hx, hb, hml, hown, hts⟩ (c_X8_knownPrimes_c1 l dC dI cI cJ cZ _ h_a0 h_a0_primes a0_primes_table q_a0_primes_table a0_primes_many (w_a0_sieved) (w_a0_parting) (w_a0_primeSums) (w_a0_progression) (w_a0_rows) _ h) (cwV 0 hts gX8_prime_X8_knownPrimes rfl rfl rfl (by decide +kernel) ⟨Nat.le_of_ble_eq_true rfl, Nat.le_of_ble_eq_true rfl⟩) ⟨pre_fb, va_recv hK hPc (ci := 7) (q0 := 0) rfl rfl, pre_of hPc hDc hK hN⟩ rfl rfl hl.1 rfl (lv_room (Nat.le_of_ble_eq_true rfl)) dX8_prime_10 ⟨by first | exact Nat.le_of_ble_eq_true rfl | exact Nat.le_refl _, by first | exact Nat.le_of_ble_eq_true rfl | exact Nat.le_refl _⟩) hS (fun q _ h => hFc q h) hFc (fun u ra t H1 locs ht hvm h hB hz1 hk1 hS => ?_)
    obtain ⟨hra, hP1, hD1⟩ := hB
    try dsimp only at hra
    subst ra
    rw [ht] at hP1
    try dsimp only at h
    obtain ⟨hP, hD⟩ := va_join (wr := []) (w1 := [(h_a0, .inr (7, [.ref h_a0_primes, w_a0_sieved, w_a0_parting, w_a0_primeSums, w_a0_progression, w_a0_rows])), (h_a0_primes, .inr (3, [.ref q_a0_primes_table, .int a0_primes_many])), (q_a0_primes_table, .inl (cI, 9592, .inl a0_primes_table))]) hP hD [0, 1, 2] [] rfl rfl (by decide) (by decide) hk1 hFc hP1 hD1
    generalize H1 = H at hP hS ⊢
    have hP : va_P (dC, dI) vwCl [(h_a0, .inr (7, [.ref h_a0_primes, w_a0_sieved, w_a0_parting, w_a0_primeSums, w_a0_progression, w_a0_rows])), (h_a0_primes, .inr (3, [.ref q_a0_primes_table, .int a0_primes_many])), (q_a0_primes_table, .inl (cI, 9592, .inl a0_primes_table))] H := hP
    have hD : va_D A [(h_a0, .inr (7, [.ref h_a0_primes, w_a0_sieved, w_a0_parting, w_a0_primeSums, w_a0_progression, w_a0_rows])), (h_a0_primes, .inr (3, [.ref q_a0_primes_table, .int a0_primes_many])), (q_a0_primes_table, .inl (cI, 9592, .inl a0_primes_table))] := hD
    refine lv_lload_n hx hb dX8_prime_13 rfl (lv_at hl 1 rfl) ?_
    have hPc := hP.sub (ws' := [(h_a0_primes, .inr (3, [.ref q_a0_primes_table, .int a0_primes_many])), (q_a0_primes_table, .inl (cI, 9592, .inl a0_primes_table))]) [1, 2] rfl
    have hDc := hD.sub (ws' := [(h_a0_primes, .inr (3, [.ref q_a0_primes_table, .int a0_primes_many])), (q_a0_primes_table, .inl (cI, 9592, .inl a0_primes_table))]) [1, 2] (by decide) rfl
    have hFc := va_free (wc := [(h_a0_primes, .inr (3, [.ref q_a0_primes_table, .int a0_primes_many])), (q_a0_primes_table, .inl (cI, 9592, .inl a0_primes_table))]) hD hS hA [1, 2] rfl
    refine va_calli (va_runV (As := [.long p1]) (rest := []) ⟨hx, hb, hml, hown, hts⟩ (c_X3_isPrime l dC dI cI cJ cZ _ h_a0_primes a0_primes_table q_a0_primes_table a0_primes_many p1 _ h) (cwV 1 hts gX8_prime_X3_isPrime rfl rfl rfl (by decide +kernel) ⟨Nat.le_of_ble_eq_true rfl, Nat.le_of_ble_eq_true rfl⟩) ⟨pre_fb, va_recv hK hPc (ci := 3) (q0 := 0) rfl rfl, pre_of hPc hDc hK hN⟩ rfl rfl hl.1 rfl (lv_room (Nat.le_of_ble_eq_true rfl)) dX8_prime_14 ⟨by first | exact Nat.le_of_ble_eq_true rfl | exact Nat.le_refl _, by first | exact Nat.le_of_ble_eq_true rfl | exact Nat.le_refl _⟩) hS (fun q _ h => hFc q h) hFc (fun r_3 u t H1 locs ht hvm h hB hz1 hk1 hS => ?_)
    obtain ⟨hP1, hD1⟩ := hB
    rw [ht] at hP1
    try dsimp only at h
    obtain ⟨hP, hD⟩ := va_join (wr := [(h_a0, .inr (7, [.ref h_a0_primes, w_a0_sieved, w_a0_parting, w_a0_primeSums, w_a0_progression, w_a0_rows]))]) (w1 := [(h_a0_primes, .inr (3, [.ref q_a0_primes_table, .int a0_primes_many])), (q_a0_primes_table, .inl (cI, 9592, .inl a0_primes_table))]) hP hD [1, 2] [0] rfl rfl (by decide) (by decide) hk1 hFc hP1 hD1
    generalize H1 = H at hP hS ⊢
    have hP : va_P (dC, dI) vwCl [(h_a0, .inr (7, [.ref h_a0_primes, w_a0_sieved, w_a0_parting, w_a0_primeSums, w_a0_progression, w_a0_rows])), (h_a0_primes, .inr (3, [.ref q_a0_primes_table, .int a0_primes_many])), (q_a0_primes_table, .inl (cI, 9592, .inl a0_primes_table))] H := hP
    have hD : va_D A [(h_a0, .inr (7, [.ref h_a0_primes, w_a0_sieved, w_a0_parting, w_a0_primeSums, w_a0_progression, w_a0_rows])), (h_a0_primes, .inr (3, [.ref q_a0_primes_table, .int a0_primes_many])), (q_a0_primes_table, .inl (cI, 9592, .inl a0_primes_table))] := hD
    refine lv_if_eq (tgt := 24) hx hb dX8_prime_17 (by decide) (fun c_4 => ?_) (fun c_4 => ?_)
    · replace h := h.1 c_4
      refine lv_iconst (v := (0 : Int32)) hx hb dX8_prime_24 (by decide) ?_
      have hP9 := hP.sub (ws' := [(h_a0, .inr (7, [.ref h_a0_primes, w_a0_sieved, w_a0_parting, w_a0_primeSums, w_a0_progression, w_a0_rows])), (h_a0_primes, .inr (3, [.ref q_a0_primes_table, .int a0_primes_many])), (q_a0_primes_table, .inl (cI, 9592, .inl a0_primes_table))]) [0, 1, 2] rfl
      have hD9 := hD.sub (ws' := [(h_a0, .inr (7, [.ref h_a0_primes, w_a0_sieved, w_a0_parting, w_a0_primeSums, w_a0_progression, w_a0_rows])), (h_a0_primes, .inr (3, [.ref q_a0_primes_table, .int a0_primes_many])), (q_a0_primes_table, .inl (cI, 9592, .inl a0_primes_table))]) [0, 1, 2] (by decide) rfl
      exact W.iret (v := (0 : Int32)) hx hb hr (fun t ht hW => ⟨⟨_, (), rfl, h, by rw [ht]; exact hP9, hD9⟩, hS.F ht⟩) hS.2.2 dX8_prime_25
    · replace h := h.2 c_4
      refine lv_iconst (v := (1 : Int32)) hx hb dX8_prime_20 (by decide) ?_
      refine lv_goto (tgt := 25) hx hb dX8_prime_21 (by decide) ?_
      have hP9 := hP.sub (ws' := [(h_a0, .inr (7, [.ref h_a0_primes, w_a0_sieved, w_a0_parting, w_a0_primeSums, w_a0_progression, w_a0_rows])), (h_a0_primes, .inr (3, [.ref q_a0_primes_table, .int a0_primes_many])), (q_a0_primes_table, .inl (cI, 9592, .inl a0_primes_table))]) [0, 1, 2] rfl
      have hD9 := hD.sub (ws' := [(h_a0, .inr (7, [.ref h_a0_primes, w_a0_sieved, w_a0_parting, w_a0_primeSums, w_a0_progression, w_a0_rows])), (h_a0_primes, .inr (3, [.ref q_a0_primes_table, .int a0_primes_many])), (q_a0_primes_table, .inl (cI, 9592, .inl a0_primes_table))]) [0, 1, 2] (by decide) rfl
      exact W.iret (v := (1 : Int32)) hx hb hr (fun t ht hW => ⟨⟨_, (), rfl, h, by rw [ht]; exact hP9, hD9⟩, hS.F ht⟩) hS.2.2 dX8_prime_25
  · replace h := h.1 c_2
    refine lv_iconst (v := (-1 : Int32)) hx hb dX8_prime_7 (by decide) ?_
    have hP9 := hP.sub (ws' := [(h_a0, .inr (7, [.ref h_a0_primes, w_a0_sieved, w_a0_parting, w_a0_primeSums, w_a0_progression, w_a0_rows])), (h_a0_primes, .inr (3, [.ref q_a0_primes_table, .int a0_primes_many])), (q_a0_primes_table, .inl (cI, 9592, .inl a0_primes_table))]) [0, 1, 2] rfl
    have hD9 := hD.sub (ws' := [(h_a0, .inr (7, [.ref h_a0_primes, w_a0_sieved, w_a0_parting, w_a0_primeSums, w_a0_progression, w_a0_rows])), (h_a0_primes, .inr (3, [.ref q_a0_primes_table, .int a0_primes_many])), (q_a0_primes_table, .inl (cI, 9592, .inl a0_primes_table))]) [0, 1, 2] (by decide) rfl
    exact W.iret (v := (-1 : Int32)) hx hb hr (fun t ht hW => ⟨⟨_, (), rfl, h, by rw [ht]; exact hP9, hD9⟩, hS.F ht⟩) hS.2.2 dX8_prime_8
def wp_X8_next_c0 (mcP msP : Nat)  (p1 : Int64) (p2 : Int32) (Q : Int64 → Option ((Nat → Int32) × Int32) → Prop) : Prop :=
  wp_X8_isInRange p1 (fun r_1 => ((r_1 = (0 : Int32) → Q (0 : Int64) none) ∧ (¬ r_1 = (0 : Int32) → ((p2 = (0 : Int32) → (4 ≤ mcP ∧ 11158 ≤ msP ∧ wp_X8_knownPrimes_c0 (fun o_4 o_5 => wp_X3_primeAbove o_4 o_5 p1 (fun r_10 => Q r_10 (some (o_4, o_5)))))) ∧ (¬ p2 = (0 : Int32) → (4 ≤ mcP ∧ 11158 ≤ msP ∧ wp_X8_knownPrimes_c0 (fun o_11 o_12 => wp_X3_primeBelow o_11 o_12 p1 (fun r_17 => Q r_17 (some (o_11, o_12))))))))))
abbrev rm_X8_next_c0 (mcP msP : Nat) : Room := { frames := 5, cells := mcP, slots := msP, locals := 111 }
abbrev qc_X8_next_c0 (dC : Nat → ClassId) (dI : Nat → Nat → Nat) (cI cJ cZ : ClassId) (h_a0 : Nat) (w_a0_sieved : Value) (w_a0_parting : Value) (w_a0_primeSums : Value) (w_a0_progression : Value) (w_a0_rows : Value) (Q : Int64 → Option ((Nat → Int32) × Int32) → Prop) (A : Nat → Prop) : Array Value → State → Outcome → State → Prop := va_Ql (fun (r : Int64) (u : Option ((Nat × Nat) × ((Nat → Int32) × Int32))) => Q r (u.map Prod.snd)) (post_ dC dI A (fun (u : Option ((Nat × Nat) × ((Nat → Int32) × Int32))) => ([(h_a0, .inr (7, [(match u with | none => Value.null | some w => Value.ref w.1.1), w_a0_sieved, w_a0_parting, w_a0_primeSums, w_a0_progression, w_a0_rows]))] : va_W) ++ (match u with | none => ([] : va_W) | some w => [(w.1.1, .inr (3, [.ref w.1.2, .int w.2.2])), (w.1.2, .inl (cI, 9592, .inl (w.2.1)))]))) A
set_option maxHeartbeats 4000000 in
set_option maxRecDepth 100000 in
theorem c_X8_next_c0 (l : Launch) (dC : Nat → ClassId) (dI : Nat → Nat → Nat) (cI cJ cZ : ClassId) (sz : Nat) (mcP msP : Nat) (h_a0 : Nat) (w_a0_sieved : Value) (w_a0_parting : Value) (w_a0_primeSums : Value) (w_a0_progression : Value) (w_a0_rows : Value) (p1 : Int64) (p2 : Int32) (Q : Int64 → Option ((Nat → Int32) × Int32) → Prop) (hQ : wp_X8_next_c0 mcP msP p1 p2 Q) : Met l yX8_next wsX8_next (rm_X8_next_c0 mcP msP) (pre_ dC dI cI cJ cZ [.ref h_a0, .long p1, .int p2] [(h_a0, .inr (7, [.null, w_a0_sieved, w_a0_parting, w_a0_primeSums, w_a0_progression, w_a0_rows]))] sz) (qc_X8_next_c0 dC dI cI cJ cZ h_a0 w_a0_sieved w_a0_parting w_a0_primeSums w_a0_progression w_a0_rows Q (va_A [(h_a0, .inr (7, [.null, w_a0_sieved, w_a0_parting, w_a0_primeSums, w_a0_progression, w_a0_rows]))] sz)) mcP msP (va_A [(h_a0, .inr (7, [.null, w_a0_sieved, w_a0_parting, w_a0_primeSums, w_a0_progression, w_a0_rows]))] sz) := by
  refine Met.ofW (cc := cX8_next) (maxL := 4) (ret := (some .long)) (by decide) rfl ?_
  intro p e s m args below meth c s₁ B hml hv
  obtain ⟨rfl, hsz, hP, hK, hN, hD0⟩ := hv
  have hx := B.exec
  have hb := B.bytes
  have hr := B.returns
  have hts := atoms_spec (ws := wsX8_next) B.pre
  have hown : s.vm.findClass RX8 = some m.cls := findClass_of_methodNamed B.named
  subst hsz
  have hD := hD0.self (sz := s.heap.size)
  generalize hAe : va_A [(h_a0, .inr (7, [.null, w_a0_sieved, w_a0_parting, w_a0_primeSums, w_a0_progression, w_a0_rows]))] s.heap.size = A at hD ⊢
  have hA : ∀ q : Nat, s.heap.size ≤ q → A q := fun q h => by rw [← hAe]; exact Or.inr h
  have hS : va_S A s.heap s.heap [] := va_S.rf
  have hl := lv_entry ([.ref h_a0, .long p1, .int p2]) (n := 4) (Nat.le_of_ble_eq_true rfl)
  rw [lg_entry_eq]
  generalize (lg_sl ([.ref h_a0, .long p1, .int p2]) ++ List.replicate (4 - (lg_sl ([.ref h_a0, .long p1, .int p2])).length) Slot.unset).toArray = ls at hl ⊢
  have hl : lv_has ls 4 [(0, .ref h_a0), (1, .long p1), (3, .int p2)] := hl
  have h := hQ
  unfold wp_X8_next_c0 at h
  refine lv_lload_n hx hb dX8_next_0 rfl (lv_at hl 1 rfl) ?_
  have hPc := hP.sub (ws' := []) [] rfl
  have hDc := hD.sub (ws' := []) [] (by decide) rfl
  have hFc := va_free (wc := []) hD hS hA [] rfl
  refine va_calli (va_runS (As := [.long p1]) (rest := []) ⟨hx, hb, hml, hown, hts⟩ (c_X8_isInRange l dC dI cI cJ cZ _ p1 _ h) (va_cwS 1 hts gX8_next_X8_isInRange rfl rfl rfl (by decide +kernel) ⟨Nat.le_of_ble_eq_true rfl, Nat.le_of_ble_eq_true rfl⟩) ⟨pre_fb, pre_of hPc hDc hK hN⟩ rfl rfl hl.1 rfl (lv_room (Nat.le_of_ble_eq_true rfl)) dX8_next_1 ⟨by show _ ≤ mcP; omega, by show _ ≤ msP; omega⟩) hS (fun q _ h => hFc q h) hFc (fun r_1 u t H1 locs ht hvm h hB hz1 hk1 hS => ?_)
  obtain ⟨hP1, hD1⟩ := hB
  rw [ht] at hP1
  try dsimp only at h
  obtain ⟨hP, hD⟩ := va_join (wr := [(h_a0, .inr (7, [.null, w_a0_sieved, w_a0_parting, w_a0_primeSums, w_a0_progression, w_a0_rows]))]) (w1 := []) hP hD [] [0] rfl rfl (by decide) (by decide) hk1 hFc hP1 hD1
  generalize H1 = H at hP hS ⊢
  have hP : va_P (dC, dI) vwCl [(h_a0, .inr (7, [.null, w_a0_sieved, w_a0_parting, w_a0_primeSums, w_a0_progression, w_a0_rows]))] H := hP
  have hD : va_D A [(h_a0, .inr (7, [.null, w_a0_sieved, w_a0_parting, w_a0_primeSums, w_a0_progression, w_a0_rows]))] := hD
  refine lv_if_ne (tgt := 9) hx hb dX8_next_4 (by decide) (fun c_2 => ?_) (fun c_2 => ?_)
  · replace h := h.2 c_2
    refine lv_iload_n hx hb dX8_next_9 rfl (lv_at hl 2 rfl) ?_
    refine lv_if_eq (tgt := 24) hx hb dX8_next_10 (by decide) (fun c_3 => ?_) (fun c_3 => ?_)
    · replace h := h.1 c_3
      refine lv_aload_n hx hb dX8_next_24 rfl (lv_at hl 0 rfl) ?_
      have hPc := hP.sub (ws' := [(h_a0, .inr (7, [.null, w_a0_sieved, w_a0_parting, w_a0_primeSums, w_a0_progression, w_a0_rows]))]) [0] rfl
      have hDc := hD.sub (ws' := [(h_a0, .inr (7, [.null, w_a0_sieved, w_a0_parting, w_a0_primeSums, w_a0_progression, w_a0_rows]))]) [0] (by decide) rfl
      have hFc := va_free (wc := [(h_a0, .inr (7, [.null, w_a0_sieved, w_a0_parting, w_a0_primeSums, w_a0_progression, w_a0_rows]))]) hD hS hA [0] rfl
      obtain ⟨hm_6, hm_7, h⟩ := h
      refine va_callr (va_runV (As := []) (rest := []) ⟨hx, hb, hml, hown, hts⟩ (c_X8_knownPrimes_c0 l dC dI cI cJ cZ _ h_a0 (w_a0_sieved) (w_a0_parting) (w_a0_primeSums) (w_a0_progression) (w_a0_rows) _ h) (cwV 0 hts gX8_next_X8_knownPrimes rfl rfl rfl (by decide +kernel) ⟨Nat.le_of_ble_eq_true rfl, Nat.le_of_ble_eq_true rfl⟩) ⟨pre_fb, va_recv hK hPc (ci := 7) (q0 := 0) rfl rfl, pre_of hPc hDc hK hN⟩ rfl rfl hl.1 rfl (lv_room (Nat.le_of_ble_eq_true rfl)) dX8_next_25 ⟨hm_6, hm_7⟩) hS (fun q _ h => hFc q h) hFc (fun u ra t H1 locs ht hvm h hB hz1 hk1 hS => ?_)
      obtain ⟨q_8, q_9, o_4, o_5⟩ := u
      obtain ⟨hra, hP1, hD1⟩ := hB
      try dsimp only at hra
      subst ra
      rw [ht] at hP1
      try dsimp only at h
      obtain ⟨hP, hD⟩ := va_join (wr := []) (w1 := [(h_a0, .inr (7, [.ref q_8, w_a0_sieved, w_a0_parting, w_a0_primeSums, w_a0_progression, w_a0_rows])), (q_8, .inr (3, [.ref q_9, .int o_5])), (q_9, .inl (cI, 9592, .inl o_4))]) hP hD [0] [] rfl rfl (by decide) (by decide) hk1 hFc hP1 hD1
      generalize H1 = H at hP hS ⊢
      have hP : va_P (dC, dI) vwCl [(h_a0, .inr (7, [.ref q_8, w_a0_sieved, w_a0_parting, w_a0_primeSums, w_a0_progression, w_a0_rows])), (q_8, .inr (3, [.ref q_9, .int o_5])), (q_9, .inl (cI, 9592, .inl o_4))] H := hP
      have hD : va_D A [(h_a0, .inr (7, [.ref q_8, w_a0_sieved, w_a0_parting, w_a0_primeSums, w_a0_progression, w_a0_rows])), (q_8, .inr (3, [.ref q_9, .int o_5])), (q_9, .inl (cI, 9592, .inl o_4))] := hD
      refine W.widen (k := 4) (n := 11158) (by omega) (by omega) ?_
      refine lv_lload_n hx hb dX8_next_28 rfl (lv_at hl 1 rfl) ?_
      have hPc := hP.sub (ws' := [(q_8, .inr (3, [.ref q_9, .int o_5])), (q_9, .inl (cI, 9592, .inl o_4))]) [1, 2] rfl
      have hDc := hD.sub (ws' := [(q_8, .inr (3, [.ref q_9, .int o_5])), (q_9, .inl (cI, 9592, .inl o_4))]) [1, 2] (by decide) rfl
      have hFc := va_free (wc := [(q_8, .inr (3, [.ref q_9, .int o_5])), (q_9, .inl (cI, 9592, .inl o_4))]) hD hS hA [1, 2] rfl
      refine va_calll (va_runV (As := [.long p1]) (rest := []) ⟨hx, hb, hml, hown, hts⟩ (c_X3_primeAbove l dC dI cI cJ cZ _ q_8 o_4 q_9 o_5 p1 _ h) (cwV 1 hts gX8_next_X3_primeAbove rfl rfl rfl (by decide +kernel) ⟨Nat.le_of_ble_eq_true rfl, Nat.le_of_ble_eq_true rfl⟩) ⟨pre_fb, va_recv hK hPc (ci := 3) (q0 := 0) rfl rfl, pre_of hPc hDc hK hN⟩ rfl rfl hl.1 rfl (lv_room (Nat.le_of_ble_eq_true rfl)) dX8_next_29 ⟨by show _ ≤ mcP; omega, by show _ ≤ msP; omega⟩) hS (fun q _ h => hFc q h) hFc (fun r_10 u t H1 locs ht hvm h hB hz1 hk1 hS => ?_)
      obtain ⟨hP1, hD1⟩ := hB
      rw [ht] at hP1
      try dsimp only at h
      obtain ⟨hP, hD⟩ := va_join (wr := [(h_a0, .inr (7, [.ref q_8, w_a0_sieved, w_a0_parting, w_a0_primeSums, w_a0_progression, w_a0_rows]))]) (w1 := [(q_8, .inr (3, [.ref q_9, .int o_5])), (q_9, .inl (cI, 9592, .inl o_4))]) hP hD [1, 2] [0] rfl rfl (by decide) (by decide) hk1 hFc hP1 hD1
      generalize H1 = H at hP hS ⊢
      have hP : va_P (dC, dI) vwCl [(h_a0, .inr (7, [.ref q_8, w_a0_sieved, w_a0_parting, w_a0_primeSums, w_a0_progression, w_a0_rows])), (q_8, .inr (3, [.ref q_9, .int o_5])), (q_9, .inl (cI, 9592, .inl o_4))] H := hP
      have hD : va_D A [(h_a0, .inr (7, [.ref q_8, w_a0_sieved, w_a0_parting, w_a0_primeSums, w_a0_progression, w_a0_rows])), (q_8, .inr (3, [.ref q_9, .int o_5])), (q_9, .inl (cI, 9592, .inl o_4))] := hD
      have hP9 := hP.sub (ws' := [(h_a0, .inr (7, [.ref q_8, w_a0_sieved, w_a0_parting, w_a0_primeSums, w_a0_progression, w_a0_rows])), (q_8, .inr (3, [.ref q_9, .int o_5])), (q_9, .inl (cI, 9592, .inl o_4))]) [0, 1, 2] rfl
      have hD9 := hD.sub (ws' := [(h_a0, .inr (7, [.ref q_8, w_a0_sieved, w_a0_parting, w_a0_primeSums, w_a0_progression, w_a0_rows])), (q_8, .inr (3, [.ref q_9, .int o_5])), (q_9, .inl (cI, 9592, .inl o_4))]) [0, 1, 2] (by decide) rfl
      refine W.widen (k := mcP) (n := msP) (by first | omega | exact Nat.le_of_ble_eq_true rfl) (by first | omega | exact Nat.le_of_ble_eq_true rfl) ?_
      exact W.lret (v := r_10) hx hb hr (fun t ht hW => ⟨⟨_, some ((q_8, q_9), (o_4, o_5)), rfl, h, by rw [ht]; exact hP9, hD9⟩, hS.F ht⟩) hS.2.2 dX8_next_32
    · replace h := h.2 c_3
      refine lv_aload_n hx hb dX8_next_13 rfl (lv_at hl 0 rfl) ?_
      have hPc := hP.sub (ws' := [(h_a0, .inr (7, [.null, w_a0_sieved, w_a0_parting, w_a0_primeSums, w_a0_progression, w_a0_rows]))]) [0] rfl
      have hDc := hD.sub (ws' := [(h_a0, .inr (7, [.null, w_a0_sieved, w_a0_parting, w_a0_primeSums, w_a0_progression, w_a0_rows]))]) [0] (by decide) rfl
      have hFc := va_free (wc := [(h_a0, .inr (7, [.null, w_a0_sieved, w_a0_parting, w_a0_primeSums, w_a0_progression, w_a0_rows]))]) hD hS hA [0] rfl
      obtain ⟨hm_13, hm_14, h⟩ := h
      refine va_callr (va_runV (As := []) (rest := []) ⟨hx, hb, hml, hown, hts⟩ (c_X8_knownPrimes_c0 l dC dI cI cJ cZ _ h_a0 (w_a0_sieved) (w_a0_parting) (w_a0_primeSums) (w_a0_progression) (w_a0_rows) _ h) (cwV 0 hts gX8_next_X8_knownPrimes rfl rfl rfl (by decide +kernel) ⟨Nat.le_of_ble_eq_true rfl, Nat.le_of_ble_eq_true rfl⟩) ⟨pre_fb, va_recv hK hPc (ci := 7) (q0 := 0) rfl rfl, pre_of hPc hDc hK hN⟩ rfl rfl hl.1 rfl (lv_room (Nat.le_of_ble_eq_true rfl)) dX8_next_14 ⟨hm_13, hm_14⟩) hS (fun q _ h => hFc q h) hFc (fun u ra t H1 locs ht hvm h hB hz1 hk1 hS => ?_)
      obtain ⟨q_15, q_16, o_11, o_12⟩ := u
      obtain ⟨hra, hP1, hD1⟩ := hB
      try dsimp only at hra
      subst ra
      rw [ht] at hP1
      try dsimp only at h
      obtain ⟨hP, hD⟩ := va_join (wr := []) (w1 := [(h_a0, .inr (7, [.ref q_15, w_a0_sieved, w_a0_parting, w_a0_primeSums, w_a0_progression, w_a0_rows])), (q_15, .inr (3, [.ref q_16, .int o_12])), (q_16, .inl (cI, 9592, .inl o_11))]) hP hD [0] [] rfl rfl (by decide) (by decide) hk1 hFc hP1 hD1
      generalize H1 = H at hP hS ⊢
      have hP : va_P (dC, dI) vwCl [(h_a0, .inr (7, [.ref q_15, w_a0_sieved, w_a0_parting, w_a0_primeSums, w_a0_progression, w_a0_rows])), (q_15, .inr (3, [.ref q_16, .int o_12])), (q_16, .inl (cI, 9592, .inl o_11))] H := hP
      have hD : va_D A [(h_a0, .inr (7, [.ref q_15, w_a0_sieved, w_a0_parting, w_a0_primeSums, w_a0_progression, w_a0_rows])), (q_15, .inr (3, [.ref q_16, .int o_12])), (q_16, .inl (cI, 9592, .inl o_11))] := hD
      refine W.widen (k := 4) (n := 11158) (by omega) (by omega) ?_
      refine lv_lload_n hx hb dX8_next_17 rfl (lv_at hl 1 rfl) ?_
      have hPc := hP.sub (ws' := [(q_15, .inr (3, [.ref q_16, .int o_12])), (q_16, .inl (cI, 9592, .inl o_11))]) [1, 2] rfl
      have hDc := hD.sub (ws' := [(q_15, .inr (3, [.ref q_16, .int o_12])), (q_16, .inl (cI, 9592, .inl o_11))]) [1, 2] (by decide) rfl
      have hFc := va_free (wc := [(q_15, .inr (3, [.ref q_16, .int o_12])), (q_16, .inl (cI, 9592, .inl o_11))]) hD hS hA [1, 2] rfl
      refine va_calll (va_runV (As := [.long p1]) (rest := []) ⟨hx, hb, hml, hown, hts⟩ (c_X3_primeBelow l dC dI cI cJ cZ _ q_15 o_11 q_16 o_12 p1 _ h) (cwV 1 hts gX8_next_X3_primeBelow rfl rfl rfl (by decide +kernel) ⟨Nat.le_of_ble_eq_true rfl, Nat.le_of_ble_eq_true rfl⟩) ⟨pre_fb, va_recv hK hPc (ci := 3) (q0 := 0) rfl rfl, pre_of hPc hDc hK hN⟩ rfl rfl hl.1 rfl (lv_room (Nat.le_of_ble_eq_true rfl)) dX8_next_18 ⟨by show _ ≤ mcP; omega, by show _ ≤ msP; omega⟩) hS (fun q _ h => hFc q h) hFc (fun r_17 u t H1 locs ht hvm h hB hz1 hk1 hS => ?_)
      obtain ⟨hP1, hD1⟩ := hB
      rw [ht] at hP1
      try dsimp only at h
      obtain ⟨hP, hD⟩ := va_join (wr := [(h_a0, .inr (7, [.ref q_15, w_a0_sieved, w_a0_parting, w_a0_primeSums, w_a0_progression, w_a0_rows]))]) (w1 := [(q_15, .inr (3, [.ref q_16, .int o_12])), (q_16, .inl (cI, 9592, .inl o_11))]) hP hD [1, 2] [0] rfl rfl (by decide) (by decide) hk1 hFc hP1 hD1
      generalize H1 = H at hP hS ⊢
      have hP : va_P (dC, dI) vwCl [(h_a0, .inr (7, [.ref q_15, w_a0_sieved, w_a0_parting, w_a0_primeSums, w_a0_progression, w_a0_rows])), (q_15, .inr (3, [.ref q_16, .int o_12])), (q_16, .inl (cI, 9592, .inl o_11))] H := hP
      have hD : va_D A [(h_a0, .inr (7, [.ref q_15, w_a0_sieved, w_a0_parting, w_a0_primeSums, w_a0_progression, w_a0_rows])), (q_15, .inr (3, [.ref q_16, .int o_12])), (q_16, .inl (cI, 9592, .inl o_11))] := hD
      refine lv_goto (tgt := 32) hx hb dX8_next_21 (by decide) ?_
      have hP9 := hP.sub (ws' := [(h_a0, .inr (7, [.ref q_15, w_a0_sieved, w_a0_parting, w_a0_primeSums, w_a0_progression, w_a0_rows])), (q_15, .inr (3, [.ref q_16, .int o_12])), (q_16, .inl (cI, 9592, .inl o_11))]) [0, 1, 2] rfl
      have hD9 := hD.sub (ws' := [(h_a0, .inr (7, [.ref q_15, w_a0_sieved, w_a0_parting, w_a0_primeSums, w_a0_progression, w_a0_rows])), (q_15, .inr (3, [.ref q_16, .int o_12])), (q_16, .inl (cI, 9592, .inl o_11))]) [0, 1, 2] (by decide) rfl
      refine W.widen (k := mcP) (n := msP) (by first | omega | exact Nat.le_of_ble_eq_true rfl) (by first | omega | exact Nat.le_of_ble_eq_true rfl) ?_
      exact W.lret (v := r_17) hx hb hr (fun t ht hW => ⟨⟨_, some ((q_15, q_16), (o_11, o_12)), rfl, h, by rw [ht]; exact hP9, hD9⟩, hS.F ht⟩) hS.2.2 dX8_next_32
  · replace h := h.1 c_2
    refine lv_lconst (v := (0 : Int64)) hx hb dX8_next_7 (by decide) ?_
    have hP9 := hP.sub (ws' := [(h_a0, .inr (7, [.null, w_a0_sieved, w_a0_parting, w_a0_primeSums, w_a0_progression, w_a0_rows]))]) [0] rfl
    have hD9 := hD.sub (ws' := [(h_a0, .inr (7, [.null, w_a0_sieved, w_a0_parting, w_a0_primeSums, w_a0_progression, w_a0_rows]))]) [0] (by decide) rfl
    refine W.widen (k := mcP) (n := msP) (by first | omega | exact Nat.le_of_ble_eq_true rfl) (by first | omega | exact Nat.le_of_ble_eq_true rfl) ?_
    exact W.lret (v := (0 : Int64)) hx hb hr (fun t ht hW => ⟨⟨_, none, rfl, h, by rw [ht]; exact hP9, hD9⟩, hS.F ht⟩) hS.2.2 dX8_next_8
def wp_X8_next_c1 (a0_primes_table : Nat → Int32) (a0_primes_many : Int32) (p1 : Int64) (p2 : Int32) (Q : Int64 → Prop) : Prop :=
  wp_X8_isInRange p1 (fun r_1 => ((r_1 = (0 : Int32) → Q (0 : Int64)) ∧ (¬ r_1 = (0 : Int32) → ((p2 = (0 : Int32) → wp_X8_knownPrimes_c1 (wp_X3_primeAbove a0_primes_table a0_primes_many p1 (fun r_4 => Q r_4))) ∧ (¬ p2 = (0 : Int32) → wp_X8_knownPrimes_c1 (wp_X3_primeBelow a0_primes_table a0_primes_many p1 (fun r_5 => Q r_5)))))))
abbrev rm_X8_next_c1 : Room := { frames := 5, cells := 0, slots := 0, locals := 111 }
abbrev qc_X8_next_c1 (dC : Nat → ClassId) (dI : Nat → Nat → Nat) (cI cJ cZ : ClassId) (h_a0 : Nat) (h_a0_primes : Nat) (a0_primes_table : Nat → Int32) (q_a0_primes_table : Nat) (a0_primes_many : Int32) (w_a0_sieved : Value) (w_a0_parting : Value) (w_a0_primeSums : Value) (w_a0_progression : Value) (w_a0_rows : Value) (Q : Int64 → Prop) (A : Nat → Prop) : Array Value → State → Outcome → State → Prop := va_Ql (fun (r : Int64) (_ : Unit) => Q r) (post_ dC dI A (fun (u : Unit) => ([(h_a0, .inr (7, [.ref h_a0_primes, w_a0_sieved, w_a0_parting, w_a0_primeSums, w_a0_progression, w_a0_rows])), (h_a0_primes, .inr (3, [.ref q_a0_primes_table, .int a0_primes_many])), (q_a0_primes_table, .inl (cI, 9592, .inl a0_primes_table))] : va_W))) A
set_option maxHeartbeats 4000000 in
set_option maxRecDepth 100000 in
theorem c_X8_next_c1 (l : Launch) (dC : Nat → ClassId) (dI : Nat → Nat → Nat) (cI cJ cZ : ClassId) (sz : Nat) (h_a0 : Nat) (h_a0_primes : Nat) (a0_primes_table : Nat → Int32) (q_a0_primes_table : Nat) (a0_primes_many : Int32) (w_a0_sieved : Value) (w_a0_parting : Value) (w_a0_primeSums : Value) (w_a0_progression : Value) (w_a0_rows : Value) (p1 : Int64) (p2 : Int32) (Q : Int64 → Prop) (hQ : wp_X8_next_c1 a0_primes_table a0_primes_many p1 p2 Q) : Met l yX8_next wsX8_next rm_X8_next_c1 (pre_ dC dI cI cJ cZ [.ref h_a0, .long p1, .int p2] [(h_a0, .inr (7, [.ref h_a0_primes, w_a0_sieved, w_a0_parting, w_a0_primeSums, w_a0_progression, w_a0_rows])), (h_a0_primes, .inr (3, [.ref q_a0_primes_table, .int a0_primes_many])), (q_a0_primes_table, .inl (cI, 9592, .inl a0_primes_table))] sz) (qc_X8_next_c1 dC dI cI cJ cZ h_a0 h_a0_primes a0_primes_table q_a0_primes_table a0_primes_many w_a0_sieved w_a0_parting w_a0_primeSums w_a0_progression w_a0_rows Q (va_A [(h_a0, .inr (7, [.ref h_a0_primes, w_a0_sieved, w_a0_parting, w_a0_primeSums, w_a0_progression, w_a0_rows])), (h_a0_primes, .inr (3, [.ref q_a0_primes_table, .int a0_primes_many])), (q_a0_primes_table, .inl (cI, 9592, .inl a0_primes_table))] sz)) 0 0 (va_A [(h_a0, .inr (7, [.ref h_a0_primes, w_a0_sieved, w_a0_parting, w_a0_primeSums, w_a0_progression, w_a0_rows])), (h_a0_primes, .inr (3, [.ref q_a0_primes_table, .int a0_primes_many])), (q_a0_primes_table, .inl (cI, 9592, .inl a0_primes_table))] sz) := by
  refine Met.ofW (cc := cX8_next) (maxL := 4) (ret := (some .long)) (by decide) rfl ?_
  intro p e s m args below meth c s₁ B hml hv
  obtain ⟨rfl, hsz, hP, hK, hN, hD0⟩ := hv
  have hx := B.exec
  have hb := B.bytes
  have hr := B.returns
  have hts := atoms_spec (ws := wsX8_next) B.pre
  have hown : s.vm.findClass RX8 = some m.cls := findClass_of_methodNamed B.named
  subst hsz
  have hD := hD0.self (sz := s.heap.size)
  generalize hAe : va_A [(h_a0, .inr (7, [.ref h_a0_primes, w_a0_sieved, w_a0_parting, w_a0_primeSums, w_a0_progression, w_a0_rows])), (h_a0_primes, .inr (3, [.ref q_a0_primes_table, .int a0_primes_many])), (q_a0_primes_table, .inl (cI, 9592, .inl a0_primes_table))] s.heap.size = A at hD ⊢
  have hA : ∀ q : Nat, s.heap.size ≤ q → A q := fun q h => by rw [← hAe]; exact Or.inr h
  have hS : va_S A s.heap s.heap [] := va_S.rf
  have hl := lv_entry ([.ref h_a0, .long p1, .int p2]) (n := 4) (Nat.le_of_ble_eq_true rfl)
  rw [lg_entry_eq]
  generalize (lg_sl ([.ref h_a0, .long p1, .int p2]) ++ List.replicate (4 - (lg_sl ([.ref h_a0, .long p1, .int p2])).length) Slot.unset).toArray = ls at hl ⊢
  have hl : lv_has ls 4 [(0, .ref h_a0), (1, .long p1), (3, .int p2)] := hl
  have h := hQ
  unfold wp_X8_next_c1 at h
  refine lv_lload_n hx hb dX8_next_0 rfl (lv_at hl 1 rfl) ?_
  have hPc := hP.sub (ws' := []) [] rfl
  have hDc := hD.sub (ws' := []) [] (by decide) rfl
  have hFc := va_free (wc := []) hD hS hA [] rfl
  refine va_calli (va_runS (As := [.long p1]) (rest := []) ⟨hx, hb, hml, hown, hts⟩ (c_X8_isInRange l dC dI cI cJ cZ _ p1 _ h) (va_cwS 1 hts gX8_next_X8_isInRange rfl rfl rfl (by decide +kernel) ⟨Nat.le_of_ble_eq_true rfl, Nat.le_of_ble_eq_true rfl⟩) ⟨pre_fb, pre_of hPc hDc hK hN⟩ rfl rfl hl.1 rfl (lv_room (Nat.le_of_ble_eq_true rfl)) dX8_next_1 ⟨by first | exact Nat.le_of_ble_eq_true rfl | exact Nat.le_refl _, by first | exact Nat.le_of_ble_eq_true rfl | exact Nat.le_refl _⟩) hS (fun q _ h => hFc q h) hFc (fun r_1 u t H1 locs ht hvm h hB hz1 hk1 hS => ?_)
  obtain ⟨hP1, hD1⟩ := hB
  rw [ht] at hP1
  try dsimp only at h
  obtain ⟨hP, hD⟩ := va_join (wr := [(h_a0, .inr (7, [.ref h_a0_primes, w_a0_sieved, w_a0_parting, w_a0_primeSums, w_a0_progression, w_a0_rows])), (h_a0_primes, .inr (3, [.ref q_a0_primes_table, .int a0_primes_many])), (q_a0_primes_table, .inl (cI, 9592, .inl a0_primes_table))]) (w1 := []) hP hD [] [0, 1, 2] rfl rfl (by decide) (by decide) hk1 hFc hP1 hD1
  generalize H1 = H at hP hS ⊢
  have hP : va_P (dC, dI) vwCl [(h_a0, .inr (7, [.ref h_a0_primes, w_a0_sieved, w_a0_parting, w_a0_primeSums, w_a0_progression, w_a0_rows])), (h_a0_primes, .inr (3, [.ref q_a0_primes_table, .int a0_primes_many])), (q_a0_primes_table, .inl (cI, 9592, .inl a0_primes_table))] H := hP
  have hD : va_D A [(h_a0, .inr (7, [.ref h_a0_primes, w_a0_sieved, w_a0_parting, w_a0_primeSums, w_a0_progression, w_a0_rows])), (h_a0_primes, .inr (3, [.ref q_a0_primes_table, .int a0_primes_many])), (q_a0_primes_table, .inl (cI, 9592, .inl a0_primes_table))] := hD
  refine lv_if_ne (tgt := 9) hx hb dX8_next_4 (by decide) (fun c_2 => ?_) (fun c_2 => ?_)
  · replace h := h.2 c_2
    refine lv_iload_n hx hb dX8_next_9 rfl (lv_at hl 2 rfl) ?_
    refine lv_if_eq (tgt := 24) hx hb dX8_next_10 (by decide) (fun c_3 => ?_) (fun c_3 => ?_)
    · replace h := h.1 c_3
      refine lv_aload_n hx hb dX8_next_24 rfl (lv_at hl 0 rfl) ?_
      have hPc := hP.sub (ws' := [(h_a0, .inr (7, [.ref h_a0_primes, w_a0_sieved, w_a0_parting, w_a0_primeSums, w_a0_progression, w_a0_rows])), (h_a0_primes, .inr (3, [.ref q_a0_primes_table, .int a0_primes_many])), (q_a0_primes_table, .inl (cI, 9592, .inl a0_primes_table))]) [0, 1, 2] rfl
      have hDc := hD.sub (ws' := [(h_a0, .inr (7, [.ref h_a0_primes, w_a0_sieved, w_a0_parting, w_a0_primeSums, w_a0_progression, w_a0_rows])), (h_a0_primes, .inr (3, [.ref q_a0_primes_table, .int a0_primes_many])), (q_a0_primes_table, .inl (cI, 9592, .inl a0_primes_table))]) [0, 1, 2] (by decide) rfl
      have hFc := va_free (wc := [(h_a0, .inr (7, [.ref h_a0_primes, w_a0_sieved, w_a0_parting, w_a0_primeSums, w_a0_progression, w_a0_rows])), (h_a0_primes, .inr (3, [.ref q_a0_primes_table, .int a0_primes_many])), (q_a0_primes_table, .inl (cI, 9592, .inl a0_primes_table))]) hD hS hA [0, 1, 2] rfl
      refine va_callr (va_runV (As := []) (rest := []) ⟨hx, hb, hml, hown, hts⟩ (c_X8_knownPrimes_c1 l dC dI cI cJ cZ _ h_a0 h_a0_primes a0_primes_table q_a0_primes_table a0_primes_many (w_a0_sieved) (w_a0_parting) (w_a0_primeSums) (w_a0_progression) (w_a0_rows) _ h) (cwV 0 hts gX8_next_X8_knownPrimes rfl rfl rfl (by decide +kernel) ⟨Nat.le_of_ble_eq_true rfl, Nat.le_of_ble_eq_true rfl⟩) ⟨pre_fb, va_recv hK hPc (ci := 7) (q0 := 0) rfl rfl, pre_of hPc hDc hK hN⟩ rfl rfl hl.1 rfl (lv_room (Nat.le_of_ble_eq_true rfl)) dX8_next_25 ⟨by first | exact Nat.le_of_ble_eq_true rfl | exact Nat.le_refl _, by first | exact Nat.le_of_ble_eq_true rfl | exact Nat.le_refl _⟩) hS (fun q _ h => hFc q h) hFc (fun u ra t H1 locs ht hvm h hB hz1 hk1 hS => ?_)
      obtain ⟨hra, hP1, hD1⟩ := hB
      try dsimp only at hra
      subst ra
      rw [ht] at hP1
      try dsimp only at h
      obtain ⟨hP, hD⟩ := va_join (wr := []) (w1 := [(h_a0, .inr (7, [.ref h_a0_primes, w_a0_sieved, w_a0_parting, w_a0_primeSums, w_a0_progression, w_a0_rows])), (h_a0_primes, .inr (3, [.ref q_a0_primes_table, .int a0_primes_many])), (q_a0_primes_table, .inl (cI, 9592, .inl a0_primes_table))]) hP hD [0, 1, 2] [] rfl rfl (by decide) (by decide) hk1 hFc hP1 hD1
      generalize H1 = H at hP hS ⊢
      have hP : va_P (dC, dI) vwCl [(h_a0, .inr (7, [.ref h_a0_primes, w_a0_sieved, w_a0_parting, w_a0_primeSums, w_a0_progression, w_a0_rows])), (h_a0_primes, .inr (3, [.ref q_a0_primes_table, .int a0_primes_many])), (q_a0_primes_table, .inl (cI, 9592, .inl a0_primes_table))] H := hP
      have hD : va_D A [(h_a0, .inr (7, [.ref h_a0_primes, w_a0_sieved, w_a0_parting, w_a0_primeSums, w_a0_progression, w_a0_rows])), (h_a0_primes, .inr (3, [.ref q_a0_primes_table, .int a0_primes_many])), (q_a0_primes_table, .inl (cI, 9592, .inl a0_primes_table))] := hD
      refine lv_lload_n hx hb dX8_next_28 rfl (lv_at hl 1 rfl) ?_
      have hPc := hP.sub (ws' := [(h_a0_primes, .inr (3, [.ref q_a0_primes_table, .int a0_primes_many])), (q_a0_primes_table, .inl (cI, 9592, .inl a0_primes_table))]) [1, 2] rfl
      have hDc := hD.sub (ws' := [(h_a0_primes, .inr (3, [.ref q_a0_primes_table, .int a0_primes_many])), (q_a0_primes_table, .inl (cI, 9592, .inl a0_primes_table))]) [1, 2] (by decide) rfl
      have hFc := va_free (wc := [(h_a0_primes, .inr (3, [.ref q_a0_primes_table, .int a0_primes_many])), (q_a0_primes_table, .inl (cI, 9592, .inl a0_primes_table))]) hD hS hA [1, 2] rfl
      refine va_calll (va_runV (As := [.long p1]) (rest := []) ⟨hx, hb, hml, hown, hts⟩ (c_X3_primeAbove l dC dI cI cJ cZ _ h_a0_primes a0_primes_table q_a0_primes_table a0_primes_many p1 _ h) (cwV 1 hts gX8_next_X3_primeAbove rfl rfl rfl (by decide +kernel) ⟨Nat.le_of_ble_eq_true rfl, Nat.le_of_ble_eq_true rfl⟩) ⟨pre_fb, va_recv hK hPc (ci := 3) (q0 := 0) rfl rfl, pre_of hPc hDc hK hN⟩ rfl rfl hl.1 rfl (lv_room (Nat.le_of_ble_eq_true rfl)) dX8_next_29 ⟨by first | exact Nat.le_of_ble_eq_true rfl | exact Nat.le_refl _, by first | exact Nat.le_of_ble_eq_true rfl | exact Nat.le_refl _⟩) hS (fun q _ h => hFc q h) hFc (fun r_4 u t H1 locs ht hvm h hB hz1 hk1 hS => ?_)
      obtain ⟨hP1, hD1⟩ := hB
      rw [ht] at hP1
      try dsimp only at h
      obtain ⟨hP, hD⟩ := va_join (wr := [(h_a0, .inr (7, [.ref h_a0_primes, w_a0_sieved, w_a0_parting, w_a0_primeSums, w_a0_progression, w_a0_rows]))]) (w1 := [(h_a0_primes, .inr (3, [.ref q_a0_primes_table, .int a0_primes_many])), (q_a0_primes_table, .inl (cI, 9592, .inl a0_primes_table))]) hP hD [1, 2] [0] rfl rfl (by decide) (by decide) hk1 hFc hP1 hD1
      generalize H1 = H at hP hS ⊢
      have hP : va_P (dC, dI) vwCl [(h_a0, .inr (7, [.ref h_a0_primes, w_a0_sieved, w_a0_parting, w_a0_primeSums, w_a0_progression, w_a0_rows])), (h_a0_primes, .inr (3, [.ref q_a0_primes_table, .int a0_primes_many])), (q_a0_primes_table, .inl (cI, 9592, .inl a0_primes_table))] H := hP
      have hD : va_D A [(h_a0, .inr (7, [.ref h_a0_primes, w_a0_sieved, w_a0_parting, w_a0_primeSums, w_a0_progression, w_a0_rows])), (h_a0_primes, .inr (3, [.ref q_a0_primes_table, .int a0_primes_many])), (q_a0_primes_table, .inl (cI, 9592, .inl a0_primes_table))] := hD
      have hP9 := hP.sub (ws' := [(h_a0, .inr (7, [.ref h_a0_primes, w_a0_sieved, w_a0_parting, w_a0_primeSums, w_a0_progression, w_a0_rows])), (h_a0_primes, .inr (3, [.ref q_a0_primes_table, .int a0_primes_many])), (q_a0_primes_table, .inl (cI, 9592, .inl a0_primes_table))]) [0, 1, 2] rfl
      have hD9 := hD.sub (ws' := [(h_a0, .inr (7, [.ref h_a0_primes, w_a0_sieved, w_a0_parting, w_a0_primeSums, w_a0_progression, w_a0_rows])), (h_a0_primes, .inr (3, [.ref q_a0_primes_table, .int a0_primes_many])), (q_a0_primes_table, .inl (cI, 9592, .inl a0_primes_table))]) [0, 1, 2] (by decide) rfl
      exact W.lret (v := r_4) hx hb hr (fun t ht hW => ⟨⟨_, (), rfl, h, by rw [ht]; exact hP9, hD9⟩, hS.F ht⟩) hS.2.2 dX8_next_32
    · replace h := h.2 c_3
      refine lv_aload_n hx hb dX8_next_13 rfl (lv_at hl 0 rfl) ?_
      have hPc := hP.sub (ws' := [(h_a0, .inr (7, [.ref h_a0_primes, w_a0_sieved, w_a0_parting, w_a0_primeSums, w_a0_progression, w_a0_rows])), (h_a0_primes, .inr (3, [.ref q_a0_primes_table, .int a0_primes_many])), (q_a0_primes_table, .inl (cI, 9592, .inl a0_primes_table))]) [0, 1, 2] rfl
      have hDc := hD.sub (ws' := [(h_a0, .inr (7, [.ref h_a0_primes, w_a0_sieved, w_a0_parting, w_a0_primeSums, w_a0_progression, w_a0_rows])), (h_a0_primes, .inr (3, [.ref q_a0_primes_table, .int a0_primes_many])), (q_a0_primes_table, .inl (cI, 9592, .inl a0_primes_table))]) [0, 1, 2] (by decide) rfl
      have hFc := va_free (wc := [(h_a0, .inr (7, [.ref h_a0_primes, w_a0_sieved, w_a0_parting, w_a0_primeSums, w_a0_progression, w_a0_rows])), (h_a0_primes, .inr (3, [.ref q_a0_primes_table, .int a0_primes_many])), (q_a0_primes_table, .inl (cI, 9592, .inl a0_primes_table))]) hD hS hA [0, 1, 2] rfl
      refine va_callr (va_runV (As := []) (rest := []) ⟨hx, hb, hml, hown, hts⟩ (c_X8_knownPrimes_c1 l dC dI cI cJ cZ _ h_a0 h_a0_primes a0_primes_table q_a0_primes_table a0_primes_many (w_a0_sieved) (w_a0_parting) (w_a0_primeSums) (w_a0_progression) (w_a0_rows) _ h) (cwV 0 hts gX8_next_X8_knownPrimes rfl rfl rfl (by decide +kernel) ⟨Nat.le_of_ble_eq_true rfl, Nat.le_of_ble_eq_true rfl⟩) ⟨pre_fb, va_recv hK hPc (ci := 7) (q0 := 0) rfl rfl, pre_of hPc hDc hK hN⟩ rfl rfl hl.1 rfl (lv_room (Nat.le_of_ble_eq_true rfl)) dX8_next_14 ⟨by first | exact Nat.le_of_ble_eq_true rfl | exact Nat.le_refl _, by first | exact Nat.le_of_ble_eq_true rfl | exact Nat.le_refl _⟩) hS (fun q _ h => hFc q h) hFc (fun u ra t H1 locs ht hvm h hB hz1 hk1 hS => ?_)
      obtain ⟨hra, hP1, hD1⟩ := hB
      try dsimp only at hra
      subst ra
      rw [ht] at hP1
      try dsimp only at h
      obtain ⟨hP, hD⟩ := va_join (wr := []) (w1 := [(h_a0, .inr (7, [.ref h_a0_primes, w_a0_sieved, w_a0_parting, w_a0_primeSums, w_a0_progression, w_a0_rows])), (h_a0_primes, .inr (3, [.ref q_a0_primes_table, .int a0_primes_many])), (q_a0_primes_table, .inl (cI, 9592, .inl a0_primes_table))]) hP hD [0, 1, 2] [] rfl rfl (by decide) (by decide) hk1 hFc hP1 hD1
      generalize H1 = H at hP hS ⊢
      have hP : va_P (dC, dI) vwCl [(h_a0, .inr (7, [.ref h_a0_primes, w_a0_sieved, w_a0_parting, w_a0_primeSums, w_a0_progression, w_a0_rows])), (h_a0_primes, .inr (3, [.ref q_a0_primes_table, .int a0_primes_many])), (q_a0_primes_table, .inl (cI, 9592, .inl a0_primes_table))] H := hP
      have hD : va_D A [(h_a0, .inr (7, [.ref h_a0_primes, w_a0_sieved, w_a0_parting, w_a0_primeSums, w_a0_progression, w_a0_rows])), (h_a0_primes, .inr (3, [.ref q_a0_primes_table, .int a0_primes_many])), (q_a0_primes_table, .inl (cI, 9592, .inl a0_primes_table))] := hD
      refine lv_lload_n hx hb dX8_next_17 rfl (lv_at hl 1 rfl) ?_
      have hPc := hP.sub (ws' := [(h_a0_primes, .inr (3, [.ref q_a0_primes_table, .int a0_primes_many])), (q_a0_primes_table, .inl (cI, 9592, .inl a0_primes_table))]) [1, 2] rfl
      have hDc := hD.sub (ws' := [(h_a0_primes, .inr (3, [.ref q_a0_primes_table, .int a0_primes_many])), (q_a0_primes_table, .inl (cI, 9592, .inl a0_primes_table))]) [1, 2] (by decide) rfl
      have hFc := va_free (wc := [(h_a0_primes, .inr (3, [.ref q_a0_primes_table, .int a0_primes_many])), (q_a0_primes_table, .inl (cI, 9592, .inl a0_primes_table))]) hD hS hA [1, 2] rfl
      refine va_calll (va_runV (As := [.long p1]) (rest := []) ⟨hx, hb, hml, hown, hts⟩ (c_X3_primeBelow l dC dI cI cJ cZ _ h_a0_primes a0_primes_table q_a0_primes_table a0_primes_many p1 _ h) (cwV 1 hts gX8_next_X3_primeBelow rfl rfl rfl (by decide +kernel) ⟨Nat.le_of_ble_eq_true rfl, Nat.le_of_ble_eq_true rfl⟩) ⟨pre_fb, va_recv hK hPc (ci := 3) (q0 := 0) rfl rfl, pre_of hPc hDc hK hN⟩ rfl rfl hl.1 rfl (lv_room (Nat.le_of_ble_eq_true rfl)) dX8_next_18 ⟨by first | exact Nat.le_of_ble_eq_true rfl | exact Nat.le_refl _, by first | exact Nat.le_of_ble_eq_true rfl | exact Nat.le_refl _⟩) hS (fun q _ h => hFc q h) hFc (fun r_5 u t H1 locs ht hvm h hB hz1 hk1 hS => ?_)
      obtain ⟨hP1, hD1⟩ := hB
      rw [ht] at hP1
      try dsimp only at h
      obtain ⟨hP, hD⟩ := va_join (wr := [(h_a0, .inr (7, [.ref h_a0_primes, w_a0_sieved, w_a0_parting, w_a0_primeSums, w_a0_progression, w_a0_rows]))]) (w1 := [(h_a0_primes, .inr (3, [.ref q_a0_primes_table, .int a0_primes_many])), (q_a0_primes_table, .inl (cI, 9592, .inl a0_primes_table))]) hP hD [1, 2] [0] rfl rfl (by decide) (by decide) hk1 hFc hP1 hD1
      generalize H1 = H at hP hS ⊢
      have hP : va_P (dC, dI) vwCl [(h_a0, .inr (7, [.ref h_a0_primes, w_a0_sieved, w_a0_parting, w_a0_primeSums, w_a0_progression, w_a0_rows])), (h_a0_primes, .inr (3, [.ref q_a0_primes_table, .int a0_primes_many])), (q_a0_primes_table, .inl (cI, 9592, .inl a0_primes_table))] H := hP
      have hD : va_D A [(h_a0, .inr (7, [.ref h_a0_primes, w_a0_sieved, w_a0_parting, w_a0_primeSums, w_a0_progression, w_a0_rows])), (h_a0_primes, .inr (3, [.ref q_a0_primes_table, .int a0_primes_many])), (q_a0_primes_table, .inl (cI, 9592, .inl a0_primes_table))] := hD
      refine lv_goto (tgt := 32) hx hb dX8_next_21 (by decide) ?_
      have hP9 := hP.sub (ws' := [(h_a0, .inr (7, [.ref h_a0_primes, w_a0_sieved, w_a0_parting, w_a0_primeSums, w_a0_progression, w_a0_rows])), (h_a0_primes, .inr (3, [.ref q_a0_primes_table, .int a0_primes_many])), (q_a0_primes_table, .inl (cI, 9592, .inl a0_primes_table))]) [0, 1, 2] rfl
      have hD9 := hD.sub (ws' := [(h_a0, .inr (7, [.ref h_a0_primes, w_a0_sieved, w_a0_parting, w_a0_primeSums, w_a0_progression, w_a0_rows])), (h_a0_primes, .inr (3, [.ref q_a0_primes_table, .int a0_primes_many])), (q_a0_primes_table, .inl (cI, 9592, .inl a0_primes_table))]) [0, 1, 2] (by decide) rfl
      exact W.lret (v := r_5) hx hb hr (fun t ht hW => ⟨⟨_, (), rfl, h, by rw [ht]; exact hP9, hD9⟩, hS.F ht⟩) hS.2.2 dX8_next_32
  · replace h := h.1 c_2
    refine lv_lconst (v := (0 : Int64)) hx hb dX8_next_7 (by decide) ?_
    have hP9 := hP.sub (ws' := [(h_a0, .inr (7, [.ref h_a0_primes, w_a0_sieved, w_a0_parting, w_a0_primeSums, w_a0_progression, w_a0_rows])), (h_a0_primes, .inr (3, [.ref q_a0_primes_table, .int a0_primes_many])), (q_a0_primes_table, .inl (cI, 9592, .inl a0_primes_table))]) [0, 1, 2] rfl
    have hD9 := hD.sub (ws' := [(h_a0, .inr (7, [.ref h_a0_primes, w_a0_sieved, w_a0_parting, w_a0_primeSums, w_a0_progression, w_a0_rows])), (h_a0_primes, .inr (3, [.ref q_a0_primes_table, .int a0_primes_many])), (q_a0_primes_table, .inl (cI, 9592, .inl a0_primes_table))]) [0, 1, 2] (by decide) rfl
    exact W.lret (v := (0 : Int64)) hx hb hr (fun t ht hW => ⟨⟨_, (), rfl, h, by rw [ht]; exact hP9, hD9⟩, hS.F ht⟩) hS.2.2 dX8_next_8
def wp_X8_part_c00 (mcP msP : Nat)  (p1 : Int64) (Q : Int32 → Option ((Nat → Int32) × Int32) → Option ((Nat → Int64) × (Nat → Int32) × Int64 × Int32) → Prop) : Prop :=
  wp_X8_isInRange p1 (fun r_1 => ((r_1 = (0 : Int32) → Q (-1 : Int32) none none) ∧ (¬ r_1 = (0 : Int32) → (1 ≤ mcP ∧ 4 ≤ msP ∧ (3 ≤ mcP ∧ 24 ≤ msP ∧ wp_X1_init (fun o_6 o_7 o_8 o_9 => (7 ≤ mcP ∧ 11182 ≤ msP ∧ wp_X8_knownPrimes_c0 (fun o_14 o_15 => wp_X1_take o_6 o_7 o_8 o_9 o_14 o_15 p1 (fun o_20 o_21 o_22 o_23 => Q o_21 (some (o_14, o_15)) (some (o_22, o_23, o_20, o_21)))))))))))
abbrev rm_X8_part_c00 (mcP msP : Nat) : Room := { frames := 5, cells := mcP, slots := msP, locals := 111 }
abbrev qc_X8_part_c00 (dC : Nat → ClassId) (dI : Nat → Nat → Nat) (cI cJ cZ : ClassId) (h_a0 : Nat) (w_a0_sieved : Value) (w_a0_primeSums : Value) (w_a0_progression : Value) (w_a0_rows : Value) (Q : Int32 → Option ((Nat → Int32) × Int32) → Option ((Nat → Int64) × (Nat → Int32) × Int64 × Int32) → Prop) (A : Nat → Prop) : Array Value → State → Outcome → State → Prop := va_Qi (fun (r : Int32) (u : Option ((Nat × Nat) × ((Nat → Int32) × Int32)) × Option ((Nat × Nat × Nat) × ((Nat → Int64) × (Nat → Int32) × Int64 × Int32))) => Q r (u.1.map Prod.snd) (u.2.map Prod.snd)) (post_ dC dI A (fun (u : Option ((Nat × Nat) × ((Nat → Int32) × Int32)) × Option ((Nat × Nat × Nat) × ((Nat → Int64) × (Nat → Int32) × Int64 × Int32))) => ([(h_a0, .inr (7, [(match u.1 with | none => Value.null | some w => Value.ref w.1.1), w_a0_sieved, (match u.2 with | none => Value.null | some w => Value.ref w.1.1), w_a0_primeSums, w_a0_progression, w_a0_rows]))] : va_W) ++ (match u.1 with | none => ([] : va_W) | some w => [(w.1.1, .inr (3, [.ref w.1.2, .int w.2.2])), (w.1.2, .inl (cI, 9592, .inl (w.2.1)))]) ++ (match u.2 with | none => ([] : va_W) | some w => [(w.1.1, .inr (1, [.ref w.1.2.1, .ref w.1.2.2, .long w.2.2.2.1, .int w.2.2.2.2])), (w.1.2.1, .inl (cJ, 10, .inr (.inl (w.2.1)))), (w.1.2.2, .inl (cI, 10, .inl (w.2.2.1)))]))) A
set_option maxHeartbeats 4000000 in
set_option maxRecDepth 100000 in
theorem c_X8_part_c00 (l : Launch) (dC : Nat → ClassId) (dI : Nat → Nat → Nat) (cI cJ cZ : ClassId) (sz : Nat) (mcP msP : Nat) (h_a0 : Nat) (w_a0_sieved : Value) (w_a0_primeSums : Value) (w_a0_progression : Value) (w_a0_rows : Value) (p1 : Int64) (Q : Int32 → Option ((Nat → Int32) × Int32) → Option ((Nat → Int64) × (Nat → Int32) × Int64 × Int32) → Prop) (hQ : wp_X8_part_c00 mcP msP p1 Q) : Met l yX8_part wsX8_part (rm_X8_part_c00 mcP msP) (pre_ dC dI cI cJ cZ [.ref h_a0, .long p1] [(h_a0, .inr (7, [.null, w_a0_sieved, .null, w_a0_primeSums, w_a0_progression, w_a0_rows]))] sz) (qc_X8_part_c00 dC dI cI cJ cZ h_a0 w_a0_sieved w_a0_primeSums w_a0_progression w_a0_rows Q (va_A [(h_a0, .inr (7, [.null, w_a0_sieved, .null, w_a0_primeSums, w_a0_progression, w_a0_rows]))] sz)) mcP msP (va_A [(h_a0, .inr (7, [.null, w_a0_sieved, .null, w_a0_primeSums, w_a0_progression, w_a0_rows]))] sz) := by
  refine Met.ofW (cc := cX8_part) (maxL := 3) (ret := (some .int)) (by decide) rfl ?_
  intro p e s m args below meth c s₁ B hml hv
  obtain ⟨rfl, hsz, hP, hK, hN, hD0⟩ := hv
  have hx := B.exec
  have hb := B.bytes
  have hr := B.returns
  have hts := atoms_spec (ws := wsX8_part) B.pre
  have hown : s.vm.findClass RX8 = some m.cls := findClass_of_methodNamed B.named
  subst hsz
  have hD := hD0.self (sz := s.heap.size)
  generalize hAe : va_A [(h_a0, .inr (7, [.null, w_a0_sieved, .null, w_a0_primeSums, w_a0_progression, w_a0_rows]))] s.heap.size = A at hD ⊢
  have hA : ∀ q : Nat, s.heap.size ≤ q → A q := fun q h => by rw [← hAe]; exact Or.inr h
  have hS : va_S A s.heap s.heap [] := va_S.rf
  have hl := lv_entry ([.ref h_a0, .long p1]) (n := 3) (Nat.le_of_ble_eq_true rfl)
  rw [lg_entry_eq]
  generalize (lg_sl ([.ref h_a0, .long p1]) ++ List.replicate (3 - (lg_sl ([.ref h_a0, .long p1])).length) Slot.unset).toArray = ls at hl ⊢
  have hl : lv_has ls 3 [(0, .ref h_a0), (1, .long p1)] := hl
  have h := hQ
  unfold wp_X8_part_c00 at h
  have hw_0 := hts (.fieldLink RX8 69 "NumberSieves" "parting" "LNumberSieves$Parting;") (by decide +kernel)
  have hin_X8 : ∀ w ∈ wsX80, w ∈ wsX8_part := by decide +kernel
  have hin_X1 : ∀ w ∈ wsX10, w ∈ wsX8_part := by decide +kernel
  have hw_3 := hts (.classLink RX8 73 RX1) (by decide +kernel)
  have hw_4 := hts (.instantiable RX1 4) (by decide +kernel)
  have hw_5 := hts (.initialized RX1) (by decide +kernel)
  have hw_6 := hts (.methodLink RX8 75 yX1_init) (by decide +kernel)
  have hw_7 := hts (.instanceMethod yX1_init) (by decide +kernel)
  refine lv_lload_n hx hb dX8_part_0 rfl (lv_at hl 1 rfl) ?_
  have hPc := hP.sub (ws' := []) [] rfl
  have hDc := hD.sub (ws' := []) [] (by decide) rfl
  have hFc := va_free (wc := []) hD hS hA [] rfl
  refine va_calli (va_runS (As := [.long p1]) (rest := []) ⟨hx, hb, hml, hown, hts⟩ (c_X8_isInRange l dC dI cI cJ cZ _ p1 _ h) (va_cwS 1 hts gX8_part_X8_isInRange rfl rfl rfl (by decide +kernel) ⟨Nat.le_of_ble_eq_true rfl, Nat.le_of_ble_eq_true rfl⟩) ⟨pre_fb, pre_of hPc hDc hK hN⟩ rfl rfl hl.1 rfl (lv_room (Nat.le_of_ble_eq_true rfl)) dX8_part_1 ⟨by show _ ≤ mcP; omega, by show _ ≤ msP; omega⟩) hS (fun q _ h => hFc q h) hFc (fun r_1 u t H1 locs ht hvm h hB hz1 hk1 hS => ?_)
  obtain ⟨hP1, hD1⟩ := hB
  rw [ht] at hP1
  try dsimp only at h
  obtain ⟨hP, hD⟩ := va_join (wr := [(h_a0, .inr (7, [.null, w_a0_sieved, .null, w_a0_primeSums, w_a0_progression, w_a0_rows]))]) (w1 := []) hP hD [] [0] rfl rfl (by decide) (by decide) hk1 hFc hP1 hD1
  generalize H1 = H at hP hS ⊢
  have hP : va_P (dC, dI) vwCl [(h_a0, .inr (7, [.null, w_a0_sieved, .null, w_a0_primeSums, w_a0_progression, w_a0_rows]))] H := hP
  have hD : va_D A [(h_a0, .inr (7, [.null, w_a0_sieved, .null, w_a0_primeSums, w_a0_progression, w_a0_rows]))] := hD
  refine lv_if_ne (tgt := 9) hx hb dX8_part_4 (by decide) (fun c_2 => ?_) (fun c_2 => ?_)
  · replace h := h.2 c_2
    refine lv_aload_n hx hb dX8_part_9 rfl (lv_at hl 0 rfl) ?_
    refine va_get (D := (dC, dI)) (ci := 7) (v := .null) (C := RX8) (T := TX8) (N := 6) hx hb hts hin_X8 hown hK hP 0 rfl rfl 2 (by decide) hw_0 (fun _ h9 => h9) rfl dX8_part_10 ?_
    refine lv_ifnonnullN hx hb dX8_part_13 ?_
    refine lv_aload_n hx hb dX8_part_16 rfl (lv_at hl 0 rfl) ?_
    obtain ⟨hm_4, hm_5, h⟩ := h
    refine va_new (ci := 1) (fs := [.null, .null, .long (0 : Int64), .int (0 : Int32)]) (C := RX1) (T := TX1) (N := 4) hx hb hts hin_X1 tyX1 tyX1_ok hown hw_3 hw_4 hw_5 hK hP hD hS hA rfl (by decide +kernel) hm_4 hm_5 dX8_part_17 (fun q_3 H hP hD hS => ?_)
    have hP : va_P (dC, dI) vwCl [(h_a0, .inr (7, [.null, w_a0_sieved, .null, w_a0_primeSums, w_a0_progression, w_a0_rows])), (q_3, .inr (1, [.null, .null, .long (0 : Int64), .int (0 : Int32)]))] H := hP
    have hD : va_D A [(h_a0, .inr (7, [.null, w_a0_sieved, .null, w_a0_primeSums, w_a0_progression, w_a0_rows])), (q_3, .inr (1, [.null, .null, .long (0 : Int64), .int (0 : Int32)]))] := hD
    refine W.widen (k := 1) (n := 4) (by omega) (by omega) ?_
    refine lv_dup hx hb dX8_part_20 rfl ?_
    have hPc := hP.sub (ws' := [(q_3, .inr (1, [.null, .null, .long (0 : Int64), .int (0 : Int32)]))]) [1] rfl
    have hDc := hD.sub (ws' := [(q_3, .inr (1, [.null, .null, .long (0 : Int64), .int (0 : Int32)]))]) [1] (by decide) rfl
    have hFc := va_free (wc := [(q_3, .inr (1, [.null, .null, .long (0 : Int64), .int (0 : Int32)]))]) hD hS hA [1] rfl
    obtain ⟨hm_10, hm_11, h⟩ := h
    refine va_callv (va_runI (As := []) (rest := [.ref q_3, .ref h_a0]) ⟨hx, hb, hml, hown, hts⟩ (c_X1_init l dC dI cI cJ cZ _ q_3 _ h) (cwI 0 hts gX8_part_X1_init rfl rfl rfl hw_5 hw_6 hw_7 rfl (by decide +kernel) ⟨Nat.le_of_ble_eq_true rfl, Nat.le_of_ble_eq_true rfl⟩) ⟨pre_fb, pre_of hPc hDc hK hN⟩ rfl rfl hl.1 rfl (lv_room (Nat.le_of_ble_eq_true rfl)) dX8_part_21 ⟨hm_10, hm_11⟩) hS (fun q _ h => hFc q h) hFc (fun u t H1 locs ht hvm h hB hz1 hk1 hS => ?_)
    obtain ⟨q_12, q_13, o_6, o_7, o_8, o_9⟩ := u
    obtain ⟨hP1, hD1⟩ := hB
    rw [ht] at hP1
    try dsimp only at h
    obtain ⟨hP, hD⟩ := va_join (wr := [(h_a0, .inr (7, [.null, w_a0_sieved, .null, w_a0_primeSums, w_a0_progression, w_a0_rows]))]) (w1 := [(q_3, .inr (1, [.ref q_12, .ref q_13, .long o_8, .int o_9])), (q_12, .inl (cJ, 10, .inr (.inl o_6))), (q_13, .inl (cI, 10, .inl o_7))]) hP hD [1] [0] rfl rfl (by decide) (by decide) hk1 hFc hP1 hD1
    generalize H1 = H at hP hS ⊢
    have hP : va_P (dC, dI) vwCl [(h_a0, .inr (7, [.null, w_a0_sieved, .null, w_a0_primeSums, w_a0_progression, w_a0_rows])), (q_3, .inr (1, [.ref q_12, .ref q_13, .long o_8, .int o_9])), (q_12, .inl (cJ, 10, .inr (.inl o_6))), (q_13, .inl (cI, 10, .inl o_7))] H := hP
    have hD : va_D A [(h_a0, .inr (7, [.null, w_a0_sieved, .null, w_a0_primeSums, w_a0_progression, w_a0_rows])), (q_3, .inr (1, [.ref q_12, .ref q_13, .long o_8, .int o_9])), (q_12, .inl (cJ, 10, .inr (.inl o_6))), (q_13, .inl (cI, 10, .inl o_7))] := hD
    refine W.widen (k := 3) (n := 24) (by omega) (by omega) ?_
    refine va_put (D := (dC, dI)) (ci := 7) (v := .ref q_3) (ty := .object "NumberSieves$Parting") (C := RX8) (T := TX8) (N := 6) hx hb hts hin_X8 tyX8 tyX8_ok nmX8 hown hK hP hD hS 0 rfl rfl 2 (by decide) hw_0 (fun _ h9 => h9) rfl (by decide +kernel) rfl rfl (Nat.le_of_ble_eq_true rfl) dX8_part_24 (fun H locs hP hD hS => ?_)
    have hP : va_P (dC, dI) vwCl [(h_a0, .inr (7, [.null, w_a0_sieved, .ref q_3, w_a0_primeSums, w_a0_progression, w_a0_rows])), (q_3, .inr (1, [.ref q_12, .ref q_13, .long o_8, .int o_9])), (q_12, .inl (cJ, 10, .inr (.inl o_6))), (q_13, .inl (cI, 10, .inl o_7))] H := hP
    have hD : va_D A [(h_a0, .inr (7, [.null, w_a0_sieved, .ref q_3, w_a0_primeSums, w_a0_progression, w_a0_rows])), (q_3, .inr (1, [.ref q_12, .ref q_13, .long o_8, .int o_9])), (q_12, .inl (cJ, 10, .inr (.inl o_6))), (q_13, .inl (cI, 10, .inl o_7))] := hD
    refine lv_aload_n hx hb dX8_part_27 rfl (lv_at hl 0 rfl) ?_
    refine va_get (D := (dC, dI)) (ci := 7) (v := .ref q_3) (C := RX8) (T := TX8) (N := 6) hx hb hts hin_X8 hown hK hP 0 rfl rfl 2 (by decide) hw_0 (fun _ h9 => h9) rfl dX8_part_28 ?_
    refine lv_lload_n hx hb dX8_part_31 rfl (lv_at hl 1 rfl) ?_
    refine lv_aload_n hx hb dX8_part_32 rfl (lv_at hl 0 rfl) ?_
    have hPc := hP.sub (ws' := [(h_a0, .inr (7, [.null, w_a0_sieved, .ref q_3, w_a0_primeSums, w_a0_progression, w_a0_rows]))]) [0] rfl
    have hDc := hD.sub (ws' := [(h_a0, .inr (7, [.null, w_a0_sieved, .ref q_3, w_a0_primeSums, w_a0_progression, w_a0_rows]))]) [0] (by decide) rfl
    have hFc := va_free (wc := [(h_a0, .inr (7, [.null, w_a0_sieved, .ref q_3, w_a0_primeSums, w_a0_progression, w_a0_rows]))]) hD hS hA [0] rfl
    obtain ⟨hm_16, hm_17, h⟩ := h
    refine va_callr (va_runV (As := []) (rest := [.long p1, .ref q_3]) ⟨hx, hb, hml, hown, hts⟩ (c_X8_knownPrimes_c0 l dC dI cI cJ cZ _ h_a0 (w_a0_sieved) (.ref q_3) (w_a0_primeSums) (w_a0_progression) (w_a0_rows) _ h) (cwV 0 hts gX8_part_X8_knownPrimes rfl rfl rfl (by decide +kernel) ⟨Nat.le_of_ble_eq_true rfl, Nat.le_of_ble_eq_true rfl⟩) ⟨pre_fb, va_recv hK hPc (ci := 7) (q0 := 0) rfl rfl, pre_of hPc hDc hK hN⟩ rfl rfl hl.1 rfl (lv_room (Nat.le_of_ble_eq_true rfl)) dX8_part_33 ⟨hm_16, hm_17⟩) hS (fun q _ h => hFc q h) hFc (fun u ra t H1 locs ht hvm h hB hz1 hk1 hS => ?_)
    obtain ⟨q_18, q_19, o_14, o_15⟩ := u
    obtain ⟨hra, hP1, hD1⟩ := hB
    try dsimp only at hra
    subst ra
    rw [ht] at hP1
    try dsimp only at h
    obtain ⟨hP, hD⟩ := va_join (wr := [(q_3, .inr (1, [.ref q_12, .ref q_13, .long o_8, .int o_9])), (q_12, .inl (cJ, 10, .inr (.inl o_6))), (q_13, .inl (cI, 10, .inl o_7))]) (w1 := [(h_a0, .inr (7, [.ref q_18, w_a0_sieved, .ref q_3, w_a0_primeSums, w_a0_progression, w_a0_rows])), (q_18, .inr (3, [.ref q_19, .int o_15])), (q_19, .inl (cI, 9592, .inl o_14))]) hP hD [0] [1, 2, 3] rfl rfl (by decide) (by decide) hk1 hFc hP1 hD1
    generalize H1 = H at hP hS ⊢
    have hP : va_P (dC, dI) vwCl [(q_3, .inr (1, [.ref q_12, .ref q_13, .long o_8, .int o_9])), (q_12, .inl (cJ, 10, .inr (.inl o_6))), (q_13, .inl (cI, 10, .inl o_7)), (h_a0, .inr (7, [.ref q_18, w_a0_sieved, .ref q_3, w_a0_primeSums, w_a0_progression, w_a0_rows])), (q_18, .inr (3, [.ref q_19, .int o_15])), (q_19, .inl (cI, 9592, .inl o_14))] H := hP
    have hD : va_D A [(q_3, .inr (1, [.ref q_12, .ref q_13, .long o_8, .int o_9])), (q_12, .inl (cJ, 10, .inr (.inl o_6))), (q_13, .inl (cI, 10, .inl o_7)), (h_a0, .inr (7, [.ref q_18, w_a0_sieved, .ref q_3, w_a0_primeSums, w_a0_progression, w_a0_rows])), (q_18, .inr (3, [.ref q_19, .int o_15])), (q_19, .inl (cI, 9592, .inl o_14))] := hD
    refine W.widen (k := 7) (n := 11182) (by omega) (by omega) ?_
    have hPc := hP.sub (ws' := [(q_3, .inr (1, [.ref q_12, .ref q_13, .long o_8, .int o_9])), (q_12, .inl (cJ, 10, .inr (.inl o_6))), (q_13, .inl (cI, 10, .inl o_7)), (q_18, .inr (3, [.ref q_19, .int o_15])), (q_19, .inl (cI, 9592, .inl o_14))]) [0, 1, 2, 4, 5] rfl
    have hDc := hD.sub (ws' := [(q_3, .inr (1, [.ref q_12, .ref q_13, .long o_8, .int o_9])), (q_12, .inl (cJ, 10, .inr (.inl o_6))), (q_13, .inl (cI, 10, .inl o_7)), (q_18, .inr (3, [.ref q_19, .int o_15])), (q_19, .inl (cI, 9592, .inl o_14))]) [0, 1, 2, 4, 5] (by decide) rfl
    have hFc := va_free (wc := [(q_3, .inr (1, [.ref q_12, .ref q_13, .long o_8, .int o_9])), (q_12, .inl (cJ, 10, .inr (.inl o_6))), (q_13, .inl (cI, 10, .inl o_7)), (q_18, .inr (3, [.ref q_19, .int o_15])), (q_19, .inl (cI, 9592, .inl o_14))]) hD hS hA [0, 1, 2, 4, 5] rfl
    refine va_callv (va_runV (As := [.long p1, .ref q_18]) (rest := []) ⟨hx, hb, hml, hown, hts⟩ (c_X1_take l dC dI cI cJ cZ _ q_3 o_6 q_12 o_7 q_13 o_8 o_9 q_18 o_14 q_19 o_15 p1 _ h) (cwV 2 hts gX8_part_X1_take rfl rfl rfl (by decide +kernel) ⟨Nat.le_of_ble_eq_true rfl, Nat.le_of_ble_eq_true rfl⟩) ⟨pre_fb, va_recv hK hPc (ci := 1) (q0 := 0) rfl rfl, pre_of hPc hDc hK hN⟩ rfl rfl hl.1 rfl (lv_room (Nat.le_of_ble_eq_true rfl)) dX8_part_36 ⟨by show _ ≤ mcP; omega, by show _ ≤ msP; omega⟩) hS (fun q _ h => hFc q h) hFc (fun u t H1 locs ht hvm h hB hz1 hk1 hS => ?_)
    obtain ⟨o_20, o_21, o_22, o_23⟩ := u
    obtain ⟨hP1, hD1⟩ := hB
    rw [ht] at hP1
    try dsimp only at h
    obtain ⟨hP, hD⟩ := va_join (wr := [(h_a0, .inr (7, [.ref q_18, w_a0_sieved, .ref q_3, w_a0_primeSums, w_a0_progression, w_a0_rows]))]) (w1 := [(q_3, .inr (1, [.ref q_12, .ref q_13, .long o_20, .int o_21])), (q_12, .inl (cJ, 10, .inr (.inl o_22))), (q_13, .inl (cI, 10, .inl o_23)), (q_18, .inr (3, [.ref q_19, .int o_15])), (q_19, .inl (cI, 9592, .inl o_14))]) hP hD [0, 1, 2, 4, 5] [3] rfl rfl (by decide) (by decide) hk1 hFc hP1 hD1
    generalize H1 = H at hP hS ⊢
    have hP : va_P (dC, dI) vwCl [(h_a0, .inr (7, [.ref q_18, w_a0_sieved, .ref q_3, w_a0_primeSums, w_a0_progression, w_a0_rows])), (q_3, .inr (1, [.ref q_12, .ref q_13, .long o_20, .int o_21])), (q_12, .inl (cJ, 10, .inr (.inl o_22))), (q_13, .inl (cI, 10, .inl o_23)), (q_18, .inr (3, [.ref q_19, .int o_15])), (q_19, .inl (cI, 9592, .inl o_14))] H := hP
    have hD : va_D A [(h_a0, .inr (7, [.ref q_18, w_a0_sieved, .ref q_3, w_a0_primeSums, w_a0_progression, w_a0_rows])), (q_3, .inr (1, [.ref q_12, .ref q_13, .long o_20, .int o_21])), (q_12, .inl (cJ, 10, .inr (.inl o_22))), (q_13, .inl (cI, 10, .inl o_23)), (q_18, .inr (3, [.ref q_19, .int o_15])), (q_19, .inl (cI, 9592, .inl o_14))] := hD
    refine lv_aload_n hx hb dX8_part_39 rfl (lv_at hl 0 rfl) ?_
    refine va_get (D := (dC, dI)) (ci := 7) (v := .ref q_3) (C := RX8) (T := TX8) (N := 6) hx hb hts hin_X8 hown hK hP 0 rfl rfl 2 (by decide) hw_0 (fun _ h9 => h9) rfl dX8_part_40 ?_
    refine va_getN (D := (dC, dI)) (ci := 1) (v := .int o_21) (C := RX1) (T := TX1) (N := 4) hx hb hts hin_X1 hown hK hP 1 rfl rfl 3 (by decide) (nw_9 hN) (fun _ h9 => h9) rfl dX8_part_43 ?_
    have hP9 := hP.sub (ws' := [(h_a0, .inr (7, [.ref q_18, w_a0_sieved, .ref q_3, w_a0_primeSums, w_a0_progression, w_a0_rows])), (q_18, .inr (3, [.ref q_19, .int o_15])), (q_19, .inl (cI, 9592, .inl o_14)), (q_3, .inr (1, [.ref q_12, .ref q_13, .long o_20, .int o_21])), (q_12, .inl (cJ, 10, .inr (.inl o_22))), (q_13, .inl (cI, 10, .inl o_23))]) [0, 4, 5, 1, 2, 3] rfl
    have hD9 := hD.sub (ws' := [(h_a0, .inr (7, [.ref q_18, w_a0_sieved, .ref q_3, w_a0_primeSums, w_a0_progression, w_a0_rows])), (q_18, .inr (3, [.ref q_19, .int o_15])), (q_19, .inl (cI, 9592, .inl o_14)), (q_3, .inr (1, [.ref q_12, .ref q_13, .long o_20, .int o_21])), (q_12, .inl (cJ, 10, .inr (.inl o_22))), (q_13, .inl (cI, 10, .inl o_23))]) [0, 4, 5, 1, 2, 3] (by decide) rfl
    refine W.widen (k := mcP) (n := msP) (by first | omega | exact Nat.le_of_ble_eq_true rfl) (by first | omega | exact Nat.le_of_ble_eq_true rfl) ?_
    exact W.iret (v := o_21) hx hb hr (fun t ht hW => ⟨⟨_, (some ((q_18, q_19), (o_14, o_15)), some ((q_3, q_12, q_13), (o_22, o_23, o_20, o_21))), rfl, h, by rw [ht]; exact hP9, hD9⟩, hS.F ht⟩) hS.2.2 dX8_part_46
  · replace h := h.1 c_2
    refine lv_iconst (v := (-1 : Int32)) hx hb dX8_part_7 (by decide) ?_
    have hP9 := hP.sub (ws' := [(h_a0, .inr (7, [.null, w_a0_sieved, .null, w_a0_primeSums, w_a0_progression, w_a0_rows]))]) [0] rfl
    have hD9 := hD.sub (ws' := [(h_a0, .inr (7, [.null, w_a0_sieved, .null, w_a0_primeSums, w_a0_progression, w_a0_rows]))]) [0] (by decide) rfl
    refine W.widen (k := mcP) (n := msP) (by first | omega | exact Nat.le_of_ble_eq_true rfl) (by first | omega | exact Nat.le_of_ble_eq_true rfl) ?_
    exact W.iret (v := (-1 : Int32)) hx hb hr (fun t ht hW => ⟨⟨_, (none, none), rfl, h, by rw [ht]; exact hP9, hD9⟩, hS.F ht⟩) hS.2.2 dX8_part_8
def wp_X8_part_c01 (mcP msP : Nat) (a0_parting_factors : Nat → Int64) (a0_parting_powers : Nat → Int32) (a0_parting_number : Int64) (a0_parting_many : Int32) (p1 : Int64) (Q : Int32 → Int64 → Int32 → (Nat → Int64) → (Nat → Int32) → Option ((Nat → Int32) × Int32) → Prop) : Prop :=
  wp_X8_isInRange p1 (fun r_1 => ((r_1 = (0 : Int32) → Q (-1 : Int32) a0_parting_number a0_parting_many a0_parting_factors a0_parting_powers none) ∧ (¬ r_1 = (0 : Int32) → (4 ≤ mcP ∧ 11158 ≤ msP ∧ wp_X8_knownPrimes_c0 (fun o_3 o_4 => wp_X1_take a0_parting_factors a0_parting_powers a0_parting_number a0_parting_many o_3 o_4 p1 (fun o_9 o_10 o_11 o_12 => Q o_10 o_9 o_10 o_11 o_12 (some (o_3, o_4))))))))
abbrev rm_X8_part_c01 (mcP msP : Nat) : Room := { frames := 5, cells := mcP, slots := msP, locals := 111 }
abbrev qc_X8_part_c01 (dC : Nat → ClassId) (dI : Nat → Nat → Nat) (cI cJ cZ : ClassId) (h_a0 : Nat) (w_a0_sieved : Value) (h_a0_parting : Nat) (a0_parting_factors : Nat → Int64) (q_a0_parting_factors : Nat) (a0_parting_powers : Nat → Int32) (q_a0_parting_powers : Nat) (a0_parting_number : Int64) (a0_parting_many : Int32) (w_a0_primeSums : Value) (w_a0_progression : Value) (w_a0_rows : Value) (Q : Int32 → Int64 → Int32 → (Nat → Int64) → (Nat → Int32) → Option ((Nat → Int32) × Int32) → Prop) (A : Nat → Prop) : Array Value → State → Outcome → State → Prop := va_Qi (fun (r : Int32) (u : Int64 × Int32 × (Nat → Int64) × (Nat → Int32) × Option ((Nat × Nat) × ((Nat → Int32) × Int32))) => Q r u.1 u.2.1 u.2.2.1 u.2.2.2.1 (u.2.2.2.2.map Prod.snd)) (post_ dC dI A (fun (u : Int64 × Int32 × (Nat → Int64) × (Nat → Int32) × Option ((Nat × Nat) × ((Nat → Int32) × Int32))) => ([(h_a0, .inr (7, [(match u.2.2.2.2 with | none => Value.null | some w => Value.ref w.1.1), w_a0_sieved, .ref h_a0_parting, w_a0_primeSums, w_a0_progression, w_a0_rows])), (h_a0_parting, .inr (1, [.ref q_a0_parting_factors, .ref q_a0_parting_powers, .long u.1, .int u.2.1])), (q_a0_parting_factors, .inl (cJ, 10, .inr (.inl (u.2.2.1)))), (q_a0_parting_powers, .inl (cI, 10, .inl (u.2.2.2.1)))] : va_W) ++ (match u.2.2.2.2 with | none => ([] : va_W) | some w => [(w.1.1, .inr (3, [.ref w.1.2, .int w.2.2])), (w.1.2, .inl (cI, 9592, .inl (w.2.1)))]))) A
set_option maxHeartbeats 4000000 in
set_option maxRecDepth 100000 in
theorem c_X8_part_c01 (l : Launch) (dC : Nat → ClassId) (dI : Nat → Nat → Nat) (cI cJ cZ : ClassId) (sz : Nat) (mcP msP : Nat) (h_a0 : Nat) (w_a0_sieved : Value) (h_a0_parting : Nat) (a0_parting_factors : Nat → Int64) (q_a0_parting_factors : Nat) (a0_parting_powers : Nat → Int32) (q_a0_parting_powers : Nat) (a0_parting_number : Int64) (a0_parting_many : Int32) (w_a0_primeSums : Value) (w_a0_progression : Value) (w_a0_rows : Value) (p1 : Int64) (Q : Int32 → Int64 → Int32 → (Nat → Int64) → (Nat → Int32) → Option ((Nat → Int32) × Int32) → Prop) (hQ : wp_X8_part_c01 mcP msP a0_parting_factors a0_parting_powers a0_parting_number a0_parting_many p1 Q) : Met l yX8_part wsX8_part (rm_X8_part_c01 mcP msP) (pre_ dC dI cI cJ cZ [.ref h_a0, .long p1] [(h_a0, .inr (7, [.null, w_a0_sieved, .ref h_a0_parting, w_a0_primeSums, w_a0_progression, w_a0_rows])), (h_a0_parting, .inr (1, [.ref q_a0_parting_factors, .ref q_a0_parting_powers, .long a0_parting_number, .int a0_parting_many])), (q_a0_parting_factors, .inl (cJ, 10, .inr (.inl a0_parting_factors))), (q_a0_parting_powers, .inl (cI, 10, .inl a0_parting_powers))] sz) (qc_X8_part_c01 dC dI cI cJ cZ h_a0 w_a0_sieved h_a0_parting a0_parting_factors q_a0_parting_factors a0_parting_powers q_a0_parting_powers a0_parting_number a0_parting_many w_a0_primeSums w_a0_progression w_a0_rows Q (va_A [(h_a0, .inr (7, [.null, w_a0_sieved, .ref h_a0_parting, w_a0_primeSums, w_a0_progression, w_a0_rows])), (h_a0_parting, .inr (1, [.ref q_a0_parting_factors, .ref q_a0_parting_powers, .long a0_parting_number, .int a0_parting_many])), (q_a0_parting_factors, .inl (cJ, 10, .inr (.inl a0_parting_factors))), (q_a0_parting_powers, .inl (cI, 10, .inl a0_parting_powers))] sz)) mcP msP (va_A [(h_a0, .inr (7, [.null, w_a0_sieved, .ref h_a0_parting, w_a0_primeSums, w_a0_progression, w_a0_rows])), (h_a0_parting, .inr (1, [.ref q_a0_parting_factors, .ref q_a0_parting_powers, .long a0_parting_number, .int a0_parting_many])), (q_a0_parting_factors, .inl (cJ, 10, .inr (.inl a0_parting_factors))), (q_a0_parting_powers, .inl (cI, 10, .inl a0_parting_powers))] sz) := by
  refine Met.ofW (cc := cX8_part) (maxL := 3) (ret := (some .int)) (by decide) rfl ?_
  intro p e s m args below meth c s₁ B hml hv
  obtain ⟨rfl, hsz, hP, hK, hN, hD0⟩ := hv
  have hx := B.exec
  have hb := B.bytes
  have hr := B.returns
  have hts := atoms_spec (ws := wsX8_part) B.pre
  have hown : s.vm.findClass RX8 = some m.cls := findClass_of_methodNamed B.named
  subst hsz
  have hD := hD0.self (sz := s.heap.size)
  generalize hAe : va_A [(h_a0, .inr (7, [.null, w_a0_sieved, .ref h_a0_parting, w_a0_primeSums, w_a0_progression, w_a0_rows])), (h_a0_parting, .inr (1, [.ref q_a0_parting_factors, .ref q_a0_parting_powers, .long a0_parting_number, .int a0_parting_many])), (q_a0_parting_factors, .inl (cJ, 10, .inr (.inl a0_parting_factors))), (q_a0_parting_powers, .inl (cI, 10, .inl a0_parting_powers))] s.heap.size = A at hD ⊢
  have hA : ∀ q : Nat, s.heap.size ≤ q → A q := fun q h => by rw [← hAe]; exact Or.inr h
  have hS : va_S A s.heap s.heap [] := va_S.rf
  have hl := lv_entry ([.ref h_a0, .long p1]) (n := 3) (Nat.le_of_ble_eq_true rfl)
  rw [lg_entry_eq]
  generalize (lg_sl ([.ref h_a0, .long p1]) ++ List.replicate (3 - (lg_sl ([.ref h_a0, .long p1])).length) Slot.unset).toArray = ls at hl ⊢
  have hl : lv_has ls 3 [(0, .ref h_a0), (1, .long p1)] := hl
  have h := hQ
  unfold wp_X8_part_c01 at h
  have hw_0 := hts (.fieldLink RX8 69 "NumberSieves" "parting" "LNumberSieves$Parting;") (by decide +kernel)
  have hin_X8 : ∀ w ∈ wsX80, w ∈ wsX8_part := by decide +kernel
  have hin_X1 : ∀ w ∈ wsX10, w ∈ wsX8_part := by decide +kernel
  refine lv_lload_n hx hb dX8_part_0 rfl (lv_at hl 1 rfl) ?_
  have hPc := hP.sub (ws' := []) [] rfl
  have hDc := hD.sub (ws' := []) [] (by decide) rfl
  have hFc := va_free (wc := []) hD hS hA [] rfl
  refine va_calli (va_runS (As := [.long p1]) (rest := []) ⟨hx, hb, hml, hown, hts⟩ (c_X8_isInRange l dC dI cI cJ cZ _ p1 _ h) (va_cwS 1 hts gX8_part_X8_isInRange rfl rfl rfl (by decide +kernel) ⟨Nat.le_of_ble_eq_true rfl, Nat.le_of_ble_eq_true rfl⟩) ⟨pre_fb, pre_of hPc hDc hK hN⟩ rfl rfl hl.1 rfl (lv_room (Nat.le_of_ble_eq_true rfl)) dX8_part_1 ⟨by show _ ≤ mcP; omega, by show _ ≤ msP; omega⟩) hS (fun q _ h => hFc q h) hFc (fun r_1 u t H1 locs ht hvm h hB hz1 hk1 hS => ?_)
  obtain ⟨hP1, hD1⟩ := hB
  rw [ht] at hP1
  try dsimp only at h
  obtain ⟨hP, hD⟩ := va_join (wr := [(h_a0, .inr (7, [.null, w_a0_sieved, .ref h_a0_parting, w_a0_primeSums, w_a0_progression, w_a0_rows])), (h_a0_parting, .inr (1, [.ref q_a0_parting_factors, .ref q_a0_parting_powers, .long a0_parting_number, .int a0_parting_many])), (q_a0_parting_factors, .inl (cJ, 10, .inr (.inl a0_parting_factors))), (q_a0_parting_powers, .inl (cI, 10, .inl a0_parting_powers))]) (w1 := []) hP hD [] [0, 1, 2, 3] rfl rfl (by decide) (by decide) hk1 hFc hP1 hD1
  generalize H1 = H at hP hS ⊢
  have hP : va_P (dC, dI) vwCl [(h_a0, .inr (7, [.null, w_a0_sieved, .ref h_a0_parting, w_a0_primeSums, w_a0_progression, w_a0_rows])), (h_a0_parting, .inr (1, [.ref q_a0_parting_factors, .ref q_a0_parting_powers, .long a0_parting_number, .int a0_parting_many])), (q_a0_parting_factors, .inl (cJ, 10, .inr (.inl a0_parting_factors))), (q_a0_parting_powers, .inl (cI, 10, .inl a0_parting_powers))] H := hP
  have hD : va_D A [(h_a0, .inr (7, [.null, w_a0_sieved, .ref h_a0_parting, w_a0_primeSums, w_a0_progression, w_a0_rows])), (h_a0_parting, .inr (1, [.ref q_a0_parting_factors, .ref q_a0_parting_powers, .long a0_parting_number, .int a0_parting_many])), (q_a0_parting_factors, .inl (cJ, 10, .inr (.inl a0_parting_factors))), (q_a0_parting_powers, .inl (cI, 10, .inl a0_parting_powers))] := hD
  refine lv_if_ne (tgt := 9) hx hb dX8_part_4 (by decide) (fun c_2 => ?_) (fun c_2 => ?_)
  · replace h := h.2 c_2
    refine lv_aload_n hx hb dX8_part_9 rfl (lv_at hl 0 rfl) ?_
    refine va_get (D := (dC, dI)) (ci := 7) (v := .ref h_a0_parting) (C := RX8) (T := TX8) (N := 6) hx hb hts hin_X8 hown hK hP 0 rfl rfl 2 (by decide) hw_0 (fun _ h9 => h9) rfl dX8_part_10 ?_
    refine lv_ifnonnull (tgt := 27) hx hb dX8_part_13 (by decide) ?_
    refine lv_aload_n hx hb dX8_part_27 rfl (lv_at hl 0 rfl) ?_
    refine va_get (D := (dC, dI)) (ci := 7) (v := .ref h_a0_parting) (C := RX8) (T := TX8) (N := 6) hx hb hts hin_X8 hown hK hP 0 rfl rfl 2 (by decide) hw_0 (fun _ h9 => h9) rfl dX8_part_28 ?_
    refine lv_lload_n hx hb dX8_part_31 rfl (lv_at hl 1 rfl) ?_
    refine lv_aload_n hx hb dX8_part_32 rfl (lv_at hl 0 rfl) ?_
    have hPc := hP.sub (ws' := [(h_a0, .inr (7, [.null, w_a0_sieved, .ref h_a0_parting, w_a0_primeSums, w_a0_progression, w_a0_rows]))]) [0] rfl
    have hDc := hD.sub (ws' := [(h_a0, .inr (7, [.null, w_a0_sieved, .ref h_a0_parting, w_a0_primeSums, w_a0_progression, w_a0_rows]))]) [0] (by decide) rfl
    have hFc := va_free (wc := [(h_a0, .inr (7, [.null, w_a0_sieved, .ref h_a0_parting, w_a0_primeSums, w_a0_progression, w_a0_rows]))]) hD hS hA [0] rfl
    obtain ⟨hm_5, hm_6, h⟩ := h
    refine va_callr (va_runV (As := []) (rest := [.long p1, .ref h_a0_parting]) ⟨hx, hb, hml, hown, hts⟩ (c_X8_knownPrimes_c0 l dC dI cI cJ cZ _ h_a0 (w_a0_sieved) (.ref h_a0_parting) (w_a0_primeSums) (w_a0_progression) (w_a0_rows) _ h) (cwV 0 hts gX8_part_X8_knownPrimes rfl rfl rfl (by decide +kernel) ⟨Nat.le_of_ble_eq_true rfl, Nat.le_of_ble_eq_true rfl⟩) ⟨pre_fb, va_recv hK hPc (ci := 7) (q0 := 0) rfl rfl, pre_of hPc hDc hK hN⟩ rfl rfl hl.1 rfl (lv_room (Nat.le_of_ble_eq_true rfl)) dX8_part_33 ⟨hm_5, hm_6⟩) hS (fun q _ h => hFc q h) hFc (fun u ra t H1 locs ht hvm h hB hz1 hk1 hS => ?_)
    obtain ⟨q_7, q_8, o_3, o_4⟩ := u
    obtain ⟨hra, hP1, hD1⟩ := hB
    try dsimp only at hra
    subst ra
    rw [ht] at hP1
    try dsimp only at h
    obtain ⟨hP, hD⟩ := va_join (wr := [(h_a0_parting, .inr (1, [.ref q_a0_parting_factors, .ref q_a0_parting_powers, .long a0_parting_number, .int a0_parting_many])), (q_a0_parting_factors, .inl (cJ, 10, .inr (.inl a0_parting_factors))), (q_a0_parting_powers, .inl (cI, 10, .inl a0_parting_powers))]) (w1 := [(h_a0, .inr (7, [.ref q_7, w_a0_sieved, .ref h_a0_parting, w_a0_primeSums, w_a0_progression, w_a0_rows])), (q_7, .inr (3, [.ref q_8, .int o_4])), (q_8, .inl (cI, 9592, .inl o_3))]) hP hD [0] [1, 2, 3] rfl rfl (by decide) (by decide) hk1 hFc hP1 hD1
    generalize H1 = H at hP hS ⊢
    have hP : va_P (dC, dI) vwCl [(h_a0_parting, .inr (1, [.ref q_a0_parting_factors, .ref q_a0_parting_powers, .long a0_parting_number, .int a0_parting_many])), (q_a0_parting_factors, .inl (cJ, 10, .inr (.inl a0_parting_factors))), (q_a0_parting_powers, .inl (cI, 10, .inl a0_parting_powers)), (h_a0, .inr (7, [.ref q_7, w_a0_sieved, .ref h_a0_parting, w_a0_primeSums, w_a0_progression, w_a0_rows])), (q_7, .inr (3, [.ref q_8, .int o_4])), (q_8, .inl (cI, 9592, .inl o_3))] H := hP
    have hD : va_D A [(h_a0_parting, .inr (1, [.ref q_a0_parting_factors, .ref q_a0_parting_powers, .long a0_parting_number, .int a0_parting_many])), (q_a0_parting_factors, .inl (cJ, 10, .inr (.inl a0_parting_factors))), (q_a0_parting_powers, .inl (cI, 10, .inl a0_parting_powers)), (h_a0, .inr (7, [.ref q_7, w_a0_sieved, .ref h_a0_parting, w_a0_primeSums, w_a0_progression, w_a0_rows])), (q_7, .inr (3, [.ref q_8, .int o_4])), (q_8, .inl (cI, 9592, .inl o_3))] := hD
    refine W.widen (k := 4) (n := 11158) (by omega) (by omega) ?_
    have hPc := hP.sub (ws' := [(h_a0_parting, .inr (1, [.ref q_a0_parting_factors, .ref q_a0_parting_powers, .long a0_parting_number, .int a0_parting_many])), (q_a0_parting_factors, .inl (cJ, 10, .inr (.inl a0_parting_factors))), (q_a0_parting_powers, .inl (cI, 10, .inl a0_parting_powers)), (q_7, .inr (3, [.ref q_8, .int o_4])), (q_8, .inl (cI, 9592, .inl o_3))]) [0, 1, 2, 4, 5] rfl
    have hDc := hD.sub (ws' := [(h_a0_parting, .inr (1, [.ref q_a0_parting_factors, .ref q_a0_parting_powers, .long a0_parting_number, .int a0_parting_many])), (q_a0_parting_factors, .inl (cJ, 10, .inr (.inl a0_parting_factors))), (q_a0_parting_powers, .inl (cI, 10, .inl a0_parting_powers)), (q_7, .inr (3, [.ref q_8, .int o_4])), (q_8, .inl (cI, 9592, .inl o_3))]) [0, 1, 2, 4, 5] (by decide) rfl
    have hFc := va_free (wc := [(h_a0_parting, .inr (1, [.ref q_a0_parting_factors, .ref q_a0_parting_powers, .long a0_parting_number, .int a0_parting_many])), (q_a0_parting_factors, .inl (cJ, 10, .inr (.inl a0_parting_factors))), (q_a0_parting_powers, .inl (cI, 10, .inl a0_parting_powers)), (q_7, .inr (3, [.ref q_8, .int o_4])), (q_8, .inl (cI, 9592, .inl o_3))]) hD hS hA [0, 1, 2, 4, 5] rfl
    refine va_callv (va_runV (As := [.long p1, .ref q_7]) (rest := []) ⟨hx, hb, hml, hown, hts⟩ (c_X1_take l dC dI cI cJ cZ _ h_a0_parting a0_parting_factors q_a0_parting_factors a0_parting_powers q_a0_parting_powers a0_parting_number a0_parting_many q_7 o_3 q_8 o_4 p1 _ h) (cwV 2 hts gX8_part_X1_take rfl rfl rfl (by decide +kernel) ⟨Nat.le_of_ble_eq_true rfl, Nat.le_of_ble_eq_true rfl⟩) ⟨pre_fb, va_recv hK hPc (ci := 1) (q0 := 0) rfl rfl, pre_of hPc hDc hK hN⟩ rfl rfl hl.1 rfl (lv_room (Nat.le_of_ble_eq_true rfl)) dX8_part_36 ⟨by show _ ≤ mcP; omega, by show _ ≤ msP; omega⟩) hS (fun q _ h => hFc q h) hFc (fun u t H1 locs ht hvm h hB hz1 hk1 hS => ?_)
    obtain ⟨o_9, o_10, o_11, o_12⟩ := u
    obtain ⟨hP1, hD1⟩ := hB
    rw [ht] at hP1
    try dsimp only at h
    obtain ⟨hP, hD⟩ := va_join (wr := [(h_a0, .inr (7, [.ref q_7, w_a0_sieved, .ref h_a0_parting, w_a0_primeSums, w_a0_progression, w_a0_rows]))]) (w1 := [(h_a0_parting, .inr (1, [.ref q_a0_parting_factors, .ref q_a0_parting_powers, .long o_9, .int o_10])), (q_a0_parting_factors, .inl (cJ, 10, .inr (.inl o_11))), (q_a0_parting_powers, .inl (cI, 10, .inl o_12)), (q_7, .inr (3, [.ref q_8, .int o_4])), (q_8, .inl (cI, 9592, .inl o_3))]) hP hD [0, 1, 2, 4, 5] [3] rfl rfl (by decide) (by decide) hk1 hFc hP1 hD1
    generalize H1 = H at hP hS ⊢
    have hP : va_P (dC, dI) vwCl [(h_a0, .inr (7, [.ref q_7, w_a0_sieved, .ref h_a0_parting, w_a0_primeSums, w_a0_progression, w_a0_rows])), (h_a0_parting, .inr (1, [.ref q_a0_parting_factors, .ref q_a0_parting_powers, .long o_9, .int o_10])), (q_a0_parting_factors, .inl (cJ, 10, .inr (.inl o_11))), (q_a0_parting_powers, .inl (cI, 10, .inl o_12)), (q_7, .inr (3, [.ref q_8, .int o_4])), (q_8, .inl (cI, 9592, .inl o_3))] H := hP
    have hD : va_D A [(h_a0, .inr (7, [.ref q_7, w_a0_sieved, .ref h_a0_parting, w_a0_primeSums, w_a0_progression, w_a0_rows])), (h_a0_parting, .inr (1, [.ref q_a0_parting_factors, .ref q_a0_parting_powers, .long o_9, .int o_10])), (q_a0_parting_factors, .inl (cJ, 10, .inr (.inl o_11))), (q_a0_parting_powers, .inl (cI, 10, .inl o_12)), (q_7, .inr (3, [.ref q_8, .int o_4])), (q_8, .inl (cI, 9592, .inl o_3))] := hD
    refine lv_aload_n hx hb dX8_part_39 rfl (lv_at hl 0 rfl) ?_
    refine va_get (D := (dC, dI)) (ci := 7) (v := .ref h_a0_parting) (C := RX8) (T := TX8) (N := 6) hx hb hts hin_X8 hown hK hP 0 rfl rfl 2 (by decide) hw_0 (fun _ h9 => h9) rfl dX8_part_40 ?_
    refine va_getN (D := (dC, dI)) (ci := 1) (v := .int o_10) (C := RX1) (T := TX1) (N := 4) hx hb hts hin_X1 hown hK hP 1 rfl rfl 3 (by decide) (nw_9 hN) (fun _ h9 => h9) rfl dX8_part_43 ?_
    have hP9 := hP.sub (ws' := [(h_a0, .inr (7, [.ref q_7, w_a0_sieved, .ref h_a0_parting, w_a0_primeSums, w_a0_progression, w_a0_rows])), (h_a0_parting, .inr (1, [.ref q_a0_parting_factors, .ref q_a0_parting_powers, .long o_9, .int o_10])), (q_a0_parting_factors, .inl (cJ, 10, .inr (.inl o_11))), (q_a0_parting_powers, .inl (cI, 10, .inl o_12)), (q_7, .inr (3, [.ref q_8, .int o_4])), (q_8, .inl (cI, 9592, .inl o_3))]) [0, 1, 2, 3, 4, 5] rfl
    have hD9 := hD.sub (ws' := [(h_a0, .inr (7, [.ref q_7, w_a0_sieved, .ref h_a0_parting, w_a0_primeSums, w_a0_progression, w_a0_rows])), (h_a0_parting, .inr (1, [.ref q_a0_parting_factors, .ref q_a0_parting_powers, .long o_9, .int o_10])), (q_a0_parting_factors, .inl (cJ, 10, .inr (.inl o_11))), (q_a0_parting_powers, .inl (cI, 10, .inl o_12)), (q_7, .inr (3, [.ref q_8, .int o_4])), (q_8, .inl (cI, 9592, .inl o_3))]) [0, 1, 2, 3, 4, 5] (by decide) rfl
    refine W.widen (k := mcP) (n := msP) (by first | omega | exact Nat.le_of_ble_eq_true rfl) (by first | omega | exact Nat.le_of_ble_eq_true rfl) ?_
    exact W.iret (v := o_10) hx hb hr (fun t ht hW => ⟨⟨_, (o_9, o_10, o_11, o_12, some ((q_7, q_8), (o_3, o_4))), rfl, h, by rw [ht]; exact hP9, hD9⟩, hS.F ht⟩) hS.2.2 dX8_part_46
  · replace h := h.1 c_2
    refine lv_iconst (v := (-1 : Int32)) hx hb dX8_part_7 (by decide) ?_
    have hP9 := hP.sub (ws' := [(h_a0, .inr (7, [.null, w_a0_sieved, .ref h_a0_parting, w_a0_primeSums, w_a0_progression, w_a0_rows])), (h_a0_parting, .inr (1, [.ref q_a0_parting_factors, .ref q_a0_parting_powers, .long a0_parting_number, .int a0_parting_many])), (q_a0_parting_factors, .inl (cJ, 10, .inr (.inl a0_parting_factors))), (q_a0_parting_powers, .inl (cI, 10, .inl a0_parting_powers))]) [0, 1, 2, 3] rfl
    have hD9 := hD.sub (ws' := [(h_a0, .inr (7, [.null, w_a0_sieved, .ref h_a0_parting, w_a0_primeSums, w_a0_progression, w_a0_rows])), (h_a0_parting, .inr (1, [.ref q_a0_parting_factors, .ref q_a0_parting_powers, .long a0_parting_number, .int a0_parting_many])), (q_a0_parting_factors, .inl (cJ, 10, .inr (.inl a0_parting_factors))), (q_a0_parting_powers, .inl (cI, 10, .inl a0_parting_powers))]) [0, 1, 2, 3] (by decide) rfl
    refine W.widen (k := mcP) (n := msP) (by first | omega | exact Nat.le_of_ble_eq_true rfl) (by first | omega | exact Nat.le_of_ble_eq_true rfl) ?_
    exact W.iret (v := (-1 : Int32)) hx hb hr (fun t ht hW => ⟨⟨_, (a0_parting_number, a0_parting_many, a0_parting_factors, a0_parting_powers, none), rfl, h, by rw [ht]; exact hP9, hD9⟩, hS.F ht⟩) hS.2.2 dX8_part_8
def wp_X8_part_c10 (mcP msP : Nat) (a0_primes_table : Nat → Int32) (a0_primes_many : Int32) (p1 : Int64) (Q : Int32 → Option ((Nat → Int64) × (Nat → Int32) × Int64 × Int32) → Prop) : Prop :=
  wp_X8_isInRange p1 (fun r_1 => ((r_1 = (0 : Int32) → Q (-1 : Int32) none) ∧ (¬ r_1 = (0 : Int32) → (1 ≤ mcP ∧ 4 ≤ msP ∧ (3 ≤ mcP ∧ 24 ≤ msP ∧ wp_X1_init (fun o_6 o_7 o_8 o_9 => wp_X8_knownPrimes_c1 (wp_X1_take o_6 o_7 o_8 o_9 a0_primes_table a0_primes_many p1 (fun o_14 o_15 o_16 o_17 => Q o_15 (some (o_16, o_17, o_14, o_15))))))))))
abbrev rm_X8_part_c10 (mcP msP : Nat) : Room := { frames := 5, cells := mcP, slots := msP, locals := 111 }
abbrev qc_X8_part_c10 (dC : Nat → ClassId) (dI : Nat → Nat → Nat) (cI cJ cZ : ClassId) (h_a0 : Nat) (h_a0_primes : Nat) (a0_primes_table : Nat → Int32) (q_a0_primes_table : Nat) (a0_primes_many : Int32) (w_a0_sieved : Value) (w_a0_primeSums : Value) (w_a0_progression : Value) (w_a0_rows : Value) (Q : Int32 → Option ((Nat → Int64) × (Nat → Int32) × Int64 × Int32) → Prop) (A : Nat → Prop) : Array Value → State → Outcome → State → Prop := va_Qi (fun (r : Int32) (u : Option ((Nat × Nat × Nat) × ((Nat → Int64) × (Nat → Int32) × Int64 × Int32))) => Q r (u.map Prod.snd)) (post_ dC dI A (fun (u : Option ((Nat × Nat × Nat) × ((Nat → Int64) × (Nat → Int32) × Int64 × Int32))) => ([(h_a0, .inr (7, [.ref h_a0_primes, w_a0_sieved, (match u with | none => Value.null | some w => Value.ref w.1.1), w_a0_primeSums, w_a0_progression, w_a0_rows])), (h_a0_primes, .inr (3, [.ref q_a0_primes_table, .int a0_primes_many])), (q_a0_primes_table, .inl (cI, 9592, .inl a0_primes_table))] : va_W) ++ (match u with | none => ([] : va_W) | some w => [(w.1.1, .inr (1, [.ref w.1.2.1, .ref w.1.2.2, .long w.2.2.2.1, .int w.2.2.2.2])), (w.1.2.1, .inl (cJ, 10, .inr (.inl (w.2.1)))), (w.1.2.2, .inl (cI, 10, .inl (w.2.2.1)))]))) A
set_option maxHeartbeats 4000000 in
set_option maxRecDepth 100000 in
theorem c_X8_part_c10 (l : Launch) (dC : Nat → ClassId) (dI : Nat → Nat → Nat) (cI cJ cZ : ClassId) (sz : Nat) (mcP msP : Nat) (h_a0 : Nat) (h_a0_primes : Nat) (a0_primes_table : Nat → Int32) (q_a0_primes_table : Nat) (a0_primes_many : Int32) (w_a0_sieved : Value) (w_a0_primeSums : Value) (w_a0_progression : Value) (w_a0_rows : Value) (p1 : Int64) (Q : Int32 → Option ((Nat → Int64) × (Nat → Int32) × Int64 × Int32) → Prop) (hQ : wp_X8_part_c10 mcP msP a0_primes_table a0_primes_many p1 Q) : Met l yX8_part wsX8_part (rm_X8_part_c10 mcP msP) (pre_ dC dI cI cJ cZ [.ref h_a0, .long p1] [(h_a0, .inr (7, [.ref h_a0_primes, w_a0_sieved, .null, w_a0_primeSums, w_a0_progression, w_a0_rows])), (h_a0_primes, .inr (3, [.ref q_a0_primes_table, .int a0_primes_many])), (q_a0_primes_table, .inl (cI, 9592, .inl a0_primes_table))] sz) (qc_X8_part_c10 dC dI cI cJ cZ h_a0 h_a0_primes a0_primes_table q_a0_primes_table a0_primes_many w_a0_sieved w_a0_primeSums w_a0_progression w_a0_rows Q (va_A [(h_a0, .inr (7, [.ref h_a0_primes, w_a0_sieved, .null, w_a0_primeSums, w_a0_progression, w_a0_rows])), (h_a0_primes, .inr (3, [.ref q_a0_primes_table, .int a0_primes_many])), (q_a0_primes_table, .inl (cI, 9592, .inl a0_primes_table))] sz)) mcP msP (va_A [(h_a0, .inr (7, [.ref h_a0_primes, w_a0_sieved, .null, w_a0_primeSums, w_a0_progression, w_a0_rows])), (h_a0_primes, .inr (3, [.ref q_a0_primes_table, .int a0_primes_many])), (q_a0_primes_table, .inl (cI, 9592, .inl a0_primes_table))] sz) := by
  refine Met.ofW (cc := cX8_part) (maxL := 3) (ret := (some .int)) (by decide) rfl ?_
  intro p e s m args below meth c s₁ B hml hv
  obtain ⟨rfl, hsz, hP, hK, hN, hD0⟩ := hv
  have hx := B.exec
  have hb := B.bytes
  have hr := B.returns
  have hts := atoms_spec (ws := wsX8_part) B.pre
  have hown : s.vm.findClass RX8 = some m.cls := findClass_of_methodNamed B.named
  subst hsz
  have hD := hD0.self (sz := s.heap.size)
  generalize hAe : va_A [(h_a0, .inr (7, [.ref h_a0_primes, w_a0_sieved, .null, w_a0_primeSums, w_a0_progression, w_a0_rows])), (h_a0_primes, .inr (3, [.ref q_a0_primes_table, .int a0_primes_many])), (q_a0_primes_table, .inl (cI, 9592, .inl a0_primes_table))] s.heap.size = A at hD ⊢
  have hA : ∀ q : Nat, s.heap.size ≤ q → A q := fun q h => by rw [← hAe]; exact Or.inr h
  have hS : va_S A s.heap s.heap [] := va_S.rf
  have hl := lv_entry ([.ref h_a0, .long p1]) (n := 3) (Nat.le_of_ble_eq_true rfl)
  rw [lg_entry_eq]
  generalize (lg_sl ([.ref h_a0, .long p1]) ++ List.replicate (3 - (lg_sl ([.ref h_a0, .long p1])).length) Slot.unset).toArray = ls at hl ⊢
  have hl : lv_has ls 3 [(0, .ref h_a0), (1, .long p1)] := hl
  have h := hQ
  unfold wp_X8_part_c10 at h
  have hw_0 := hts (.fieldLink RX8 69 "NumberSieves" "parting" "LNumberSieves$Parting;") (by decide +kernel)
  have hin_X8 : ∀ w ∈ wsX80, w ∈ wsX8_part := by decide +kernel
  have hin_X1 : ∀ w ∈ wsX10, w ∈ wsX8_part := by decide +kernel
  have hw_3 := hts (.classLink RX8 73 RX1) (by decide +kernel)
  have hw_4 := hts (.instantiable RX1 4) (by decide +kernel)
  have hw_5 := hts (.initialized RX1) (by decide +kernel)
  have hw_6 := hts (.methodLink RX8 75 yX1_init) (by decide +kernel)
  have hw_7 := hts (.instanceMethod yX1_init) (by decide +kernel)
  refine lv_lload_n hx hb dX8_part_0 rfl (lv_at hl 1 rfl) ?_
  have hPc := hP.sub (ws' := []) [] rfl
  have hDc := hD.sub (ws' := []) [] (by decide) rfl
  have hFc := va_free (wc := []) hD hS hA [] rfl
  refine va_calli (va_runS (As := [.long p1]) (rest := []) ⟨hx, hb, hml, hown, hts⟩ (c_X8_isInRange l dC dI cI cJ cZ _ p1 _ h) (va_cwS 1 hts gX8_part_X8_isInRange rfl rfl rfl (by decide +kernel) ⟨Nat.le_of_ble_eq_true rfl, Nat.le_of_ble_eq_true rfl⟩) ⟨pre_fb, pre_of hPc hDc hK hN⟩ rfl rfl hl.1 rfl (lv_room (Nat.le_of_ble_eq_true rfl)) dX8_part_1 ⟨by show _ ≤ mcP; omega, by show _ ≤ msP; omega⟩) hS (fun q _ h => hFc q h) hFc (fun r_1 u t H1 locs ht hvm h hB hz1 hk1 hS => ?_)
  obtain ⟨hP1, hD1⟩ := hB
  rw [ht] at hP1
  try dsimp only at h
  obtain ⟨hP, hD⟩ := va_join (wr := [(h_a0, .inr (7, [.ref h_a0_primes, w_a0_sieved, .null, w_a0_primeSums, w_a0_progression, w_a0_rows])), (h_a0_primes, .inr (3, [.ref q_a0_primes_table, .int a0_primes_many])), (q_a0_primes_table, .inl (cI, 9592, .inl a0_primes_table))]) (w1 := []) hP hD [] [0, 1, 2] rfl rfl (by decide) (by decide) hk1 hFc hP1 hD1
  generalize H1 = H at hP hS ⊢
  have hP : va_P (dC, dI) vwCl [(h_a0, .inr (7, [.ref h_a0_primes, w_a0_sieved, .null, w_a0_primeSums, w_a0_progression, w_a0_rows])), (h_a0_primes, .inr (3, [.ref q_a0_primes_table, .int a0_primes_many])), (q_a0_primes_table, .inl (cI, 9592, .inl a0_primes_table))] H := hP
  have hD : va_D A [(h_a0, .inr (7, [.ref h_a0_primes, w_a0_sieved, .null, w_a0_primeSums, w_a0_progression, w_a0_rows])), (h_a0_primes, .inr (3, [.ref q_a0_primes_table, .int a0_primes_many])), (q_a0_primes_table, .inl (cI, 9592, .inl a0_primes_table))] := hD
  refine lv_if_ne (tgt := 9) hx hb dX8_part_4 (by decide) (fun c_2 => ?_) (fun c_2 => ?_)
  · replace h := h.2 c_2
    refine lv_aload_n hx hb dX8_part_9 rfl (lv_at hl 0 rfl) ?_
    refine va_get (D := (dC, dI)) (ci := 7) (v := .null) (C := RX8) (T := TX8) (N := 6) hx hb hts hin_X8 hown hK hP 0 rfl rfl 2 (by decide) hw_0 (fun _ h9 => h9) rfl dX8_part_10 ?_
    refine lv_ifnonnullN hx hb dX8_part_13 ?_
    refine lv_aload_n hx hb dX8_part_16 rfl (lv_at hl 0 rfl) ?_
    obtain ⟨hm_4, hm_5, h⟩ := h
    refine va_new (ci := 1) (fs := [.null, .null, .long (0 : Int64), .int (0 : Int32)]) (C := RX1) (T := TX1) (N := 4) hx hb hts hin_X1 tyX1 tyX1_ok hown hw_3 hw_4 hw_5 hK hP hD hS hA rfl (by decide +kernel) hm_4 hm_5 dX8_part_17 (fun q_3 H hP hD hS => ?_)
    have hP : va_P (dC, dI) vwCl [(h_a0, .inr (7, [.ref h_a0_primes, w_a0_sieved, .null, w_a0_primeSums, w_a0_progression, w_a0_rows])), (h_a0_primes, .inr (3, [.ref q_a0_primes_table, .int a0_primes_many])), (q_a0_primes_table, .inl (cI, 9592, .inl a0_primes_table)), (q_3, .inr (1, [.null, .null, .long (0 : Int64), .int (0 : Int32)]))] H := hP
    have hD : va_D A [(h_a0, .inr (7, [.ref h_a0_primes, w_a0_sieved, .null, w_a0_primeSums, w_a0_progression, w_a0_rows])), (h_a0_primes, .inr (3, [.ref q_a0_primes_table, .int a0_primes_many])), (q_a0_primes_table, .inl (cI, 9592, .inl a0_primes_table)), (q_3, .inr (1, [.null, .null, .long (0 : Int64), .int (0 : Int32)]))] := hD
    refine W.widen (k := 1) (n := 4) (by omega) (by omega) ?_
    refine lv_dup hx hb dX8_part_20 rfl ?_
    have hPc := hP.sub (ws' := [(q_3, .inr (1, [.null, .null, .long (0 : Int64), .int (0 : Int32)]))]) [3] rfl
    have hDc := hD.sub (ws' := [(q_3, .inr (1, [.null, .null, .long (0 : Int64), .int (0 : Int32)]))]) [3] (by decide) rfl
    have hFc := va_free (wc := [(q_3, .inr (1, [.null, .null, .long (0 : Int64), .int (0 : Int32)]))]) hD hS hA [3] rfl
    obtain ⟨hm_10, hm_11, h⟩ := h
    refine va_callv (va_runI (As := []) (rest := [.ref q_3, .ref h_a0]) ⟨hx, hb, hml, hown, hts⟩ (c_X1_init l dC dI cI cJ cZ _ q_3 _ h) (cwI 0 hts gX8_part_X1_init rfl rfl rfl hw_5 hw_6 hw_7 rfl (by decide +kernel) ⟨Nat.le_of_ble_eq_true rfl, Nat.le_of_ble_eq_true rfl⟩) ⟨pre_fb, pre_of hPc hDc hK hN⟩ rfl rfl hl.1 rfl (lv_room (Nat.le_of_ble_eq_true rfl)) dX8_part_21 ⟨hm_10, hm_11⟩) hS (fun q _ h => hFc q h) hFc (fun u t H1 locs ht hvm h hB hz1 hk1 hS => ?_)
    obtain ⟨q_12, q_13, o_6, o_7, o_8, o_9⟩ := u
    obtain ⟨hP1, hD1⟩ := hB
    rw [ht] at hP1
    try dsimp only at h
    obtain ⟨hP, hD⟩ := va_join (wr := [(h_a0, .inr (7, [.ref h_a0_primes, w_a0_sieved, .null, w_a0_primeSums, w_a0_progression, w_a0_rows])), (h_a0_primes, .inr (3, [.ref q_a0_primes_table, .int a0_primes_many])), (q_a0_primes_table, .inl (cI, 9592, .inl a0_primes_table))]) (w1 := [(q_3, .inr (1, [.ref q_12, .ref q_13, .long o_8, .int o_9])), (q_12, .inl (cJ, 10, .inr (.inl o_6))), (q_13, .inl (cI, 10, .inl o_7))]) hP hD [3] [0, 1, 2] rfl rfl (by decide) (by decide) hk1 hFc hP1 hD1
    generalize H1 = H at hP hS ⊢
    have hP : va_P (dC, dI) vwCl [(h_a0, .inr (7, [.ref h_a0_primes, w_a0_sieved, .null, w_a0_primeSums, w_a0_progression, w_a0_rows])), (h_a0_primes, .inr (3, [.ref q_a0_primes_table, .int a0_primes_many])), (q_a0_primes_table, .inl (cI, 9592, .inl a0_primes_table)), (q_3, .inr (1, [.ref q_12, .ref q_13, .long o_8, .int o_9])), (q_12, .inl (cJ, 10, .inr (.inl o_6))), (q_13, .inl (cI, 10, .inl o_7))] H := hP
    have hD : va_D A [(h_a0, .inr (7, [.ref h_a0_primes, w_a0_sieved, .null, w_a0_primeSums, w_a0_progression, w_a0_rows])), (h_a0_primes, .inr (3, [.ref q_a0_primes_table, .int a0_primes_many])), (q_a0_primes_table, .inl (cI, 9592, .inl a0_primes_table)), (q_3, .inr (1, [.ref q_12, .ref q_13, .long o_8, .int o_9])), (q_12, .inl (cJ, 10, .inr (.inl o_6))), (q_13, .inl (cI, 10, .inl o_7))] := hD
    refine W.widen (k := 3) (n := 24) (by omega) (by omega) ?_
    refine va_put (D := (dC, dI)) (ci := 7) (v := .ref q_3) (ty := .object "NumberSieves$Parting") (C := RX8) (T := TX8) (N := 6) hx hb hts hin_X8 tyX8 tyX8_ok nmX8 hown hK hP hD hS 0 rfl rfl 2 (by decide) hw_0 (fun _ h9 => h9) rfl (by decide +kernel) rfl rfl (Nat.le_of_ble_eq_true rfl) dX8_part_24 (fun H locs hP hD hS => ?_)
    have hP : va_P (dC, dI) vwCl [(h_a0, .inr (7, [.ref h_a0_primes, w_a0_sieved, .ref q_3, w_a0_primeSums, w_a0_progression, w_a0_rows])), (h_a0_primes, .inr (3, [.ref q_a0_primes_table, .int a0_primes_many])), (q_a0_primes_table, .inl (cI, 9592, .inl a0_primes_table)), (q_3, .inr (1, [.ref q_12, .ref q_13, .long o_8, .int o_9])), (q_12, .inl (cJ, 10, .inr (.inl o_6))), (q_13, .inl (cI, 10, .inl o_7))] H := hP
    have hD : va_D A [(h_a0, .inr (7, [.ref h_a0_primes, w_a0_sieved, .ref q_3, w_a0_primeSums, w_a0_progression, w_a0_rows])), (h_a0_primes, .inr (3, [.ref q_a0_primes_table, .int a0_primes_many])), (q_a0_primes_table, .inl (cI, 9592, .inl a0_primes_table)), (q_3, .inr (1, [.ref q_12, .ref q_13, .long o_8, .int o_9])), (q_12, .inl (cJ, 10, .inr (.inl o_6))), (q_13, .inl (cI, 10, .inl o_7))] := hD
    refine lv_aload_n hx hb dX8_part_27 rfl (lv_at hl 0 rfl) ?_
    refine va_get (D := (dC, dI)) (ci := 7) (v := .ref q_3) (C := RX8) (T := TX8) (N := 6) hx hb hts hin_X8 hown hK hP 0 rfl rfl 2 (by decide) hw_0 (fun _ h9 => h9) rfl dX8_part_28 ?_
    refine lv_lload_n hx hb dX8_part_31 rfl (lv_at hl 1 rfl) ?_
    refine lv_aload_n hx hb dX8_part_32 rfl (lv_at hl 0 rfl) ?_
    have hPc := hP.sub (ws' := [(h_a0, .inr (7, [.ref h_a0_primes, w_a0_sieved, .ref q_3, w_a0_primeSums, w_a0_progression, w_a0_rows])), (h_a0_primes, .inr (3, [.ref q_a0_primes_table, .int a0_primes_many])), (q_a0_primes_table, .inl (cI, 9592, .inl a0_primes_table))]) [0, 1, 2] rfl
    have hDc := hD.sub (ws' := [(h_a0, .inr (7, [.ref h_a0_primes, w_a0_sieved, .ref q_3, w_a0_primeSums, w_a0_progression, w_a0_rows])), (h_a0_primes, .inr (3, [.ref q_a0_primes_table, .int a0_primes_many])), (q_a0_primes_table, .inl (cI, 9592, .inl a0_primes_table))]) [0, 1, 2] (by decide) rfl
    have hFc := va_free (wc := [(h_a0, .inr (7, [.ref h_a0_primes, w_a0_sieved, .ref q_3, w_a0_primeSums, w_a0_progression, w_a0_rows])), (h_a0_primes, .inr (3, [.ref q_a0_primes_table, .int a0_primes_many])), (q_a0_primes_table, .inl (cI, 9592, .inl a0_primes_table))]) hD hS hA [0, 1, 2] rfl
    refine va_callr (va_runV (As := []) (rest := [.long p1, .ref q_3]) ⟨hx, hb, hml, hown, hts⟩ (c_X8_knownPrimes_c1 l dC dI cI cJ cZ _ h_a0 h_a0_primes a0_primes_table q_a0_primes_table a0_primes_many (w_a0_sieved) (.ref q_3) (w_a0_primeSums) (w_a0_progression) (w_a0_rows) _ h) (cwV 0 hts gX8_part_X8_knownPrimes rfl rfl rfl (by decide +kernel) ⟨Nat.le_of_ble_eq_true rfl, Nat.le_of_ble_eq_true rfl⟩) ⟨pre_fb, va_recv hK hPc (ci := 7) (q0 := 0) rfl rfl, pre_of hPc hDc hK hN⟩ rfl rfl hl.1 rfl (lv_room (Nat.le_of_ble_eq_true rfl)) dX8_part_33 ⟨by show _ ≤ mcP; omega, by show _ ≤ msP; omega⟩) hS (fun q _ h => hFc q h) hFc (fun u ra t H1 locs ht hvm h hB hz1 hk1 hS => ?_)
    obtain ⟨hra, hP1, hD1⟩ := hB
    try dsimp only at hra
    subst ra
    rw [ht] at hP1
    try dsimp only at h
    obtain ⟨hP, hD⟩ := va_join (wr := [(q_3, .inr (1, [.ref q_12, .ref q_13, .long o_8, .int o_9])), (q_12, .inl (cJ, 10, .inr (.inl o_6))), (q_13, .inl (cI, 10, .inl o_7))]) (w1 := [(h_a0, .inr (7, [.ref h_a0_primes, w_a0_sieved, .ref q_3, w_a0_primeSums, w_a0_progression, w_a0_rows])), (h_a0_primes, .inr (3, [.ref q_a0_primes_table, .int a0_primes_many])), (q_a0_primes_table, .inl (cI, 9592, .inl a0_primes_table))]) hP hD [0, 1, 2] [3, 4, 5] rfl rfl (by decide) (by decide) hk1 hFc hP1 hD1
    generalize H1 = H at hP hS ⊢
    have hP : va_P (dC, dI) vwCl [(q_3, .inr (1, [.ref q_12, .ref q_13, .long o_8, .int o_9])), (q_12, .inl (cJ, 10, .inr (.inl o_6))), (q_13, .inl (cI, 10, .inl o_7)), (h_a0, .inr (7, [.ref h_a0_primes, w_a0_sieved, .ref q_3, w_a0_primeSums, w_a0_progression, w_a0_rows])), (h_a0_primes, .inr (3, [.ref q_a0_primes_table, .int a0_primes_many])), (q_a0_primes_table, .inl (cI, 9592, .inl a0_primes_table))] H := hP
    have hD : va_D A [(q_3, .inr (1, [.ref q_12, .ref q_13, .long o_8, .int o_9])), (q_12, .inl (cJ, 10, .inr (.inl o_6))), (q_13, .inl (cI, 10, .inl o_7)), (h_a0, .inr (7, [.ref h_a0_primes, w_a0_sieved, .ref q_3, w_a0_primeSums, w_a0_progression, w_a0_rows])), (h_a0_primes, .inr (3, [.ref q_a0_primes_table, .int a0_primes_many])), (q_a0_primes_table, .inl (cI, 9592, .inl a0_primes_table))] := hD
    have hPc := hP.sub (ws' := [(q_3, .inr (1, [.ref q_12, .ref q_13, .long o_8, .int o_9])), (q_12, .inl (cJ, 10, .inr (.inl o_6))), (q_13, .inl (cI, 10, .inl o_7)), (h_a0_primes, .inr (3, [.ref q_a0_primes_table, .int a0_primes_many])), (q_a0_primes_table, .inl (cI, 9592, .inl a0_primes_table))]) [0, 1, 2, 4, 5] rfl
    have hDc := hD.sub (ws' := [(q_3, .inr (1, [.ref q_12, .ref q_13, .long o_8, .int o_9])), (q_12, .inl (cJ, 10, .inr (.inl o_6))), (q_13, .inl (cI, 10, .inl o_7)), (h_a0_primes, .inr (3, [.ref q_a0_primes_table, .int a0_primes_many])), (q_a0_primes_table, .inl (cI, 9592, .inl a0_primes_table))]) [0, 1, 2, 4, 5] (by decide) rfl
    have hFc := va_free (wc := [(q_3, .inr (1, [.ref q_12, .ref q_13, .long o_8, .int o_9])), (q_12, .inl (cJ, 10, .inr (.inl o_6))), (q_13, .inl (cI, 10, .inl o_7)), (h_a0_primes, .inr (3, [.ref q_a0_primes_table, .int a0_primes_many])), (q_a0_primes_table, .inl (cI, 9592, .inl a0_primes_table))]) hD hS hA [0, 1, 2, 4, 5] rfl
    refine va_callv (va_runV (As := [.long p1, .ref h_a0_primes]) (rest := []) ⟨hx, hb, hml, hown, hts⟩ (c_X1_take l dC dI cI cJ cZ _ q_3 o_6 q_12 o_7 q_13 o_8 o_9 h_a0_primes a0_primes_table q_a0_primes_table a0_primes_many p1 _ h) (cwV 2 hts gX8_part_X1_take rfl rfl rfl (by decide +kernel) ⟨Nat.le_of_ble_eq_true rfl, Nat.le_of_ble_eq_true rfl⟩) ⟨pre_fb, va_recv hK hPc (ci := 1) (q0 := 0) rfl rfl, pre_of hPc hDc hK hN⟩ rfl rfl hl.1 rfl (lv_room (Nat.le_of_ble_eq_true rfl)) dX8_part_36 ⟨by show _ ≤ mcP; omega, by show _ ≤ msP; omega⟩) hS (fun q _ h => hFc q h) hFc (fun u t H1 locs ht hvm h hB hz1 hk1 hS => ?_)
    obtain ⟨o_14, o_15, o_16, o_17⟩ := u
    obtain ⟨hP1, hD1⟩ := hB
    rw [ht] at hP1
    try dsimp only at h
    obtain ⟨hP, hD⟩ := va_join (wr := [(h_a0, .inr (7, [.ref h_a0_primes, w_a0_sieved, .ref q_3, w_a0_primeSums, w_a0_progression, w_a0_rows]))]) (w1 := [(q_3, .inr (1, [.ref q_12, .ref q_13, .long o_14, .int o_15])), (q_12, .inl (cJ, 10, .inr (.inl o_16))), (q_13, .inl (cI, 10, .inl o_17)), (h_a0_primes, .inr (3, [.ref q_a0_primes_table, .int a0_primes_many])), (q_a0_primes_table, .inl (cI, 9592, .inl a0_primes_table))]) hP hD [0, 1, 2, 4, 5] [3] rfl rfl (by decide) (by decide) hk1 hFc hP1 hD1
    generalize H1 = H at hP hS ⊢
    have hP : va_P (dC, dI) vwCl [(h_a0, .inr (7, [.ref h_a0_primes, w_a0_sieved, .ref q_3, w_a0_primeSums, w_a0_progression, w_a0_rows])), (q_3, .inr (1, [.ref q_12, .ref q_13, .long o_14, .int o_15])), (q_12, .inl (cJ, 10, .inr (.inl o_16))), (q_13, .inl (cI, 10, .inl o_17)), (h_a0_primes, .inr (3, [.ref q_a0_primes_table, .int a0_primes_many])), (q_a0_primes_table, .inl (cI, 9592, .inl a0_primes_table))] H := hP
    have hD : va_D A [(h_a0, .inr (7, [.ref h_a0_primes, w_a0_sieved, .ref q_3, w_a0_primeSums, w_a0_progression, w_a0_rows])), (q_3, .inr (1, [.ref q_12, .ref q_13, .long o_14, .int o_15])), (q_12, .inl (cJ, 10, .inr (.inl o_16))), (q_13, .inl (cI, 10, .inl o_17)), (h_a0_primes, .inr (3, [.ref q_a0_primes_table, .int a0_primes_many])), (q_a0_primes_table, .inl (cI, 9592, .inl a0_primes_table))] := hD
    refine lv_aload_n hx hb dX8_part_39 rfl (lv_at hl 0 rfl) ?_
    refine va_get (D := (dC, dI)) (ci := 7) (v := .ref q_3) (C := RX8) (T := TX8) (N := 6) hx hb hts hin_X8 hown hK hP 0 rfl rfl 2 (by decide) hw_0 (fun _ h9 => h9) rfl dX8_part_40 ?_
    refine va_getN (D := (dC, dI)) (ci := 1) (v := .int o_15) (C := RX1) (T := TX1) (N := 4) hx hb hts hin_X1 hown hK hP 1 rfl rfl 3 (by decide) (nw_9 hN) (fun _ h9 => h9) rfl dX8_part_43 ?_
    have hP9 := hP.sub (ws' := [(h_a0, .inr (7, [.ref h_a0_primes, w_a0_sieved, .ref q_3, w_a0_primeSums, w_a0_progression, w_a0_rows])), (h_a0_primes, .inr (3, [.ref q_a0_primes_table, .int a0_primes_many])), (q_a0_primes_table, .inl (cI, 9592, .inl a0_primes_table)), (q_3, .inr (1, [.ref q_12, .ref q_13, .long o_14, .int o_15])), (q_12, .inl (cJ, 10, .inr (.inl o_16))), (q_13, .inl (cI, 10, .inl o_17))]) [0, 4, 5, 1, 2, 3] rfl
    have hD9 := hD.sub (ws' := [(h_a0, .inr (7, [.ref h_a0_primes, w_a0_sieved, .ref q_3, w_a0_primeSums, w_a0_progression, w_a0_rows])), (h_a0_primes, .inr (3, [.ref q_a0_primes_table, .int a0_primes_many])), (q_a0_primes_table, .inl (cI, 9592, .inl a0_primes_table)), (q_3, .inr (1, [.ref q_12, .ref q_13, .long o_14, .int o_15])), (q_12, .inl (cJ, 10, .inr (.inl o_16))), (q_13, .inl (cI, 10, .inl o_17))]) [0, 4, 5, 1, 2, 3] (by decide) rfl
    refine W.widen (k := mcP) (n := msP) (by first | omega | exact Nat.le_of_ble_eq_true rfl) (by first | omega | exact Nat.le_of_ble_eq_true rfl) ?_
    exact W.iret (v := o_15) hx hb hr (fun t ht hW => ⟨⟨_, some ((q_3, q_12, q_13), (o_16, o_17, o_14, o_15)), rfl, h, by rw [ht]; exact hP9, hD9⟩, hS.F ht⟩) hS.2.2 dX8_part_46
  · replace h := h.1 c_2
    refine lv_iconst (v := (-1 : Int32)) hx hb dX8_part_7 (by decide) ?_
    have hP9 := hP.sub (ws' := [(h_a0, .inr (7, [.ref h_a0_primes, w_a0_sieved, .null, w_a0_primeSums, w_a0_progression, w_a0_rows])), (h_a0_primes, .inr (3, [.ref q_a0_primes_table, .int a0_primes_many])), (q_a0_primes_table, .inl (cI, 9592, .inl a0_primes_table))]) [0, 1, 2] rfl
    have hD9 := hD.sub (ws' := [(h_a0, .inr (7, [.ref h_a0_primes, w_a0_sieved, .null, w_a0_primeSums, w_a0_progression, w_a0_rows])), (h_a0_primes, .inr (3, [.ref q_a0_primes_table, .int a0_primes_many])), (q_a0_primes_table, .inl (cI, 9592, .inl a0_primes_table))]) [0, 1, 2] (by decide) rfl
    refine W.widen (k := mcP) (n := msP) (by first | omega | exact Nat.le_of_ble_eq_true rfl) (by first | omega | exact Nat.le_of_ble_eq_true rfl) ?_
    exact W.iret (v := (-1 : Int32)) hx hb hr (fun t ht hW => ⟨⟨_, none, rfl, h, by rw [ht]; exact hP9, hD9⟩, hS.F ht⟩) hS.2.2 dX8_part_8
def wp_X8_part_c11 (a0_primes_table : Nat → Int32) (a0_primes_many : Int32) (a0_parting_factors : Nat → Int64) (a0_parting_powers : Nat → Int32) (a0_parting_number : Int64) (a0_parting_many : Int32) (p1 : Int64) (Q : Int32 → Int64 → Int32 → (Nat → Int64) → (Nat → Int32) → Prop) : Prop :=
  wp_X8_isInRange p1 (fun r_1 => ((r_1 = (0 : Int32) → Q (-1 : Int32) a0_parting_number a0_parting_many a0_parting_factors a0_parting_powers) ∧ (¬ r_1 = (0 : Int32) → wp_X8_knownPrimes_c1 (wp_X1_take a0_parting_factors a0_parting_powers a0_parting_number a0_parting_many a0_primes_table a0_primes_many p1 (fun o_3 o_4 o_5 o_6 => Q o_4 o_3 o_4 o_5 o_6)))))
abbrev rm_X8_part_c11 : Room := { frames := 5, cells := 0, slots := 0, locals := 111 }
abbrev qc_X8_part_c11 (dC : Nat → ClassId) (dI : Nat → Nat → Nat) (cI cJ cZ : ClassId) (h_a0 : Nat) (h_a0_primes : Nat) (a0_primes_table : Nat → Int32) (q_a0_primes_table : Nat) (a0_primes_many : Int32) (w_a0_sieved : Value) (h_a0_parting : Nat) (a0_parting_factors : Nat → Int64) (q_a0_parting_factors : Nat) (a0_parting_powers : Nat → Int32) (q_a0_parting_powers : Nat) (a0_parting_number : Int64) (a0_parting_many : Int32) (w_a0_primeSums : Value) (w_a0_progression : Value) (w_a0_rows : Value) (Q : Int32 → Int64 → Int32 → (Nat → Int64) → (Nat → Int32) → Prop) (A : Nat → Prop) : Array Value → State → Outcome → State → Prop := va_Qi (fun (r : Int32) (u : Int64 × Int32 × (Nat → Int64) × (Nat → Int32)) => Q r u.1 u.2.1 u.2.2.1 u.2.2.2) (post_ dC dI A (fun (u : Int64 × Int32 × (Nat → Int64) × (Nat → Int32)) => ([(h_a0, .inr (7, [.ref h_a0_primes, w_a0_sieved, .ref h_a0_parting, w_a0_primeSums, w_a0_progression, w_a0_rows])), (h_a0_primes, .inr (3, [.ref q_a0_primes_table, .int a0_primes_many])), (q_a0_primes_table, .inl (cI, 9592, .inl a0_primes_table)), (h_a0_parting, .inr (1, [.ref q_a0_parting_factors, .ref q_a0_parting_powers, .long u.1, .int u.2.1])), (q_a0_parting_factors, .inl (cJ, 10, .inr (.inl (u.2.2.1)))), (q_a0_parting_powers, .inl (cI, 10, .inl (u.2.2.2)))] : va_W))) A
set_option maxHeartbeats 4000000 in
set_option maxRecDepth 100000 in
theorem c_X8_part_c11 (l : Launch) (dC : Nat → ClassId) (dI : Nat → Nat → Nat) (cI cJ cZ : ClassId) (sz : Nat) (h_a0 : Nat) (h_a0_primes : Nat) (a0_primes_table : Nat → Int32) (q_a0_primes_table : Nat) (a0_primes_many : Int32) (w_a0_sieved : Value) (h_a0_parting : Nat) (a0_parting_factors : Nat → Int64) (q_a0_parting_factors : Nat) (a0_parting_powers : Nat → Int32) (q_a0_parting_powers : Nat) (a0_parting_number : Int64) (a0_parting_many : Int32) (w_a0_primeSums : Value) (w_a0_progression : Value) (w_a0_rows : Value) (p1 : Int64) (Q : Int32 → Int64 → Int32 → (Nat → Int64) → (Nat → Int32) → Prop) (hQ : wp_X8_part_c11 a0_primes_table a0_primes_many a0_parting_factors a0_parting_powers a0_parting_number a0_parting_many p1 Q) : Met l yX8_part wsX8_part rm_X8_part_c11 (pre_ dC dI cI cJ cZ [.ref h_a0, .long p1] [(h_a0, .inr (7, [.ref h_a0_primes, w_a0_sieved, .ref h_a0_parting, w_a0_primeSums, w_a0_progression, w_a0_rows])), (h_a0_primes, .inr (3, [.ref q_a0_primes_table, .int a0_primes_many])), (q_a0_primes_table, .inl (cI, 9592, .inl a0_primes_table)), (h_a0_parting, .inr (1, [.ref q_a0_parting_factors, .ref q_a0_parting_powers, .long a0_parting_number, .int a0_parting_many])), (q_a0_parting_factors, .inl (cJ, 10, .inr (.inl a0_parting_factors))), (q_a0_parting_powers, .inl (cI, 10, .inl a0_parting_powers))] sz) (qc_X8_part_c11 dC dI cI cJ cZ h_a0 h_a0_primes a0_primes_table q_a0_primes_table a0_primes_many w_a0_sieved h_a0_parting a0_parting_factors q_a0_parting_factors a0_parting_powers q_a0_parting_powers a0_parting_number a0_parting_many w_a0_primeSums w_a0_progression w_a0_rows Q (va_A [(h_a0, .inr (7, [.ref h_a0_primes, w_a0_sieved, .ref h_a0_parting, w_a0_primeSums, w_a0_progression, w_a0_rows])), (h_a0_primes, .inr (3, [.ref q_a0_primes_table, .int a0_primes_many])), (q_a0_primes_table, .inl (cI, 9592, .inl a0_primes_table)), (h_a0_parting, .inr (1, [.ref q_a0_parting_factors, .ref q_a0_parting_powers, .long a0_parting_number, .int a0_parting_many])), (q_a0_parting_factors, .inl (cJ, 10, .inr (.inl a0_parting_factors))), (q_a0_parting_powers, .inl (cI, 10, .inl a0_parting_powers))] sz)) 0 0 (va_A [(h_a0, .inr (7, [.ref h_a0_primes, w_a0_sieved, .ref h_a0_parting, w_a0_primeSums, w_a0_progression, w_a0_rows])), (h_a0_primes, .inr (3, [.ref q_a0_primes_table, .int a0_primes_many])), (q_a0_primes_table, .inl (cI, 9592, .inl a0_primes_table)), (h_a0_parting, .inr (1, [.ref q_a0_parting_factors, .ref q_a0_parting_powers, .long a0_parting_number, .int a0_parting_many])), (q_a0_parting_factors, .inl (cJ, 10, .inr (.inl a0_parting_factors))), (q_a0_parting_powers, .inl (cI, 10, .inl a0_parting_powers))] sz) := by
  refine Met.ofW (cc := cX8_part) (maxL := 3) (ret := (some .int)) (by decide) rfl ?_
  intro p e s m args below meth c s₁ B hml hv
  obtain ⟨rfl, hsz, hP, hK, hN, hD0⟩ := hv
  have hx := B.exec
  have hb := B.bytes
  have hr := B.returns
  have hts := atoms_spec (ws := wsX8_part) B.pre
  have hown : s.vm.findClass RX8 = some m.cls := findClass_of_methodNamed B.named
  subst hsz
  have hD := hD0.self (sz := s.heap.size)
  generalize hAe : va_A [(h_a0, .inr (7, [.ref h_a0_primes, w_a0_sieved, .ref h_a0_parting, w_a0_primeSums, w_a0_progression, w_a0_rows])), (h_a0_primes, .inr (3, [.ref q_a0_primes_table, .int a0_primes_many])), (q_a0_primes_table, .inl (cI, 9592, .inl a0_primes_table)), (h_a0_parting, .inr (1, [.ref q_a0_parting_factors, .ref q_a0_parting_powers, .long a0_parting_number, .int a0_parting_many])), (q_a0_parting_factors, .inl (cJ, 10, .inr (.inl a0_parting_factors))), (q_a0_parting_powers, .inl (cI, 10, .inl a0_parting_powers))] s.heap.size = A at hD ⊢
  have hA : ∀ q : Nat, s.heap.size ≤ q → A q := fun q h => by rw [← hAe]; exact Or.inr h
  have hS : va_S A s.heap s.heap [] := va_S.rf
  have hl := lv_entry ([.ref h_a0, .long p1]) (n := 3) (Nat.le_of_ble_eq_true rfl)
  rw [lg_entry_eq]
  generalize (lg_sl ([.ref h_a0, .long p1]) ++ List.replicate (3 - (lg_sl ([.ref h_a0, .long p1])).length) Slot.unset).toArray = ls at hl ⊢
  have hl : lv_has ls 3 [(0, .ref h_a0), (1, .long p1)] := hl
  have h := hQ
  unfold wp_X8_part_c11 at h
  have hw_0 := hts (.fieldLink RX8 69 "NumberSieves" "parting" "LNumberSieves$Parting;") (by decide +kernel)
  have hin_X8 : ∀ w ∈ wsX80, w ∈ wsX8_part := by decide +kernel
  have hin_X1 : ∀ w ∈ wsX10, w ∈ wsX8_part := by decide +kernel
  refine lv_lload_n hx hb dX8_part_0 rfl (lv_at hl 1 rfl) ?_
  have hPc := hP.sub (ws' := []) [] rfl
  have hDc := hD.sub (ws' := []) [] (by decide) rfl
  have hFc := va_free (wc := []) hD hS hA [] rfl
  refine va_calli (va_runS (As := [.long p1]) (rest := []) ⟨hx, hb, hml, hown, hts⟩ (c_X8_isInRange l dC dI cI cJ cZ _ p1 _ h) (va_cwS 1 hts gX8_part_X8_isInRange rfl rfl rfl (by decide +kernel) ⟨Nat.le_of_ble_eq_true rfl, Nat.le_of_ble_eq_true rfl⟩) ⟨pre_fb, pre_of hPc hDc hK hN⟩ rfl rfl hl.1 rfl (lv_room (Nat.le_of_ble_eq_true rfl)) dX8_part_1 ⟨by first | exact Nat.le_of_ble_eq_true rfl | exact Nat.le_refl _, by first | exact Nat.le_of_ble_eq_true rfl | exact Nat.le_refl _⟩) hS (fun q _ h => hFc q h) hFc (fun r_1 u t H1 locs ht hvm h hB hz1 hk1 hS => ?_)
  obtain ⟨hP1, hD1⟩ := hB
  rw [ht] at hP1
  try dsimp only at h
  obtain ⟨hP, hD⟩ := va_join (wr := [(h_a0, .inr (7, [.ref h_a0_primes, w_a0_sieved, .ref h_a0_parting, w_a0_primeSums, w_a0_progression, w_a0_rows])), (h_a0_primes, .inr (3, [.ref q_a0_primes_table, .int a0_primes_many])), (q_a0_primes_table, .inl (cI, 9592, .inl a0_primes_table)), (h_a0_parting, .inr (1, [.ref q_a0_parting_factors, .ref q_a0_parting_powers, .long a0_parting_number, .int a0_parting_many])), (q_a0_parting_factors, .inl (cJ, 10, .inr (.inl a0_parting_factors))), (q_a0_parting_powers, .inl (cI, 10, .inl a0_parting_powers))]) (w1 := []) hP hD [] [0, 1, 2, 3, 4, 5] rfl rfl (by decide) (by decide) hk1 hFc hP1 hD1
  generalize H1 = H at hP hS ⊢
  have hP : va_P (dC, dI) vwCl [(h_a0, .inr (7, [.ref h_a0_primes, w_a0_sieved, .ref h_a0_parting, w_a0_primeSums, w_a0_progression, w_a0_rows])), (h_a0_primes, .inr (3, [.ref q_a0_primes_table, .int a0_primes_many])), (q_a0_primes_table, .inl (cI, 9592, .inl a0_primes_table)), (h_a0_parting, .inr (1, [.ref q_a0_parting_factors, .ref q_a0_parting_powers, .long a0_parting_number, .int a0_parting_many])), (q_a0_parting_factors, .inl (cJ, 10, .inr (.inl a0_parting_factors))), (q_a0_parting_powers, .inl (cI, 10, .inl a0_parting_powers))] H := hP
  have hD : va_D A [(h_a0, .inr (7, [.ref h_a0_primes, w_a0_sieved, .ref h_a0_parting, w_a0_primeSums, w_a0_progression, w_a0_rows])), (h_a0_primes, .inr (3, [.ref q_a0_primes_table, .int a0_primes_many])), (q_a0_primes_table, .inl (cI, 9592, .inl a0_primes_table)), (h_a0_parting, .inr (1, [.ref q_a0_parting_factors, .ref q_a0_parting_powers, .long a0_parting_number, .int a0_parting_many])), (q_a0_parting_factors, .inl (cJ, 10, .inr (.inl a0_parting_factors))), (q_a0_parting_powers, .inl (cI, 10, .inl a0_parting_powers))] := hD
  refine lv_if_ne (tgt := 9) hx hb dX8_part_4 (by decide) (fun c_2 => ?_) (fun c_2 => ?_)
  · replace h := h.2 c_2
    refine lv_aload_n hx hb dX8_part_9 rfl (lv_at hl 0 rfl) ?_
    refine va_get (D := (dC, dI)) (ci := 7) (v := .ref h_a0_parting) (C := RX8) (T := TX8) (N := 6) hx hb hts hin_X8 hown hK hP 0 rfl rfl 2 (by decide) hw_0 (fun _ h9 => h9) rfl dX8_part_10 ?_
    refine lv_ifnonnull (tgt := 27) hx hb dX8_part_13 (by decide) ?_
    refine lv_aload_n hx hb dX8_part_27 rfl (lv_at hl 0 rfl) ?_
    refine va_get (D := (dC, dI)) (ci := 7) (v := .ref h_a0_parting) (C := RX8) (T := TX8) (N := 6) hx hb hts hin_X8 hown hK hP 0 rfl rfl 2 (by decide) hw_0 (fun _ h9 => h9) rfl dX8_part_28 ?_
    refine lv_lload_n hx hb dX8_part_31 rfl (lv_at hl 1 rfl) ?_
    refine lv_aload_n hx hb dX8_part_32 rfl (lv_at hl 0 rfl) ?_
    have hPc := hP.sub (ws' := [(h_a0, .inr (7, [.ref h_a0_primes, w_a0_sieved, .ref h_a0_parting, w_a0_primeSums, w_a0_progression, w_a0_rows])), (h_a0_primes, .inr (3, [.ref q_a0_primes_table, .int a0_primes_many])), (q_a0_primes_table, .inl (cI, 9592, .inl a0_primes_table))]) [0, 1, 2] rfl
    have hDc := hD.sub (ws' := [(h_a0, .inr (7, [.ref h_a0_primes, w_a0_sieved, .ref h_a0_parting, w_a0_primeSums, w_a0_progression, w_a0_rows])), (h_a0_primes, .inr (3, [.ref q_a0_primes_table, .int a0_primes_many])), (q_a0_primes_table, .inl (cI, 9592, .inl a0_primes_table))]) [0, 1, 2] (by decide) rfl
    have hFc := va_free (wc := [(h_a0, .inr (7, [.ref h_a0_primes, w_a0_sieved, .ref h_a0_parting, w_a0_primeSums, w_a0_progression, w_a0_rows])), (h_a0_primes, .inr (3, [.ref q_a0_primes_table, .int a0_primes_many])), (q_a0_primes_table, .inl (cI, 9592, .inl a0_primes_table))]) hD hS hA [0, 1, 2] rfl
    refine va_callr (va_runV (As := []) (rest := [.long p1, .ref h_a0_parting]) ⟨hx, hb, hml, hown, hts⟩ (c_X8_knownPrimes_c1 l dC dI cI cJ cZ _ h_a0 h_a0_primes a0_primes_table q_a0_primes_table a0_primes_many (w_a0_sieved) (.ref h_a0_parting) (w_a0_primeSums) (w_a0_progression) (w_a0_rows) _ h) (cwV 0 hts gX8_part_X8_knownPrimes rfl rfl rfl (by decide +kernel) ⟨Nat.le_of_ble_eq_true rfl, Nat.le_of_ble_eq_true rfl⟩) ⟨pre_fb, va_recv hK hPc (ci := 7) (q0 := 0) rfl rfl, pre_of hPc hDc hK hN⟩ rfl rfl hl.1 rfl (lv_room (Nat.le_of_ble_eq_true rfl)) dX8_part_33 ⟨by first | exact Nat.le_of_ble_eq_true rfl | exact Nat.le_refl _, by first | exact Nat.le_of_ble_eq_true rfl | exact Nat.le_refl _⟩) hS (fun q _ h => hFc q h) hFc (fun u ra t H1 locs ht hvm h hB hz1 hk1 hS => ?_)
    obtain ⟨hra, hP1, hD1⟩ := hB
    try dsimp only at hra
    subst ra
    rw [ht] at hP1
    try dsimp only at h
    obtain ⟨hP, hD⟩ := va_join (wr := [(h_a0_parting, .inr (1, [.ref q_a0_parting_factors, .ref q_a0_parting_powers, .long a0_parting_number, .int a0_parting_many])), (q_a0_parting_factors, .inl (cJ, 10, .inr (.inl a0_parting_factors))), (q_a0_parting_powers, .inl (cI, 10, .inl a0_parting_powers))]) (w1 := [(h_a0, .inr (7, [.ref h_a0_primes, w_a0_sieved, .ref h_a0_parting, w_a0_primeSums, w_a0_progression, w_a0_rows])), (h_a0_primes, .inr (3, [.ref q_a0_primes_table, .int a0_primes_many])), (q_a0_primes_table, .inl (cI, 9592, .inl a0_primes_table))]) hP hD [0, 1, 2] [3, 4, 5] rfl rfl (by decide) (by decide) hk1 hFc hP1 hD1
    generalize H1 = H at hP hS ⊢
    have hP : va_P (dC, dI) vwCl [(h_a0_parting, .inr (1, [.ref q_a0_parting_factors, .ref q_a0_parting_powers, .long a0_parting_number, .int a0_parting_many])), (q_a0_parting_factors, .inl (cJ, 10, .inr (.inl a0_parting_factors))), (q_a0_parting_powers, .inl (cI, 10, .inl a0_parting_powers)), (h_a0, .inr (7, [.ref h_a0_primes, w_a0_sieved, .ref h_a0_parting, w_a0_primeSums, w_a0_progression, w_a0_rows])), (h_a0_primes, .inr (3, [.ref q_a0_primes_table, .int a0_primes_many])), (q_a0_primes_table, .inl (cI, 9592, .inl a0_primes_table))] H := hP
    have hD : va_D A [(h_a0_parting, .inr (1, [.ref q_a0_parting_factors, .ref q_a0_parting_powers, .long a0_parting_number, .int a0_parting_many])), (q_a0_parting_factors, .inl (cJ, 10, .inr (.inl a0_parting_factors))), (q_a0_parting_powers, .inl (cI, 10, .inl a0_parting_powers)), (h_a0, .inr (7, [.ref h_a0_primes, w_a0_sieved, .ref h_a0_parting, w_a0_primeSums, w_a0_progression, w_a0_rows])), (h_a0_primes, .inr (3, [.ref q_a0_primes_table, .int a0_primes_many])), (q_a0_primes_table, .inl (cI, 9592, .inl a0_primes_table))] := hD
    have hPc := hP.sub (ws' := [(h_a0_parting, .inr (1, [.ref q_a0_parting_factors, .ref q_a0_parting_powers, .long a0_parting_number, .int a0_parting_many])), (q_a0_parting_factors, .inl (cJ, 10, .inr (.inl a0_parting_factors))), (q_a0_parting_powers, .inl (cI, 10, .inl a0_parting_powers)), (h_a0_primes, .inr (3, [.ref q_a0_primes_table, .int a0_primes_many])), (q_a0_primes_table, .inl (cI, 9592, .inl a0_primes_table))]) [0, 1, 2, 4, 5] rfl
    have hDc := hD.sub (ws' := [(h_a0_parting, .inr (1, [.ref q_a0_parting_factors, .ref q_a0_parting_powers, .long a0_parting_number, .int a0_parting_many])), (q_a0_parting_factors, .inl (cJ, 10, .inr (.inl a0_parting_factors))), (q_a0_parting_powers, .inl (cI, 10, .inl a0_parting_powers)), (h_a0_primes, .inr (3, [.ref q_a0_primes_table, .int a0_primes_many])), (q_a0_primes_table, .inl (cI, 9592, .inl a0_primes_table))]) [0, 1, 2, 4, 5] (by decide) rfl
    have hFc := va_free (wc := [(h_a0_parting, .inr (1, [.ref q_a0_parting_factors, .ref q_a0_parting_powers, .long a0_parting_number, .int a0_parting_many])), (q_a0_parting_factors, .inl (cJ, 10, .inr (.inl a0_parting_factors))), (q_a0_parting_powers, .inl (cI, 10, .inl a0_parting_powers)), (h_a0_primes, .inr (3, [.ref q_a0_primes_table, .int a0_primes_many])), (q_a0_primes_table, .inl (cI, 9592, .inl a0_primes_table))]) hD hS hA [0, 1, 2, 4, 5] rfl
    refine va_callv (va_runV (As := [.long p1, .ref h_a0_primes]) (rest := []) ⟨hx, hb, hml, hown, hts⟩ (c_X1_take l dC dI cI cJ cZ _ h_a0_parting a0_parting_factors q_a0_parting_factors a0_parting_powers q_a0_parting_powers a0_parting_number a0_parting_many h_a0_primes a0_primes_table q_a0_primes_table a0_primes_many p1 _ h) (cwV 2 hts gX8_part_X1_take rfl rfl rfl (by decide +kernel) ⟨Nat.le_of_ble_eq_true rfl, Nat.le_of_ble_eq_true rfl⟩) ⟨pre_fb, va_recv hK hPc (ci := 1) (q0 := 0) rfl rfl, pre_of hPc hDc hK hN⟩ rfl rfl hl.1 rfl (lv_room (Nat.le_of_ble_eq_true rfl)) dX8_part_36 ⟨by first | exact Nat.le_of_ble_eq_true rfl | exact Nat.le_refl _, by first | exact Nat.le_of_ble_eq_true rfl | exact Nat.le_refl _⟩) hS (fun q _ h => hFc q h) hFc (fun u t H1 locs ht hvm h hB hz1 hk1 hS => ?_)
    obtain ⟨o_3, o_4, o_5, o_6⟩ := u
    obtain ⟨hP1, hD1⟩ := hB
    rw [ht] at hP1
    try dsimp only at h
    obtain ⟨hP, hD⟩ := va_join (wr := [(h_a0, .inr (7, [.ref h_a0_primes, w_a0_sieved, .ref h_a0_parting, w_a0_primeSums, w_a0_progression, w_a0_rows]))]) (w1 := [(h_a0_parting, .inr (1, [.ref q_a0_parting_factors, .ref q_a0_parting_powers, .long o_3, .int o_4])), (q_a0_parting_factors, .inl (cJ, 10, .inr (.inl o_5))), (q_a0_parting_powers, .inl (cI, 10, .inl o_6)), (h_a0_primes, .inr (3, [.ref q_a0_primes_table, .int a0_primes_many])), (q_a0_primes_table, .inl (cI, 9592, .inl a0_primes_table))]) hP hD [0, 1, 2, 4, 5] [3] rfl rfl (by decide) (by decide) hk1 hFc hP1 hD1
    generalize H1 = H at hP hS ⊢
    have hP : va_P (dC, dI) vwCl [(h_a0, .inr (7, [.ref h_a0_primes, w_a0_sieved, .ref h_a0_parting, w_a0_primeSums, w_a0_progression, w_a0_rows])), (h_a0_parting, .inr (1, [.ref q_a0_parting_factors, .ref q_a0_parting_powers, .long o_3, .int o_4])), (q_a0_parting_factors, .inl (cJ, 10, .inr (.inl o_5))), (q_a0_parting_powers, .inl (cI, 10, .inl o_6)), (h_a0_primes, .inr (3, [.ref q_a0_primes_table, .int a0_primes_many])), (q_a0_primes_table, .inl (cI, 9592, .inl a0_primes_table))] H := hP
    have hD : va_D A [(h_a0, .inr (7, [.ref h_a0_primes, w_a0_sieved, .ref h_a0_parting, w_a0_primeSums, w_a0_progression, w_a0_rows])), (h_a0_parting, .inr (1, [.ref q_a0_parting_factors, .ref q_a0_parting_powers, .long o_3, .int o_4])), (q_a0_parting_factors, .inl (cJ, 10, .inr (.inl o_5))), (q_a0_parting_powers, .inl (cI, 10, .inl o_6)), (h_a0_primes, .inr (3, [.ref q_a0_primes_table, .int a0_primes_many])), (q_a0_primes_table, .inl (cI, 9592, .inl a0_primes_table))] := hD
    refine lv_aload_n hx hb dX8_part_39 rfl (lv_at hl 0 rfl) ?_
    refine va_get (D := (dC, dI)) (ci := 7) (v := .ref h_a0_parting) (C := RX8) (T := TX8) (N := 6) hx hb hts hin_X8 hown hK hP 0 rfl rfl 2 (by decide) hw_0 (fun _ h9 => h9) rfl dX8_part_40 ?_
    refine va_getN (D := (dC, dI)) (ci := 1) (v := .int o_4) (C := RX1) (T := TX1) (N := 4) hx hb hts hin_X1 hown hK hP 1 rfl rfl 3 (by decide) (nw_9 hN) (fun _ h9 => h9) rfl dX8_part_43 ?_
    have hP9 := hP.sub (ws' := [(h_a0, .inr (7, [.ref h_a0_primes, w_a0_sieved, .ref h_a0_parting, w_a0_primeSums, w_a0_progression, w_a0_rows])), (h_a0_primes, .inr (3, [.ref q_a0_primes_table, .int a0_primes_many])), (q_a0_primes_table, .inl (cI, 9592, .inl a0_primes_table)), (h_a0_parting, .inr (1, [.ref q_a0_parting_factors, .ref q_a0_parting_powers, .long o_3, .int o_4])), (q_a0_parting_factors, .inl (cJ, 10, .inr (.inl o_5))), (q_a0_parting_powers, .inl (cI, 10, .inl o_6))]) [0, 4, 5, 1, 2, 3] rfl
    have hD9 := hD.sub (ws' := [(h_a0, .inr (7, [.ref h_a0_primes, w_a0_sieved, .ref h_a0_parting, w_a0_primeSums, w_a0_progression, w_a0_rows])), (h_a0_primes, .inr (3, [.ref q_a0_primes_table, .int a0_primes_many])), (q_a0_primes_table, .inl (cI, 9592, .inl a0_primes_table)), (h_a0_parting, .inr (1, [.ref q_a0_parting_factors, .ref q_a0_parting_powers, .long o_3, .int o_4])), (q_a0_parting_factors, .inl (cJ, 10, .inr (.inl o_5))), (q_a0_parting_powers, .inl (cI, 10, .inl o_6))]) [0, 4, 5, 1, 2, 3] (by decide) rfl
    exact W.iret (v := o_4) hx hb hr (fun t ht hW => ⟨⟨_, (o_3, o_4, o_5, o_6), rfl, h, by rw [ht]; exact hP9, hD9⟩, hS.F ht⟩) hS.2.2 dX8_part_46
  · replace h := h.1 c_2
    refine lv_iconst (v := (-1 : Int32)) hx hb dX8_part_7 (by decide) ?_
    have hP9 := hP.sub (ws' := [(h_a0, .inr (7, [.ref h_a0_primes, w_a0_sieved, .ref h_a0_parting, w_a0_primeSums, w_a0_progression, w_a0_rows])), (h_a0_primes, .inr (3, [.ref q_a0_primes_table, .int a0_primes_many])), (q_a0_primes_table, .inl (cI, 9592, .inl a0_primes_table)), (h_a0_parting, .inr (1, [.ref q_a0_parting_factors, .ref q_a0_parting_powers, .long a0_parting_number, .int a0_parting_many])), (q_a0_parting_factors, .inl (cJ, 10, .inr (.inl a0_parting_factors))), (q_a0_parting_powers, .inl (cI, 10, .inl a0_parting_powers))]) [0, 1, 2, 3, 4, 5] rfl
    have hD9 := hD.sub (ws' := [(h_a0, .inr (7, [.ref h_a0_primes, w_a0_sieved, .ref h_a0_parting, w_a0_primeSums, w_a0_progression, w_a0_rows])), (h_a0_primes, .inr (3, [.ref q_a0_primes_table, .int a0_primes_many])), (q_a0_primes_table, .inl (cI, 9592, .inl a0_primes_table)), (h_a0_parting, .inr (1, [.ref q_a0_parting_factors, .ref q_a0_parting_powers, .long a0_parting_number, .int a0_parting_many])), (q_a0_parting_factors, .inl (cJ, 10, .inr (.inl a0_parting_factors))), (q_a0_parting_powers, .inl (cI, 10, .inl a0_parting_powers))]) [0, 1, 2, 3, 4, 5] (by decide) rfl
    exact W.iret (v := (-1 : Int32)) hx hb hr (fun t ht hW => ⟨⟨_, (a0_parting_number, a0_parting_many, a0_parting_factors, a0_parting_powers), rfl, h, by rw [ht]; exact hP9, hD9⟩, hS.F ht⟩) hS.2.2 dX8_part_8
def wp_X8_parts_c0  (p1 : Int32) (p2 : Int32) (Q : Int64 → Prop) : Prop :=
  Q (0 : Int64)
abbrev rm_X8_parts_c0 : Room := { frames := 1, cells := 0, slots := 0, locals := 21 }
abbrev qc_X8_parts_c0 (dC : Nat → ClassId) (dI : Nat → Nat → Nat) (cI cJ cZ : ClassId) (h_a0 : Nat) (w_a0_primes : Value) (w_a0_sieved : Value) (w_a0_primeSums : Value) (w_a0_progression : Value) (w_a0_rows : Value) (Q : Int64 → Prop) (A : Nat → Prop) : Array Value → State → Outcome → State → Prop := va_Ql (fun (r : Int64) (_ : Unit) => Q r) (post_ dC dI A (fun (u : Unit) => ([(h_a0, .inr (7, [w_a0_primes, w_a0_sieved, .null, w_a0_primeSums, w_a0_progression, w_a0_rows]))] : va_W))) A
set_option maxHeartbeats 4000000 in
set_option maxRecDepth 100000 in
theorem c_X8_parts_c0 (l : Launch) (dC : Nat → ClassId) (dI : Nat → Nat → Nat) (cI cJ cZ : ClassId) (sz : Nat) (h_a0 : Nat) (w_a0_primes : Value) (w_a0_sieved : Value) (w_a0_primeSums : Value) (w_a0_progression : Value) (w_a0_rows : Value) (p1 : Int32) (p2 : Int32) (Q : Int64 → Prop) (hQ : wp_X8_parts_c0 p1 p2 Q) : Met l yX8_parts wsX8_parts rm_X8_parts_c0 (pre_ dC dI cI cJ cZ [.ref h_a0, .int p1, .int p2] [(h_a0, .inr (7, [w_a0_primes, w_a0_sieved, .null, w_a0_primeSums, w_a0_progression, w_a0_rows]))] sz) (qc_X8_parts_c0 dC dI cI cJ cZ h_a0 w_a0_primes w_a0_sieved w_a0_primeSums w_a0_progression w_a0_rows Q (va_A [(h_a0, .inr (7, [w_a0_primes, w_a0_sieved, .null, w_a0_primeSums, w_a0_progression, w_a0_rows]))] sz)) 0 0 (va_A [(h_a0, .inr (7, [w_a0_primes, w_a0_sieved, .null, w_a0_primeSums, w_a0_progression, w_a0_rows]))] sz) := by
  refine Met.ofW (cc := cX8_parts) (maxL := 3) (ret := (some .long)) (by decide) rfl ?_
  intro p e s m args below meth c s₁ B hml hv
  obtain ⟨rfl, hsz, hP, hK, hN, hD0⟩ := hv
  have hx := B.exec
  have hb := B.bytes
  have hr := B.returns
  have hts := atoms_spec (ws := wsX8_parts) B.pre
  have hown : s.vm.findClass RX8 = some m.cls := findClass_of_methodNamed B.named
  subst hsz
  have hD := hD0.self (sz := s.heap.size)
  generalize hAe : va_A [(h_a0, .inr (7, [w_a0_primes, w_a0_sieved, .null, w_a0_primeSums, w_a0_progression, w_a0_rows]))] s.heap.size = A at hD ⊢
  have hA : ∀ q : Nat, s.heap.size ≤ q → A q := fun q h => by rw [← hAe]; exact Or.inr h
  have hS : va_S A s.heap s.heap [] := va_S.rf
  have hl := lv_entry ([.ref h_a0, .int p1, .int p2]) (n := 3) (Nat.le_of_ble_eq_true rfl)
  rw [lg_entry_eq]
  generalize (lg_sl ([.ref h_a0, .int p1, .int p2]) ++ List.replicate (3 - (lg_sl ([.ref h_a0, .int p1, .int p2])).length) Slot.unset).toArray = ls at hl ⊢
  have hl : lv_has ls 3 [(0, .ref h_a0), (1, .int p1), (2, .int p2)] := hl
  have h := hQ
  unfold wp_X8_parts_c0 at h
  have hw_0 := hts (.fieldLink RX8 69 "NumberSieves" "parting" "LNumberSieves$Parting;") (by decide +kernel)
  have hin_X8 : ∀ w ∈ wsX80, w ∈ wsX8_parts := by decide +kernel
  refine lv_aload_n hx hb dX8_parts_0 rfl (lv_at hl 0 rfl) ?_
  refine va_get (D := (dC, dI)) (ci := 7) (v := .null) (C := RX8) (T := TX8) (N := 6) hx hb hts hin_X8 hown hK hP 0 rfl rfl 2 (by decide) hw_0 (fun _ h9 => h9) rfl dX8_parts_1 ?_
  refine lv_ifnonnullN hx hb dX8_parts_4 ?_
  refine lv_lconst (v := (0 : Int64)) hx hb dX8_parts_7 (by decide) ?_
  have hP9 := hP.sub (ws' := [(h_a0, .inr (7, [w_a0_primes, w_a0_sieved, .null, w_a0_primeSums, w_a0_progression, w_a0_rows]))]) [0] rfl
  have hD9 := hD.sub (ws' := [(h_a0, .inr (7, [w_a0_primes, w_a0_sieved, .null, w_a0_primeSums, w_a0_progression, w_a0_rows]))]) [0] (by decide) rfl
  exact W.lret (v := (0 : Int64)) hx hb hr (fun t ht hW => ⟨⟨_, (), rfl, h, by rw [ht]; exact hP9, hD9⟩, hS.F ht⟩) hS.2.2 dX8_parts_8
def wp_X8_parts_c1 (a0_parting_factors : Nat → Int64) (a0_parting_powers : Nat → Int32) (a0_parting_many : Int32) (p1 : Int32) (p2 : Int32) (Q : Int64 → Prop) : Prop :=
  ((p2 = (0 : Int32) → wp_X1_primeOf a0_parting_factors a0_parting_many p1 (fun r_2 => Q r_2)) ∧ (p2 = (1 : Int32) → wp_X1_powerOf a0_parting_powers a0_parting_many p1 (fun r_4 => Q (r_4.toInt64))) ∧ (¬ p2 = (0 : Int32) → ¬ p2 = (1 : Int32) → Q (0 : Int64)))
abbrev rm_X8_parts_c1 : Room := { frames := 1, cells := 0, slots := 0, locals := 21 }
abbrev qc_X8_parts_c1 (dC : Nat → ClassId) (dI : Nat → Nat → Nat) (cI cJ cZ : ClassId) (h_a0 : Nat) (w_a0_primes : Value) (w_a0_sieved : Value) (h_a0_parting : Nat) (a0_parting_factors : Nat → Int64) (q_a0_parting_factors : Nat) (a0_parting_powers : Nat → Int32) (q_a0_parting_powers : Nat) (a0_parting_number : Int64) (a0_parting_many : Int32) (w_a0_primeSums : Value) (w_a0_progression : Value) (w_a0_rows : Value) (Q : Int64 → Prop) (A : Nat → Prop) : Array Value → State → Outcome → State → Prop := va_Ql (fun (r : Int64) (_ : Unit) => Q r) (post_ dC dI A (fun (u : Unit) => ([(h_a0, .inr (7, [w_a0_primes, w_a0_sieved, .ref h_a0_parting, w_a0_primeSums, w_a0_progression, w_a0_rows])), (h_a0_parting, .inr (1, [.ref q_a0_parting_factors, .ref q_a0_parting_powers, .long a0_parting_number, .int a0_parting_many])), (q_a0_parting_factors, .inl (cJ, 10, .inr (.inl a0_parting_factors))), (q_a0_parting_powers, .inl (cI, 10, .inl a0_parting_powers))] : va_W))) A
set_option maxHeartbeats 4000000 in
set_option maxRecDepth 100000 in
theorem c_X8_parts_c1 (l : Launch) (dC : Nat → ClassId) (dI : Nat → Nat → Nat) (cI cJ cZ : ClassId) (sz : Nat) (h_a0 : Nat) (w_a0_primes : Value) (w_a0_sieved : Value) (h_a0_parting : Nat) (a0_parting_factors : Nat → Int64) (q_a0_parting_factors : Nat) (a0_parting_powers : Nat → Int32) (q_a0_parting_powers : Nat) (a0_parting_number : Int64) (a0_parting_many : Int32) (w_a0_primeSums : Value) (w_a0_progression : Value) (w_a0_rows : Value) (p1 : Int32) (p2 : Int32) (Q : Int64 → Prop) (hQ : wp_X8_parts_c1 a0_parting_factors a0_parting_powers a0_parting_many p1 p2 Q) : Met l yX8_parts wsX8_parts rm_X8_parts_c1 (pre_ dC dI cI cJ cZ [.ref h_a0, .int p1, .int p2] [(h_a0, .inr (7, [w_a0_primes, w_a0_sieved, .ref h_a0_parting, w_a0_primeSums, w_a0_progression, w_a0_rows])), (h_a0_parting, .inr (1, [.ref q_a0_parting_factors, .ref q_a0_parting_powers, .long a0_parting_number, .int a0_parting_many])), (q_a0_parting_factors, .inl (cJ, 10, .inr (.inl a0_parting_factors))), (q_a0_parting_powers, .inl (cI, 10, .inl a0_parting_powers))] sz) (qc_X8_parts_c1 dC dI cI cJ cZ h_a0 w_a0_primes w_a0_sieved h_a0_parting a0_parting_factors q_a0_parting_factors a0_parting_powers q_a0_parting_powers a0_parting_number a0_parting_many w_a0_primeSums w_a0_progression w_a0_rows Q (va_A [(h_a0, .inr (7, [w_a0_primes, w_a0_sieved, .ref h_a0_parting, w_a0_primeSums, w_a0_progression, w_a0_rows])), (h_a0_parting, .inr (1, [.ref q_a0_parting_factors, .ref q_a0_parting_powers, .long a0_parting_number, .int a0_parting_many])), (q_a0_parting_factors, .inl (cJ, 10, .inr (.inl a0_parting_factors))), (q_a0_parting_powers, .inl (cI, 10, .inl a0_parting_powers))] sz)) 0 0 (va_A [(h_a0, .inr (7, [w_a0_primes, w_a0_sieved, .ref h_a0_parting, w_a0_primeSums, w_a0_progression, w_a0_rows])), (h_a0_parting, .inr (1, [.ref q_a0_parting_factors, .ref q_a0_parting_powers, .long a0_parting_number, .int a0_parting_many])), (q_a0_parting_factors, .inl (cJ, 10, .inr (.inl a0_parting_factors))), (q_a0_parting_powers, .inl (cI, 10, .inl a0_parting_powers))] sz) := by
  refine Met.ofW (cc := cX8_parts) (maxL := 3) (ret := (some .long)) (by decide) rfl ?_
  intro p e s m args below meth c s₁ B hml hv
  obtain ⟨rfl, hsz, hP, hK, hN, hD0⟩ := hv
  have hx := B.exec
  have hb := B.bytes
  have hr := B.returns
  have hts := atoms_spec (ws := wsX8_parts) B.pre
  have hown : s.vm.findClass RX8 = some m.cls := findClass_of_methodNamed B.named
  subst hsz
  have hD := hD0.self (sz := s.heap.size)
  generalize hAe : va_A [(h_a0, .inr (7, [w_a0_primes, w_a0_sieved, .ref h_a0_parting, w_a0_primeSums, w_a0_progression, w_a0_rows])), (h_a0_parting, .inr (1, [.ref q_a0_parting_factors, .ref q_a0_parting_powers, .long a0_parting_number, .int a0_parting_many])), (q_a0_parting_factors, .inl (cJ, 10, .inr (.inl a0_parting_factors))), (q_a0_parting_powers, .inl (cI, 10, .inl a0_parting_powers))] s.heap.size = A at hD ⊢
  have hA : ∀ q : Nat, s.heap.size ≤ q → A q := fun q h => by rw [← hAe]; exact Or.inr h
  have hS : va_S A s.heap s.heap [] := va_S.rf
  have hl := lv_entry ([.ref h_a0, .int p1, .int p2]) (n := 3) (Nat.le_of_ble_eq_true rfl)
  rw [lg_entry_eq]
  generalize (lg_sl ([.ref h_a0, .int p1, .int p2]) ++ List.replicate (3 - (lg_sl ([.ref h_a0, .int p1, .int p2])).length) Slot.unset).toArray = ls at hl ⊢
  have hl : lv_has ls 3 [(0, .ref h_a0), (1, .int p1), (2, .int p2)] := hl
  have h := hQ
  unfold wp_X8_parts_c1 at h
  have hw_0 := hts (.fieldLink RX8 69 "NumberSieves" "parting" "LNumberSieves$Parting;") (by decide +kernel)
  have hin_X8 : ∀ w ∈ wsX80, w ∈ wsX8_parts := by decide +kernel
  refine lv_aload_n hx hb dX8_parts_0 rfl (lv_at hl 0 rfl) ?_
  refine va_get (D := (dC, dI)) (ci := 7) (v := .ref h_a0_parting) (C := RX8) (T := TX8) (N := 6) hx hb hts hin_X8 hown hK hP 0 rfl rfl 2 (by decide) hw_0 (fun _ h9 => h9) rfl dX8_parts_1 ?_
  refine lv_ifnonnull (tgt := 9) hx hb dX8_parts_4 (by decide) ?_
  refine lv_iload_n hx hb dX8_parts_9 rfl (lv_at hl 2 rfl) ?_
  by_cases c_1 : p2 = (0 : Int32)
  · refine lv_lookup (off := 26) (tgt := 36) hx hb dX8_parts_10 (by decide) (by rw [c_1]; decide) (by decide) ?_
    replace h := h.1 c_1
    refine lv_aload_n hx hb dX8_parts_36 rfl (lv_at hl 0 rfl) ?_
    refine va_get (D := (dC, dI)) (ci := 7) (v := .ref h_a0_parting) (C := RX8) (T := TX8) (N := 6) hx hb hts hin_X8 hown hK hP 0 rfl rfl 2 (by decide) hw_0 (fun _ h9 => h9) rfl dX8_parts_37 ?_
    refine lv_iload_n hx hb dX8_parts_40 rfl (lv_at hl 1 rfl) ?_
    have hPc := hP.sub (ws' := [(h_a0_parting, .inr (1, [.ref q_a0_parting_factors, .ref q_a0_parting_powers, .long a0_parting_number, .int a0_parting_many])), (q_a0_parting_factors, .inl (cJ, 10, .inr (.inl a0_parting_factors)))]) [1, 2] rfl
    have hDc := hD.sub (ws' := [(h_a0_parting, .inr (1, [.ref q_a0_parting_factors, .ref q_a0_parting_powers, .long a0_parting_number, .int a0_parting_many])), (q_a0_parting_factors, .inl (cJ, 10, .inr (.inl a0_parting_factors)))]) [1, 2] (by decide) rfl
    have hFc := va_free (wc := [(h_a0_parting, .inr (1, [.ref q_a0_parting_factors, .ref q_a0_parting_powers, .long a0_parting_number, .int a0_parting_many])), (q_a0_parting_factors, .inl (cJ, 10, .inr (.inl a0_parting_factors)))]) hD hS hA [1, 2] rfl
    refine va_calll (va_runV (As := [.int p1]) (rest := []) ⟨hx, hb, hml, hown, hts⟩ (c_X1_primeOf l dC dI cI cJ cZ _ h_a0_parting a0_parting_factors q_a0_parting_factors (.ref q_a0_parting_powers) a0_parting_number a0_parting_many p1 _ h) (cwV 1 hts gX8_parts_X1_primeOf rfl rfl rfl (by decide +kernel) ⟨Nat.le_of_ble_eq_true rfl, Nat.le_of_ble_eq_true rfl⟩) ⟨pre_fb, va_recv hK hPc (ci := 1) (q0 := 0) rfl rfl, pre_of hPc hDc hK hN⟩ rfl rfl hl.1 rfl (lv_room (Nat.le_of_ble_eq_true rfl)) dX8_parts_41 ⟨by first | exact Nat.le_of_ble_eq_true rfl | exact Nat.le_refl _, by first | exact Nat.le_of_ble_eq_true rfl | exact Nat.le_refl _⟩) hS (fun q _ h => hFc q h) hFc (fun r_2 u t H1 locs ht hvm h hB hz1 hk1 hS => ?_)
    obtain ⟨hP1, hD1⟩ := hB
    rw [ht] at hP1
    try dsimp only at h
    obtain ⟨hP, hD⟩ := va_join (wr := [(h_a0, .inr (7, [w_a0_primes, w_a0_sieved, .ref h_a0_parting, w_a0_primeSums, w_a0_progression, w_a0_rows])), (q_a0_parting_powers, .inl (cI, 10, .inl a0_parting_powers))]) (w1 := [(h_a0_parting, .inr (1, [.ref q_a0_parting_factors, .ref q_a0_parting_powers, .long a0_parting_number, .int a0_parting_many])), (q_a0_parting_factors, .inl (cJ, 10, .inr (.inl a0_parting_factors)))]) hP hD [1, 2] [0, 3] rfl rfl (by decide) (by decide) hk1 hFc hP1 hD1
    generalize H1 = H at hP hS ⊢
    have hP : va_P (dC, dI) vwCl [(h_a0, .inr (7, [w_a0_primes, w_a0_sieved, .ref h_a0_parting, w_a0_primeSums, w_a0_progression, w_a0_rows])), (q_a0_parting_powers, .inl (cI, 10, .inl a0_parting_powers)), (h_a0_parting, .inr (1, [.ref q_a0_parting_factors, .ref q_a0_parting_powers, .long a0_parting_number, .int a0_parting_many])), (q_a0_parting_factors, .inl (cJ, 10, .inr (.inl a0_parting_factors)))] H := hP
    have hD : va_D A [(h_a0, .inr (7, [w_a0_primes, w_a0_sieved, .ref h_a0_parting, w_a0_primeSums, w_a0_progression, w_a0_rows])), (q_a0_parting_powers, .inl (cI, 10, .inl a0_parting_powers)), (h_a0_parting, .inr (1, [.ref q_a0_parting_factors, .ref q_a0_parting_powers, .long a0_parting_number, .int a0_parting_many])), (q_a0_parting_factors, .inl (cJ, 10, .inr (.inl a0_parting_factors)))] := hD
    have hP9 := hP.sub (ws' := [(h_a0, .inr (7, [w_a0_primes, w_a0_sieved, .ref h_a0_parting, w_a0_primeSums, w_a0_progression, w_a0_rows])), (h_a0_parting, .inr (1, [.ref q_a0_parting_factors, .ref q_a0_parting_powers, .long a0_parting_number, .int a0_parting_many])), (q_a0_parting_factors, .inl (cJ, 10, .inr (.inl a0_parting_factors))), (q_a0_parting_powers, .inl (cI, 10, .inl a0_parting_powers))]) [0, 2, 3, 1] rfl
    have hD9 := hD.sub (ws' := [(h_a0, .inr (7, [w_a0_primes, w_a0_sieved, .ref h_a0_parting, w_a0_primeSums, w_a0_progression, w_a0_rows])), (h_a0_parting, .inr (1, [.ref q_a0_parting_factors, .ref q_a0_parting_powers, .long a0_parting_number, .int a0_parting_many])), (q_a0_parting_factors, .inl (cJ, 10, .inr (.inl a0_parting_factors))), (q_a0_parting_powers, .inl (cI, 10, .inl a0_parting_powers))]) [0, 2, 3, 1] (by decide) rfl
    exact W.lret (v := r_2) hx hb hr (fun t ht hW => ⟨⟨_, (), rfl, h, by rw [ht]; exact hP9, hD9⟩, hS.F ht⟩) hS.2.2 dX8_parts_44
  by_cases c_3 : p2 = (1 : Int32)
  · refine lv_lookup (off := 35) (tgt := 45) hx hb dX8_parts_10 (by decide) (by rw [c_3]; decide) (by decide) ?_
    replace h := h.2.1 c_3
    refine lv_aload_n hx hb dX8_parts_45 rfl (lv_at hl 0 rfl) ?_
    refine va_get (D := (dC, dI)) (ci := 7) (v := .ref h_a0_parting) (C := RX8) (T := TX8) (N := 6) hx hb hts hin_X8 hown hK hP 0 rfl rfl 2 (by decide) hw_0 (fun _ h9 => h9) rfl dX8_parts_46 ?_
    refine lv_iload_n hx hb dX8_parts_49 rfl (lv_at hl 1 rfl) ?_
    have hPc := hP.sub (ws' := [(h_a0_parting, .inr (1, [.ref q_a0_parting_factors, .ref q_a0_parting_powers, .long a0_parting_number, .int a0_parting_many])), (q_a0_parting_powers, .inl (cI, 10, .inl a0_parting_powers))]) [1, 3] rfl
    have hDc := hD.sub (ws' := [(h_a0_parting, .inr (1, [.ref q_a0_parting_factors, .ref q_a0_parting_powers, .long a0_parting_number, .int a0_parting_many])), (q_a0_parting_powers, .inl (cI, 10, .inl a0_parting_powers))]) [1, 3] (by decide) rfl
    have hFc := va_free (wc := [(h_a0_parting, .inr (1, [.ref q_a0_parting_factors, .ref q_a0_parting_powers, .long a0_parting_number, .int a0_parting_many])), (q_a0_parting_powers, .inl (cI, 10, .inl a0_parting_powers))]) hD hS hA [1, 3] rfl
    refine va_calli (va_runV (As := [.int p1]) (rest := []) ⟨hx, hb, hml, hown, hts⟩ (c_X1_powerOf l dC dI cI cJ cZ _ h_a0_parting (.ref q_a0_parting_factors) a0_parting_powers q_a0_parting_powers a0_parting_number a0_parting_many p1 _ h) (cwV 1 hts gX8_parts_X1_powerOf rfl rfl rfl (by decide +kernel) ⟨Nat.le_of_ble_eq_true rfl, Nat.le_of_ble_eq_true rfl⟩) ⟨pre_fb, va_recv hK hPc (ci := 1) (q0 := 0) rfl rfl, pre_of hPc hDc hK hN⟩ rfl rfl hl.1 rfl (lv_room (Nat.le_of_ble_eq_true rfl)) dX8_parts_50 ⟨by first | exact Nat.le_of_ble_eq_true rfl | exact Nat.le_refl _, by first | exact Nat.le_of_ble_eq_true rfl | exact Nat.le_refl _⟩) hS (fun q _ h => hFc q h) hFc (fun r_4 u t H1 locs ht hvm h hB hz1 hk1 hS => ?_)
    obtain ⟨hP1, hD1⟩ := hB
    rw [ht] at hP1
    try dsimp only at h
    obtain ⟨hP, hD⟩ := va_join (wr := [(h_a0, .inr (7, [w_a0_primes, w_a0_sieved, .ref h_a0_parting, w_a0_primeSums, w_a0_progression, w_a0_rows])), (q_a0_parting_factors, .inl (cJ, 10, .inr (.inl a0_parting_factors)))]) (w1 := [(h_a0_parting, .inr (1, [.ref q_a0_parting_factors, .ref q_a0_parting_powers, .long a0_parting_number, .int a0_parting_many])), (q_a0_parting_powers, .inl (cI, 10, .inl a0_parting_powers))]) hP hD [1, 3] [0, 2] rfl rfl (by decide) (by decide) hk1 hFc hP1 hD1
    generalize H1 = H at hP hS ⊢
    have hP : va_P (dC, dI) vwCl [(h_a0, .inr (7, [w_a0_primes, w_a0_sieved, .ref h_a0_parting, w_a0_primeSums, w_a0_progression, w_a0_rows])), (q_a0_parting_factors, .inl (cJ, 10, .inr (.inl a0_parting_factors))), (h_a0_parting, .inr (1, [.ref q_a0_parting_factors, .ref q_a0_parting_powers, .long a0_parting_number, .int a0_parting_many])), (q_a0_parting_powers, .inl (cI, 10, .inl a0_parting_powers))] H := hP
    have hD : va_D A [(h_a0, .inr (7, [w_a0_primes, w_a0_sieved, .ref h_a0_parting, w_a0_primeSums, w_a0_progression, w_a0_rows])), (q_a0_parting_factors, .inl (cJ, 10, .inr (.inl a0_parting_factors))), (h_a0_parting, .inr (1, [.ref q_a0_parting_factors, .ref q_a0_parting_powers, .long a0_parting_number, .int a0_parting_many])), (q_a0_parting_powers, .inl (cI, 10, .inl a0_parting_powers))] := hD
    refine lv_i2l hx hb dX8_parts_53 rfl ?_
    have hP9 := hP.sub (ws' := [(h_a0, .inr (7, [w_a0_primes, w_a0_sieved, .ref h_a0_parting, w_a0_primeSums, w_a0_progression, w_a0_rows])), (h_a0_parting, .inr (1, [.ref q_a0_parting_factors, .ref q_a0_parting_powers, .long a0_parting_number, .int a0_parting_many])), (q_a0_parting_factors, .inl (cJ, 10, .inr (.inl a0_parting_factors))), (q_a0_parting_powers, .inl (cI, 10, .inl a0_parting_powers))]) [0, 2, 1, 3] rfl
    have hD9 := hD.sub (ws' := [(h_a0, .inr (7, [w_a0_primes, w_a0_sieved, .ref h_a0_parting, w_a0_primeSums, w_a0_progression, w_a0_rows])), (h_a0_parting, .inr (1, [.ref q_a0_parting_factors, .ref q_a0_parting_powers, .long a0_parting_number, .int a0_parting_many])), (q_a0_parting_factors, .inl (cJ, 10, .inr (.inl a0_parting_factors))), (q_a0_parting_powers, .inl (cI, 10, .inl a0_parting_powers))]) [0, 2, 1, 3] (by decide) rfl
    exact W.lret (v := r_4.toInt64) hx hb hr (fun t ht hW => ⟨⟨_, (), rfl, h, by rw [ht]; exact hP9, hD9⟩, hS.F ht⟩) hS.2.2 dX8_parts_54
  have t0 : p2.toInt ≠ 0 := fun q => c_1 (Int32.toInt_inj.mp (q.trans (by decide)))
  have t1 : p2.toInt ≠ 1 := fun q => c_3 (Int32.toInt_inj.mp (q.trans (by decide)))
  refine lv_lookup (off := 45) (tgt := 55) hx hb dX8_parts_10 (by decide) (by simp [Op.lookupswitch.offset, Ne.symm t0, Ne.symm t1]) (by decide) ?_
  replace h := h.2.2 c_1 c_3
  refine lv_lconst (v := (0 : Int64)) hx hb dX8_parts_55 (by decide) ?_
  have hP9 := hP.sub (ws' := [(h_a0, .inr (7, [w_a0_primes, w_a0_sieved, .ref h_a0_parting, w_a0_primeSums, w_a0_progression, w_a0_rows])), (h_a0_parting, .inr (1, [.ref q_a0_parting_factors, .ref q_a0_parting_powers, .long a0_parting_number, .int a0_parting_many])), (q_a0_parting_factors, .inl (cJ, 10, .inr (.inl a0_parting_factors))), (q_a0_parting_powers, .inl (cI, 10, .inl a0_parting_powers))]) [0, 1, 2, 3] rfl
  have hD9 := hD.sub (ws' := [(h_a0, .inr (7, [w_a0_primes, w_a0_sieved, .ref h_a0_parting, w_a0_primeSums, w_a0_progression, w_a0_rows])), (h_a0_parting, .inr (1, [.ref q_a0_parting_factors, .ref q_a0_parting_powers, .long a0_parting_number, .int a0_parting_many])), (q_a0_parting_factors, .inl (cJ, 10, .inr (.inl a0_parting_factors))), (q_a0_parting_powers, .inl (cI, 10, .inl a0_parting_powers))]) [0, 1, 2, 3] (by decide) rfl
  exact W.lret (v := (0 : Int64)) hx hb hr (fun t ht hW => ⟨⟨_, (), rfl, h, by rw [ht]; exact hP9, hD9⟩, hS.F ht⟩) hS.2.2 dX8_parts_56
def wp_X8_parted_c0  (p1 : Int32) (Q : Int64 → Prop) : Prop :=
  Q (0 : Int64)
abbrev rm_X8_parted_c0 : Room := { frames := 1, cells := 0, slots := 0, locals := 26 }
abbrev qc_X8_parted_c0 (dC : Nat → ClassId) (dI : Nat → Nat → Nat) (cI cJ cZ : ClassId) (h_a0 : Nat) (w_a0_primes : Value) (w_a0_sieved : Value) (w_a0_primeSums : Value) (w_a0_progression : Value) (w_a0_rows : Value) (Q : Int64 → Prop) (A : Nat → Prop) : Array Value → State → Outcome → State → Prop := va_Ql (fun (r : Int64) (_ : Unit) => Q r) (post_ dC dI A (fun (u : Unit) => ([(h_a0, .inr (7, [w_a0_primes, w_a0_sieved, .null, w_a0_primeSums, w_a0_progression, w_a0_rows]))] : va_W))) A
set_option maxHeartbeats 4000000 in
set_option maxRecDepth 100000 in
theorem c_X8_parted_c0 (l : Launch) (dC : Nat → ClassId) (dI : Nat → Nat → Nat) (cI cJ cZ : ClassId) (sz : Nat) (h_a0 : Nat) (w_a0_primes : Value) (w_a0_sieved : Value) (w_a0_primeSums : Value) (w_a0_progression : Value) (w_a0_rows : Value) (p1 : Int32) (Q : Int64 → Prop) (hQ : wp_X8_parted_c0 p1 Q) : Met l yX8_parted wsX8_parted rm_X8_parted_c0 (pre_ dC dI cI cJ cZ [.ref h_a0, .int p1] [(h_a0, .inr (7, [w_a0_primes, w_a0_sieved, .null, w_a0_primeSums, w_a0_progression, w_a0_rows]))] sz) (qc_X8_parted_c0 dC dI cI cJ cZ h_a0 w_a0_primes w_a0_sieved w_a0_primeSums w_a0_progression w_a0_rows Q (va_A [(h_a0, .inr (7, [w_a0_primes, w_a0_sieved, .null, w_a0_primeSums, w_a0_progression, w_a0_rows]))] sz)) 0 0 (va_A [(h_a0, .inr (7, [w_a0_primes, w_a0_sieved, .null, w_a0_primeSums, w_a0_progression, w_a0_rows]))] sz) := by
  refine Met.ofW (cc := cX8_parted) (maxL := 2) (ret := (some .long)) (by decide) rfl ?_
  intro p e s m args below meth c s₁ B hml hv
  obtain ⟨rfl, hsz, hP, hK, hN, hD0⟩ := hv
  have hx := B.exec
  have hb := B.bytes
  have hr := B.returns
  have hts := atoms_spec (ws := wsX8_parted) B.pre
  have hown : s.vm.findClass RX8 = some m.cls := findClass_of_methodNamed B.named
  subst hsz
  have hD := hD0.self (sz := s.heap.size)
  generalize hAe : va_A [(h_a0, .inr (7, [w_a0_primes, w_a0_sieved, .null, w_a0_primeSums, w_a0_progression, w_a0_rows]))] s.heap.size = A at hD ⊢
  have hA : ∀ q : Nat, s.heap.size ≤ q → A q := fun q h => by rw [← hAe]; exact Or.inr h
  have hS : va_S A s.heap s.heap [] := va_S.rf
  have hl := lv_entry ([.ref h_a0, .int p1]) (n := 2) (Nat.le_of_ble_eq_true rfl)
  rw [lg_entry_eq]
  generalize (lg_sl ([.ref h_a0, .int p1]) ++ List.replicate (2 - (lg_sl ([.ref h_a0, .int p1])).length) Slot.unset).toArray = ls at hl ⊢
  have hl : lv_has ls 2 [(0, .ref h_a0), (1, .int p1)] := hl
  have h := hQ
  unfold wp_X8_parted_c0 at h
  have hw_0 := hts (.fieldLink RX8 69 "NumberSieves" "parting" "LNumberSieves$Parting;") (by decide +kernel)
  have hin_X8 : ∀ w ∈ wsX80, w ∈ wsX8_parted := by decide +kernel
  refine lv_aload_n hx hb dX8_parted_0 rfl (lv_at hl 0 rfl) ?_
  refine va_get (D := (dC, dI)) (ci := 7) (v := .null) (C := RX8) (T := TX8) (N := 6) hx hb hts hin_X8 hown hK hP 0 rfl rfl 2 (by decide) hw_0 (fun _ h9 => h9) rfl dX8_parted_1 ?_
  refine lv_ifnonnullN hx hb dX8_parted_4 ?_
  refine lv_lconst (v := (0 : Int64)) hx hb dX8_parted_7 (by decide) ?_
  have hP9 := hP.sub (ws' := [(h_a0, .inr (7, [w_a0_primes, w_a0_sieved, .null, w_a0_primeSums, w_a0_progression, w_a0_rows]))]) [0] rfl
  have hD9 := hD.sub (ws' := [(h_a0, .inr (7, [w_a0_primes, w_a0_sieved, .null, w_a0_primeSums, w_a0_progression, w_a0_rows]))]) [0] (by decide) rfl
  exact W.lret (v := (0 : Int64)) hx hb hr (fun t ht hW => ⟨⟨_, (), rfl, h, by rw [ht]; exact hP9, hD9⟩, hS.F ht⟩) hS.2.2 dX8_parted_8
def wp_X8_parted_c1 (a0_parting_factors : Nat → Int64) (a0_parting_powers : Nat → Int32) (a0_parting_number : Int64) (a0_parting_many : Int32) (p1 : Int32) (Q : Int64 → Prop) : Prop :=
  ((p1 = (0 : Int32) → Q a0_parting_number) ∧ (p1 = (1 : Int32) → wp_X1_divisorCount a0_parting_powers a0_parting_many (fun r_3 => Q r_3)) ∧ (p1 = (2 : Int32) → wp_X1_divisorSum a0_parting_factors a0_parting_powers a0_parting_many (fun r_5 => Q r_5)) ∧ (p1 = (3 : Int32) → wp_X1_euler a0_parting_factors a0_parting_number a0_parting_many (fun r_7 => Q r_7)) ∧ (p1 = (4 : Int32) → wp_X1_moebius a0_parting_powers a0_parting_many (fun r_9 => Q (r_9.toInt64))) ∧ (p1 = (5 : Int32) → wp_X1_primeProduct a0_parting_factors a0_parting_many (fun r_11 => Q r_11)) ∧ (¬ p1 = (0 : Int32) → ¬ p1 = (1 : Int32) → ¬ p1 = (2 : Int32) → ¬ p1 = (3 : Int32) → ¬ p1 = (4 : Int32) → ¬ p1 = (5 : Int32) → Q (0 : Int64)))
abbrev rm_X8_parted_c1 : Room := { frames := 1, cells := 0, slots := 0, locals := 26 }
abbrev qc_X8_parted_c1 (dC : Nat → ClassId) (dI : Nat → Nat → Nat) (cI cJ cZ : ClassId) (h_a0 : Nat) (w_a0_primes : Value) (w_a0_sieved : Value) (h_a0_parting : Nat) (a0_parting_factors : Nat → Int64) (q_a0_parting_factors : Nat) (a0_parting_powers : Nat → Int32) (q_a0_parting_powers : Nat) (a0_parting_number : Int64) (a0_parting_many : Int32) (w_a0_primeSums : Value) (w_a0_progression : Value) (w_a0_rows : Value) (Q : Int64 → Prop) (A : Nat → Prop) : Array Value → State → Outcome → State → Prop := va_Ql (fun (r : Int64) (_ : Unit) => Q r) (post_ dC dI A (fun (u : Unit) => ([(h_a0, .inr (7, [w_a0_primes, w_a0_sieved, .ref h_a0_parting, w_a0_primeSums, w_a0_progression, w_a0_rows])), (h_a0_parting, .inr (1, [.ref q_a0_parting_factors, .ref q_a0_parting_powers, .long a0_parting_number, .int a0_parting_many])), (q_a0_parting_factors, .inl (cJ, 10, .inr (.inl a0_parting_factors))), (q_a0_parting_powers, .inl (cI, 10, .inl a0_parting_powers))] : va_W))) A
set_option maxHeartbeats 4000000 in
set_option maxRecDepth 100000 in
theorem c_X8_parted_c1 (l : Launch) (dC : Nat → ClassId) (dI : Nat → Nat → Nat) (cI cJ cZ : ClassId) (sz : Nat) (h_a0 : Nat) (w_a0_primes : Value) (w_a0_sieved : Value) (h_a0_parting : Nat) (a0_parting_factors : Nat → Int64) (q_a0_parting_factors : Nat) (a0_parting_powers : Nat → Int32) (q_a0_parting_powers : Nat) (a0_parting_number : Int64) (a0_parting_many : Int32) (w_a0_primeSums : Value) (w_a0_progression : Value) (w_a0_rows : Value) (p1 : Int32) (Q : Int64 → Prop) (hQ : wp_X8_parted_c1 a0_parting_factors a0_parting_powers a0_parting_number a0_parting_many p1 Q) : Met l yX8_parted wsX8_parted rm_X8_parted_c1 (pre_ dC dI cI cJ cZ [.ref h_a0, .int p1] [(h_a0, .inr (7, [w_a0_primes, w_a0_sieved, .ref h_a0_parting, w_a0_primeSums, w_a0_progression, w_a0_rows])), (h_a0_parting, .inr (1, [.ref q_a0_parting_factors, .ref q_a0_parting_powers, .long a0_parting_number, .int a0_parting_many])), (q_a0_parting_factors, .inl (cJ, 10, .inr (.inl a0_parting_factors))), (q_a0_parting_powers, .inl (cI, 10, .inl a0_parting_powers))] sz) (qc_X8_parted_c1 dC dI cI cJ cZ h_a0 w_a0_primes w_a0_sieved h_a0_parting a0_parting_factors q_a0_parting_factors a0_parting_powers q_a0_parting_powers a0_parting_number a0_parting_many w_a0_primeSums w_a0_progression w_a0_rows Q (va_A [(h_a0, .inr (7, [w_a0_primes, w_a0_sieved, .ref h_a0_parting, w_a0_primeSums, w_a0_progression, w_a0_rows])), (h_a0_parting, .inr (1, [.ref q_a0_parting_factors, .ref q_a0_parting_powers, .long a0_parting_number, .int a0_parting_many])), (q_a0_parting_factors, .inl (cJ, 10, .inr (.inl a0_parting_factors))), (q_a0_parting_powers, .inl (cI, 10, .inl a0_parting_powers))] sz)) 0 0 (va_A [(h_a0, .inr (7, [w_a0_primes, w_a0_sieved, .ref h_a0_parting, w_a0_primeSums, w_a0_progression, w_a0_rows])), (h_a0_parting, .inr (1, [.ref q_a0_parting_factors, .ref q_a0_parting_powers, .long a0_parting_number, .int a0_parting_many])), (q_a0_parting_factors, .inl (cJ, 10, .inr (.inl a0_parting_factors))), (q_a0_parting_powers, .inl (cI, 10, .inl a0_parting_powers))] sz) := by
  refine Met.ofW (cc := cX8_parted) (maxL := 2) (ret := (some .long)) (by decide) rfl ?_
  intro p e s m args below meth c s₁ B hml hv
  obtain ⟨rfl, hsz, hP, hK, hN, hD0⟩ := hv
  have hx := B.exec
  have hb := B.bytes
  have hr := B.returns
  have hts := atoms_spec (ws := wsX8_parted) B.pre
  have hown : s.vm.findClass RX8 = some m.cls := findClass_of_methodNamed B.named
  subst hsz
  have hD := hD0.self (sz := s.heap.size)
  generalize hAe : va_A [(h_a0, .inr (7, [w_a0_primes, w_a0_sieved, .ref h_a0_parting, w_a0_primeSums, w_a0_progression, w_a0_rows])), (h_a0_parting, .inr (1, [.ref q_a0_parting_factors, .ref q_a0_parting_powers, .long a0_parting_number, .int a0_parting_many])), (q_a0_parting_factors, .inl (cJ, 10, .inr (.inl a0_parting_factors))), (q_a0_parting_powers, .inl (cI, 10, .inl a0_parting_powers))] s.heap.size = A at hD ⊢
  have hA : ∀ q : Nat, s.heap.size ≤ q → A q := fun q h => by rw [← hAe]; exact Or.inr h
  have hS : va_S A s.heap s.heap [] := va_S.rf
  have hl := lv_entry ([.ref h_a0, .int p1]) (n := 2) (Nat.le_of_ble_eq_true rfl)
  rw [lg_entry_eq]
  generalize (lg_sl ([.ref h_a0, .int p1]) ++ List.replicate (2 - (lg_sl ([.ref h_a0, .int p1])).length) Slot.unset).toArray = ls at hl ⊢
  have hl : lv_has ls 2 [(0, .ref h_a0), (1, .int p1)] := hl
  have h := hQ
  unfold wp_X8_parted_c1 at h
  have hw_0 := hts (.fieldLink RX8 69 "NumberSieves" "parting" "LNumberSieves$Parting;") (by decide +kernel)
  have hin_X8 : ∀ w ∈ wsX80, w ∈ wsX8_parted := by decide +kernel
  have hin_X1 : ∀ w ∈ wsX10, w ∈ wsX8_parted := by decide +kernel
  refine lv_aload_n hx hb dX8_parted_0 rfl (lv_at hl 0 rfl) ?_
  refine va_get (D := (dC, dI)) (ci := 7) (v := .ref h_a0_parting) (C := RX8) (T := TX8) (N := 6) hx hb hts hin_X8 hown hK hP 0 rfl rfl 2 (by decide) hw_0 (fun _ h9 => h9) rfl dX8_parted_1 ?_
  refine lv_ifnonnull (tgt := 9) hx hb dX8_parted_4 (by decide) ?_
  refine lv_iload_n hx hb dX8_parted_9 rfl (lv_at hl 1 rfl) ?_
  by_cases c_1 : p1 = (0 : Int32)
  · refine lv_tableIn (off := 38) (tgt := 48) hx hb dX8_parted_10 (by rw [c_1]; decide) (by rw [c_1]; decide) (by rw [c_1]; rfl) (by decide) ?_
    replace h := h.1 c_1
    refine lv_aload_n hx hb dX8_parted_48 rfl (lv_at hl 0 rfl) ?_
    refine va_get (D := (dC, dI)) (ci := 7) (v := .ref h_a0_parting) (C := RX8) (T := TX8) (N := 6) hx hb hts hin_X8 hown hK hP 0 rfl rfl 2 (by decide) hw_0 (fun _ h9 => h9) rfl dX8_parted_49 ?_
    refine va_getN (D := (dC, dI)) (ci := 1) (v := .long a0_parting_number) (C := RX1) (T := TX1) (N := 4) hx hb hts hin_X1 hown hK hP 1 rfl rfl 2 (by decide) (nw_8 hN) (fun _ h9 => h9) rfl dX8_parted_52 ?_
    have hP9 := hP.sub (ws' := [(h_a0, .inr (7, [w_a0_primes, w_a0_sieved, .ref h_a0_parting, w_a0_primeSums, w_a0_progression, w_a0_rows])), (h_a0_parting, .inr (1, [.ref q_a0_parting_factors, .ref q_a0_parting_powers, .long a0_parting_number, .int a0_parting_many])), (q_a0_parting_factors, .inl (cJ, 10, .inr (.inl a0_parting_factors))), (q_a0_parting_powers, .inl (cI, 10, .inl a0_parting_powers))]) [0, 1, 2, 3] rfl
    have hD9 := hD.sub (ws' := [(h_a0, .inr (7, [w_a0_primes, w_a0_sieved, .ref h_a0_parting, w_a0_primeSums, w_a0_progression, w_a0_rows])), (h_a0_parting, .inr (1, [.ref q_a0_parting_factors, .ref q_a0_parting_powers, .long a0_parting_number, .int a0_parting_many])), (q_a0_parting_factors, .inl (cJ, 10, .inr (.inl a0_parting_factors))), (q_a0_parting_powers, .inl (cI, 10, .inl a0_parting_powers))]) [0, 1, 2, 3] (by decide) rfl
    exact W.lret (v := a0_parting_number) hx hb hr (fun t ht hW => ⟨⟨_, (), rfl, h, by rw [ht]; exact hP9, hD9⟩, hS.F ht⟩) hS.2.2 dX8_parted_55
  by_cases c_2 : p1 = (1 : Int32)
  · refine lv_tableIn (off := 46) (tgt := 56) hx hb dX8_parted_10 (by rw [c_2]; decide) (by rw [c_2]; decide) (by rw [c_2]; rfl) (by decide) ?_
    replace h := h.2.1 c_2
    refine lv_aload_n hx hb dX8_parted_56 rfl (lv_at hl 0 rfl) ?_
    refine va_get (D := (dC, dI)) (ci := 7) (v := .ref h_a0_parting) (C := RX8) (T := TX8) (N := 6) hx hb hts hin_X8 hown hK hP 0 rfl rfl 2 (by decide) hw_0 (fun _ h9 => h9) rfl dX8_parted_57 ?_
    have hPc := hP.sub (ws' := [(h_a0_parting, .inr (1, [.ref q_a0_parting_factors, .ref q_a0_parting_powers, .long a0_parting_number, .int a0_parting_many])), (q_a0_parting_powers, .inl (cI, 10, .inl a0_parting_powers))]) [1, 3] rfl
    have hDc := hD.sub (ws' := [(h_a0_parting, .inr (1, [.ref q_a0_parting_factors, .ref q_a0_parting_powers, .long a0_parting_number, .int a0_parting_many])), (q_a0_parting_powers, .inl (cI, 10, .inl a0_parting_powers))]) [1, 3] (by decide) rfl
    have hFc := va_free (wc := [(h_a0_parting, .inr (1, [.ref q_a0_parting_factors, .ref q_a0_parting_powers, .long a0_parting_number, .int a0_parting_many])), (q_a0_parting_powers, .inl (cI, 10, .inl a0_parting_powers))]) hD hS hA [1, 3] rfl
    refine va_calll (va_runV (As := []) (rest := []) ⟨hx, hb, hml, hown, hts⟩ (c_X1_divisorCount l dC dI cI cJ cZ _ h_a0_parting (.ref q_a0_parting_factors) a0_parting_powers q_a0_parting_powers a0_parting_number a0_parting_many _ h) (cwV 0 hts gX8_parted_X1_divisorCount rfl rfl rfl (by decide +kernel) ⟨Nat.le_of_ble_eq_true rfl, Nat.le_of_ble_eq_true rfl⟩) ⟨pre_fb, va_recv hK hPc (ci := 1) (q0 := 0) rfl rfl, pre_of hPc hDc hK hN⟩ rfl rfl hl.1 rfl (lv_room (Nat.le_of_ble_eq_true rfl)) dX8_parted_60 ⟨by first | exact Nat.le_of_ble_eq_true rfl | exact Nat.le_refl _, by first | exact Nat.le_of_ble_eq_true rfl | exact Nat.le_refl _⟩) hS (fun q _ h => hFc q h) hFc (fun r_3 u t H1 locs ht hvm h hB hz1 hk1 hS => ?_)
    obtain ⟨hP1, hD1⟩ := hB
    rw [ht] at hP1
    try dsimp only at h
    obtain ⟨hP, hD⟩ := va_join (wr := [(h_a0, .inr (7, [w_a0_primes, w_a0_sieved, .ref h_a0_parting, w_a0_primeSums, w_a0_progression, w_a0_rows])), (q_a0_parting_factors, .inl (cJ, 10, .inr (.inl a0_parting_factors)))]) (w1 := [(h_a0_parting, .inr (1, [.ref q_a0_parting_factors, .ref q_a0_parting_powers, .long a0_parting_number, .int a0_parting_many])), (q_a0_parting_powers, .inl (cI, 10, .inl a0_parting_powers))]) hP hD [1, 3] [0, 2] rfl rfl (by decide) (by decide) hk1 hFc hP1 hD1
    generalize H1 = H at hP hS ⊢
    have hP : va_P (dC, dI) vwCl [(h_a0, .inr (7, [w_a0_primes, w_a0_sieved, .ref h_a0_parting, w_a0_primeSums, w_a0_progression, w_a0_rows])), (q_a0_parting_factors, .inl (cJ, 10, .inr (.inl a0_parting_factors))), (h_a0_parting, .inr (1, [.ref q_a0_parting_factors, .ref q_a0_parting_powers, .long a0_parting_number, .int a0_parting_many])), (q_a0_parting_powers, .inl (cI, 10, .inl a0_parting_powers))] H := hP
    have hD : va_D A [(h_a0, .inr (7, [w_a0_primes, w_a0_sieved, .ref h_a0_parting, w_a0_primeSums, w_a0_progression, w_a0_rows])), (q_a0_parting_factors, .inl (cJ, 10, .inr (.inl a0_parting_factors))), (h_a0_parting, .inr (1, [.ref q_a0_parting_factors, .ref q_a0_parting_powers, .long a0_parting_number, .int a0_parting_many])), (q_a0_parting_powers, .inl (cI, 10, .inl a0_parting_powers))] := hD
    have hP9 := hP.sub (ws' := [(h_a0, .inr (7, [w_a0_primes, w_a0_sieved, .ref h_a0_parting, w_a0_primeSums, w_a0_progression, w_a0_rows])), (h_a0_parting, .inr (1, [.ref q_a0_parting_factors, .ref q_a0_parting_powers, .long a0_parting_number, .int a0_parting_many])), (q_a0_parting_factors, .inl (cJ, 10, .inr (.inl a0_parting_factors))), (q_a0_parting_powers, .inl (cI, 10, .inl a0_parting_powers))]) [0, 2, 1, 3] rfl
    have hD9 := hD.sub (ws' := [(h_a0, .inr (7, [w_a0_primes, w_a0_sieved, .ref h_a0_parting, w_a0_primeSums, w_a0_progression, w_a0_rows])), (h_a0_parting, .inr (1, [.ref q_a0_parting_factors, .ref q_a0_parting_powers, .long a0_parting_number, .int a0_parting_many])), (q_a0_parting_factors, .inl (cJ, 10, .inr (.inl a0_parting_factors))), (q_a0_parting_powers, .inl (cI, 10, .inl a0_parting_powers))]) [0, 2, 1, 3] (by decide) rfl
    exact W.lret (v := r_3) hx hb hr (fun t ht hW => ⟨⟨_, (), rfl, h, by rw [ht]; exact hP9, hD9⟩, hS.F ht⟩) hS.2.2 dX8_parted_63
  by_cases c_4 : p1 = (2 : Int32)
  · refine lv_tableIn (off := 54) (tgt := 64) hx hb dX8_parted_10 (by rw [c_4]; decide) (by rw [c_4]; decide) (by rw [c_4]; rfl) (by decide) ?_
    replace h := h.2.2.1 c_4
    refine lv_aload_n hx hb dX8_parted_64 rfl (lv_at hl 0 rfl) ?_
    refine va_get (D := (dC, dI)) (ci := 7) (v := .ref h_a0_parting) (C := RX8) (T := TX8) (N := 6) hx hb hts hin_X8 hown hK hP 0 rfl rfl 2 (by decide) hw_0 (fun _ h9 => h9) rfl dX8_parted_65 ?_
    have hPc := hP.sub (ws' := [(h_a0_parting, .inr (1, [.ref q_a0_parting_factors, .ref q_a0_parting_powers, .long a0_parting_number, .int a0_parting_many])), (q_a0_parting_factors, .inl (cJ, 10, .inr (.inl a0_parting_factors))), (q_a0_parting_powers, .inl (cI, 10, .inl a0_parting_powers))]) [1, 2, 3] rfl
    have hDc := hD.sub (ws' := [(h_a0_parting, .inr (1, [.ref q_a0_parting_factors, .ref q_a0_parting_powers, .long a0_parting_number, .int a0_parting_many])), (q_a0_parting_factors, .inl (cJ, 10, .inr (.inl a0_parting_factors))), (q_a0_parting_powers, .inl (cI, 10, .inl a0_parting_powers))]) [1, 2, 3] (by decide) rfl
    have hFc := va_free (wc := [(h_a0_parting, .inr (1, [.ref q_a0_parting_factors, .ref q_a0_parting_powers, .long a0_parting_number, .int a0_parting_many])), (q_a0_parting_factors, .inl (cJ, 10, .inr (.inl a0_parting_factors))), (q_a0_parting_powers, .inl (cI, 10, .inl a0_parting_powers))]) hD hS hA [1, 2, 3] rfl
    refine va_calll (va_runV (As := []) (rest := []) ⟨hx, hb, hml, hown, hts⟩ (c_X1_divisorSum l dC dI cI cJ cZ _ h_a0_parting a0_parting_factors q_a0_parting_factors a0_parting_powers q_a0_parting_powers a0_parting_number a0_parting_many _ h) (cwV 0 hts gX8_parted_X1_divisorSum rfl rfl rfl (by decide +kernel) ⟨Nat.le_of_ble_eq_true rfl, Nat.le_of_ble_eq_true rfl⟩) ⟨pre_fb, va_recv hK hPc (ci := 1) (q0 := 0) rfl rfl, pre_of hPc hDc hK hN⟩ rfl rfl hl.1 rfl (lv_room (Nat.le_of_ble_eq_true rfl)) dX8_parted_68 ⟨by first | exact Nat.le_of_ble_eq_true rfl | exact Nat.le_refl _, by first | exact Nat.le_of_ble_eq_true rfl | exact Nat.le_refl _⟩) hS (fun q _ h => hFc q h) hFc (fun r_5 u t H1 locs ht hvm h hB hz1 hk1 hS => ?_)
    obtain ⟨hP1, hD1⟩ := hB
    rw [ht] at hP1
    try dsimp only at h
    obtain ⟨hP, hD⟩ := va_join (wr := [(h_a0, .inr (7, [w_a0_primes, w_a0_sieved, .ref h_a0_parting, w_a0_primeSums, w_a0_progression, w_a0_rows]))]) (w1 := [(h_a0_parting, .inr (1, [.ref q_a0_parting_factors, .ref q_a0_parting_powers, .long a0_parting_number, .int a0_parting_many])), (q_a0_parting_factors, .inl (cJ, 10, .inr (.inl a0_parting_factors))), (q_a0_parting_powers, .inl (cI, 10, .inl a0_parting_powers))]) hP hD [1, 2, 3] [0] rfl rfl (by decide) (by decide) hk1 hFc hP1 hD1
    generalize H1 = H at hP hS ⊢
    have hP : va_P (dC, dI) vwCl [(h_a0, .inr (7, [w_a0_primes, w_a0_sieved, .ref h_a0_parting, w_a0_primeSums, w_a0_progression, w_a0_rows])), (h_a0_parting, .inr (1, [.ref q_a0_parting_factors, .ref q_a0_parting_powers, .long a0_parting_number, .int a0_parting_many])), (q_a0_parting_factors, .inl (cJ, 10, .inr (.inl a0_parting_factors))), (q_a0_parting_powers, .inl (cI, 10, .inl a0_parting_powers))] H := hP
    have hD : va_D A [(h_a0, .inr (7, [w_a0_primes, w_a0_sieved, .ref h_a0_parting, w_a0_primeSums, w_a0_progression, w_a0_rows])), (h_a0_parting, .inr (1, [.ref q_a0_parting_factors, .ref q_a0_parting_powers, .long a0_parting_number, .int a0_parting_many])), (q_a0_parting_factors, .inl (cJ, 10, .inr (.inl a0_parting_factors))), (q_a0_parting_powers, .inl (cI, 10, .inl a0_parting_powers))] := hD
    have hP9 := hP.sub (ws' := [(h_a0, .inr (7, [w_a0_primes, w_a0_sieved, .ref h_a0_parting, w_a0_primeSums, w_a0_progression, w_a0_rows])), (h_a0_parting, .inr (1, [.ref q_a0_parting_factors, .ref q_a0_parting_powers, .long a0_parting_number, .int a0_parting_many])), (q_a0_parting_factors, .inl (cJ, 10, .inr (.inl a0_parting_factors))), (q_a0_parting_powers, .inl (cI, 10, .inl a0_parting_powers))]) [0, 1, 2, 3] rfl
    have hD9 := hD.sub (ws' := [(h_a0, .inr (7, [w_a0_primes, w_a0_sieved, .ref h_a0_parting, w_a0_primeSums, w_a0_progression, w_a0_rows])), (h_a0_parting, .inr (1, [.ref q_a0_parting_factors, .ref q_a0_parting_powers, .long a0_parting_number, .int a0_parting_many])), (q_a0_parting_factors, .inl (cJ, 10, .inr (.inl a0_parting_factors))), (q_a0_parting_powers, .inl (cI, 10, .inl a0_parting_powers))]) [0, 1, 2, 3] (by decide) rfl
    exact W.lret (v := r_5) hx hb hr (fun t ht hW => ⟨⟨_, (), rfl, h, by rw [ht]; exact hP9, hD9⟩, hS.F ht⟩) hS.2.2 dX8_parted_71
  by_cases c_6 : p1 = (3 : Int32)
  · refine lv_tableIn (off := 62) (tgt := 72) hx hb dX8_parted_10 (by rw [c_6]; decide) (by rw [c_6]; decide) (by rw [c_6]; rfl) (by decide) ?_
    replace h := h.2.2.2.1 c_6
    refine lv_aload_n hx hb dX8_parted_72 rfl (lv_at hl 0 rfl) ?_
    refine va_get (D := (dC, dI)) (ci := 7) (v := .ref h_a0_parting) (C := RX8) (T := TX8) (N := 6) hx hb hts hin_X8 hown hK hP 0 rfl rfl 2 (by decide) hw_0 (fun _ h9 => h9) rfl dX8_parted_73 ?_
    have hPc := hP.sub (ws' := [(h_a0_parting, .inr (1, [.ref q_a0_parting_factors, .ref q_a0_parting_powers, .long a0_parting_number, .int a0_parting_many])), (q_a0_parting_factors, .inl (cJ, 10, .inr (.inl a0_parting_factors)))]) [1, 2] rfl
    have hDc := hD.sub (ws' := [(h_a0_parting, .inr (1, [.ref q_a0_parting_factors, .ref q_a0_parting_powers, .long a0_parting_number, .int a0_parting_many])), (q_a0_parting_factors, .inl (cJ, 10, .inr (.inl a0_parting_factors)))]) [1, 2] (by decide) rfl
    have hFc := va_free (wc := [(h_a0_parting, .inr (1, [.ref q_a0_parting_factors, .ref q_a0_parting_powers, .long a0_parting_number, .int a0_parting_many])), (q_a0_parting_factors, .inl (cJ, 10, .inr (.inl a0_parting_factors)))]) hD hS hA [1, 2] rfl
    refine va_calll (va_runV (As := []) (rest := []) ⟨hx, hb, hml, hown, hts⟩ (c_X1_euler l dC dI cI cJ cZ _ h_a0_parting a0_parting_factors q_a0_parting_factors (.ref q_a0_parting_powers) a0_parting_number a0_parting_many _ h) (cwV 0 hts gX8_parted_X1_euler rfl rfl rfl (by decide +kernel) ⟨Nat.le_of_ble_eq_true rfl, Nat.le_of_ble_eq_true rfl⟩) ⟨pre_fb, va_recv hK hPc (ci := 1) (q0 := 0) rfl rfl, pre_of hPc hDc hK hN⟩ rfl rfl hl.1 rfl (lv_room (Nat.le_of_ble_eq_true rfl)) dX8_parted_76 ⟨by first | exact Nat.le_of_ble_eq_true rfl | exact Nat.le_refl _, by first | exact Nat.le_of_ble_eq_true rfl | exact Nat.le_refl _⟩) hS (fun q _ h => hFc q h) hFc (fun r_7 u t H1 locs ht hvm h hB hz1 hk1 hS => ?_)
    obtain ⟨hP1, hD1⟩ := hB
    rw [ht] at hP1
    try dsimp only at h
    obtain ⟨hP, hD⟩ := va_join (wr := [(h_a0, .inr (7, [w_a0_primes, w_a0_sieved, .ref h_a0_parting, w_a0_primeSums, w_a0_progression, w_a0_rows])), (q_a0_parting_powers, .inl (cI, 10, .inl a0_parting_powers))]) (w1 := [(h_a0_parting, .inr (1, [.ref q_a0_parting_factors, .ref q_a0_parting_powers, .long a0_parting_number, .int a0_parting_many])), (q_a0_parting_factors, .inl (cJ, 10, .inr (.inl a0_parting_factors)))]) hP hD [1, 2] [0, 3] rfl rfl (by decide) (by decide) hk1 hFc hP1 hD1
    generalize H1 = H at hP hS ⊢
    have hP : va_P (dC, dI) vwCl [(h_a0, .inr (7, [w_a0_primes, w_a0_sieved, .ref h_a0_parting, w_a0_primeSums, w_a0_progression, w_a0_rows])), (q_a0_parting_powers, .inl (cI, 10, .inl a0_parting_powers)), (h_a0_parting, .inr (1, [.ref q_a0_parting_factors, .ref q_a0_parting_powers, .long a0_parting_number, .int a0_parting_many])), (q_a0_parting_factors, .inl (cJ, 10, .inr (.inl a0_parting_factors)))] H := hP
    have hD : va_D A [(h_a0, .inr (7, [w_a0_primes, w_a0_sieved, .ref h_a0_parting, w_a0_primeSums, w_a0_progression, w_a0_rows])), (q_a0_parting_powers, .inl (cI, 10, .inl a0_parting_powers)), (h_a0_parting, .inr (1, [.ref q_a0_parting_factors, .ref q_a0_parting_powers, .long a0_parting_number, .int a0_parting_many])), (q_a0_parting_factors, .inl (cJ, 10, .inr (.inl a0_parting_factors)))] := hD
    have hP9 := hP.sub (ws' := [(h_a0, .inr (7, [w_a0_primes, w_a0_sieved, .ref h_a0_parting, w_a0_primeSums, w_a0_progression, w_a0_rows])), (h_a0_parting, .inr (1, [.ref q_a0_parting_factors, .ref q_a0_parting_powers, .long a0_parting_number, .int a0_parting_many])), (q_a0_parting_factors, .inl (cJ, 10, .inr (.inl a0_parting_factors))), (q_a0_parting_powers, .inl (cI, 10, .inl a0_parting_powers))]) [0, 2, 3, 1] rfl
    have hD9 := hD.sub (ws' := [(h_a0, .inr (7, [w_a0_primes, w_a0_sieved, .ref h_a0_parting, w_a0_primeSums, w_a0_progression, w_a0_rows])), (h_a0_parting, .inr (1, [.ref q_a0_parting_factors, .ref q_a0_parting_powers, .long a0_parting_number, .int a0_parting_many])), (q_a0_parting_factors, .inl (cJ, 10, .inr (.inl a0_parting_factors))), (q_a0_parting_powers, .inl (cI, 10, .inl a0_parting_powers))]) [0, 2, 3, 1] (by decide) rfl
    exact W.lret (v := r_7) hx hb hr (fun t ht hW => ⟨⟨_, (), rfl, h, by rw [ht]; exact hP9, hD9⟩, hS.F ht⟩) hS.2.2 dX8_parted_79
  by_cases c_8 : p1 = (4 : Int32)
  · refine lv_tableIn (off := 70) (tgt := 80) hx hb dX8_parted_10 (by rw [c_8]; decide) (by rw [c_8]; decide) (by rw [c_8]; rfl) (by decide) ?_
    replace h := h.2.2.2.2.1 c_8
    refine lv_aload_n hx hb dX8_parted_80 rfl (lv_at hl 0 rfl) ?_
    refine va_get (D := (dC, dI)) (ci := 7) (v := .ref h_a0_parting) (C := RX8) (T := TX8) (N := 6) hx hb hts hin_X8 hown hK hP 0 rfl rfl 2 (by decide) hw_0 (fun _ h9 => h9) rfl dX8_parted_81 ?_
    have hPc := hP.sub (ws' := [(h_a0_parting, .inr (1, [.ref q_a0_parting_factors, .ref q_a0_parting_powers, .long a0_parting_number, .int a0_parting_many])), (q_a0_parting_powers, .inl (cI, 10, .inl a0_parting_powers))]) [1, 3] rfl
    have hDc := hD.sub (ws' := [(h_a0_parting, .inr (1, [.ref q_a0_parting_factors, .ref q_a0_parting_powers, .long a0_parting_number, .int a0_parting_many])), (q_a0_parting_powers, .inl (cI, 10, .inl a0_parting_powers))]) [1, 3] (by decide) rfl
    have hFc := va_free (wc := [(h_a0_parting, .inr (1, [.ref q_a0_parting_factors, .ref q_a0_parting_powers, .long a0_parting_number, .int a0_parting_many])), (q_a0_parting_powers, .inl (cI, 10, .inl a0_parting_powers))]) hD hS hA [1, 3] rfl
    refine va_calli (va_runV (As := []) (rest := []) ⟨hx, hb, hml, hown, hts⟩ (c_X1_moebius l dC dI cI cJ cZ _ h_a0_parting (.ref q_a0_parting_factors) a0_parting_powers q_a0_parting_powers a0_parting_number a0_parting_many _ h) (cwV 0 hts gX8_parted_X1_moebius rfl rfl rfl (by decide +kernel) ⟨Nat.le_of_ble_eq_true rfl, Nat.le_of_ble_eq_true rfl⟩) ⟨pre_fb, va_recv hK hPc (ci := 1) (q0 := 0) rfl rfl, pre_of hPc hDc hK hN⟩ rfl rfl hl.1 rfl (lv_room (Nat.le_of_ble_eq_true rfl)) dX8_parted_84 ⟨by first | exact Nat.le_of_ble_eq_true rfl | exact Nat.le_refl _, by first | exact Nat.le_of_ble_eq_true rfl | exact Nat.le_refl _⟩) hS (fun q _ h => hFc q h) hFc (fun r_9 u t H1 locs ht hvm h hB hz1 hk1 hS => ?_)
    obtain ⟨hP1, hD1⟩ := hB
    rw [ht] at hP1
    try dsimp only at h
    obtain ⟨hP, hD⟩ := va_join (wr := [(h_a0, .inr (7, [w_a0_primes, w_a0_sieved, .ref h_a0_parting, w_a0_primeSums, w_a0_progression, w_a0_rows])), (q_a0_parting_factors, .inl (cJ, 10, .inr (.inl a0_parting_factors)))]) (w1 := [(h_a0_parting, .inr (1, [.ref q_a0_parting_factors, .ref q_a0_parting_powers, .long a0_parting_number, .int a0_parting_many])), (q_a0_parting_powers, .inl (cI, 10, .inl a0_parting_powers))]) hP hD [1, 3] [0, 2] rfl rfl (by decide) (by decide) hk1 hFc hP1 hD1
    generalize H1 = H at hP hS ⊢
    have hP : va_P (dC, dI) vwCl [(h_a0, .inr (7, [w_a0_primes, w_a0_sieved, .ref h_a0_parting, w_a0_primeSums, w_a0_progression, w_a0_rows])), (q_a0_parting_factors, .inl (cJ, 10, .inr (.inl a0_parting_factors))), (h_a0_parting, .inr (1, [.ref q_a0_parting_factors, .ref q_a0_parting_powers, .long a0_parting_number, .int a0_parting_many])), (q_a0_parting_powers, .inl (cI, 10, .inl a0_parting_powers))] H := hP
    have hD : va_D A [(h_a0, .inr (7, [w_a0_primes, w_a0_sieved, .ref h_a0_parting, w_a0_primeSums, w_a0_progression, w_a0_rows])), (q_a0_parting_factors, .inl (cJ, 10, .inr (.inl a0_parting_factors))), (h_a0_parting, .inr (1, [.ref q_a0_parting_factors, .ref q_a0_parting_powers, .long a0_parting_number, .int a0_parting_many])), (q_a0_parting_powers, .inl (cI, 10, .inl a0_parting_powers))] := hD
    refine lv_i2l hx hb dX8_parted_87 rfl ?_
    have hP9 := hP.sub (ws' := [(h_a0, .inr (7, [w_a0_primes, w_a0_sieved, .ref h_a0_parting, w_a0_primeSums, w_a0_progression, w_a0_rows])), (h_a0_parting, .inr (1, [.ref q_a0_parting_factors, .ref q_a0_parting_powers, .long a0_parting_number, .int a0_parting_many])), (q_a0_parting_factors, .inl (cJ, 10, .inr (.inl a0_parting_factors))), (q_a0_parting_powers, .inl (cI, 10, .inl a0_parting_powers))]) [0, 2, 1, 3] rfl
    have hD9 := hD.sub (ws' := [(h_a0, .inr (7, [w_a0_primes, w_a0_sieved, .ref h_a0_parting, w_a0_primeSums, w_a0_progression, w_a0_rows])), (h_a0_parting, .inr (1, [.ref q_a0_parting_factors, .ref q_a0_parting_powers, .long a0_parting_number, .int a0_parting_many])), (q_a0_parting_factors, .inl (cJ, 10, .inr (.inl a0_parting_factors))), (q_a0_parting_powers, .inl (cI, 10, .inl a0_parting_powers))]) [0, 2, 1, 3] (by decide) rfl
    exact W.lret (v := r_9.toInt64) hx hb hr (fun t ht hW => ⟨⟨_, (), rfl, h, by rw [ht]; exact hP9, hD9⟩, hS.F ht⟩) hS.2.2 dX8_parted_88
  by_cases c_10 : p1 = (5 : Int32)
  · refine lv_tableIn (off := 79) (tgt := 89) hx hb dX8_parted_10 (by rw [c_10]; decide) (by rw [c_10]; decide) (by rw [c_10]; rfl) (by decide) ?_
    replace h := h.2.2.2.2.2.1 c_10
    refine lv_aload_n hx hb dX8_parted_89 rfl (lv_at hl 0 rfl) ?_
    refine va_get (D := (dC, dI)) (ci := 7) (v := .ref h_a0_parting) (C := RX8) (T := TX8) (N := 6) hx hb hts hin_X8 hown hK hP 0 rfl rfl 2 (by decide) hw_0 (fun _ h9 => h9) rfl dX8_parted_90 ?_
    have hPc := hP.sub (ws' := [(h_a0_parting, .inr (1, [.ref q_a0_parting_factors, .ref q_a0_parting_powers, .long a0_parting_number, .int a0_parting_many])), (q_a0_parting_factors, .inl (cJ, 10, .inr (.inl a0_parting_factors)))]) [1, 2] rfl
    have hDc := hD.sub (ws' := [(h_a0_parting, .inr (1, [.ref q_a0_parting_factors, .ref q_a0_parting_powers, .long a0_parting_number, .int a0_parting_many])), (q_a0_parting_factors, .inl (cJ, 10, .inr (.inl a0_parting_factors)))]) [1, 2] (by decide) rfl
    have hFc := va_free (wc := [(h_a0_parting, .inr (1, [.ref q_a0_parting_factors, .ref q_a0_parting_powers, .long a0_parting_number, .int a0_parting_many])), (q_a0_parting_factors, .inl (cJ, 10, .inr (.inl a0_parting_factors)))]) hD hS hA [1, 2] rfl
    refine va_calll (va_runV (As := []) (rest := []) ⟨hx, hb, hml, hown, hts⟩ (c_X1_primeProduct l dC dI cI cJ cZ _ h_a0_parting a0_parting_factors q_a0_parting_factors (.ref q_a0_parting_powers) a0_parting_number a0_parting_many _ h) (cwV 0 hts gX8_parted_X1_primeProduct rfl rfl rfl (by decide +kernel) ⟨Nat.le_of_ble_eq_true rfl, Nat.le_of_ble_eq_true rfl⟩) ⟨pre_fb, va_recv hK hPc (ci := 1) (q0 := 0) rfl rfl, pre_of hPc hDc hK hN⟩ rfl rfl hl.1 rfl (lv_room (Nat.le_of_ble_eq_true rfl)) dX8_parted_93 ⟨by first | exact Nat.le_of_ble_eq_true rfl | exact Nat.le_refl _, by first | exact Nat.le_of_ble_eq_true rfl | exact Nat.le_refl _⟩) hS (fun q _ h => hFc q h) hFc (fun r_11 u t H1 locs ht hvm h hB hz1 hk1 hS => ?_)
    obtain ⟨hP1, hD1⟩ := hB
    rw [ht] at hP1
    try dsimp only at h
    obtain ⟨hP, hD⟩ := va_join (wr := [(h_a0, .inr (7, [w_a0_primes, w_a0_sieved, .ref h_a0_parting, w_a0_primeSums, w_a0_progression, w_a0_rows])), (q_a0_parting_powers, .inl (cI, 10, .inl a0_parting_powers))]) (w1 := [(h_a0_parting, .inr (1, [.ref q_a0_parting_factors, .ref q_a0_parting_powers, .long a0_parting_number, .int a0_parting_many])), (q_a0_parting_factors, .inl (cJ, 10, .inr (.inl a0_parting_factors)))]) hP hD [1, 2] [0, 3] rfl rfl (by decide) (by decide) hk1 hFc hP1 hD1
    generalize H1 = H at hP hS ⊢
    have hP : va_P (dC, dI) vwCl [(h_a0, .inr (7, [w_a0_primes, w_a0_sieved, .ref h_a0_parting, w_a0_primeSums, w_a0_progression, w_a0_rows])), (q_a0_parting_powers, .inl (cI, 10, .inl a0_parting_powers)), (h_a0_parting, .inr (1, [.ref q_a0_parting_factors, .ref q_a0_parting_powers, .long a0_parting_number, .int a0_parting_many])), (q_a0_parting_factors, .inl (cJ, 10, .inr (.inl a0_parting_factors)))] H := hP
    have hD : va_D A [(h_a0, .inr (7, [w_a0_primes, w_a0_sieved, .ref h_a0_parting, w_a0_primeSums, w_a0_progression, w_a0_rows])), (q_a0_parting_powers, .inl (cI, 10, .inl a0_parting_powers)), (h_a0_parting, .inr (1, [.ref q_a0_parting_factors, .ref q_a0_parting_powers, .long a0_parting_number, .int a0_parting_many])), (q_a0_parting_factors, .inl (cJ, 10, .inr (.inl a0_parting_factors)))] := hD
    have hP9 := hP.sub (ws' := [(h_a0, .inr (7, [w_a0_primes, w_a0_sieved, .ref h_a0_parting, w_a0_primeSums, w_a0_progression, w_a0_rows])), (h_a0_parting, .inr (1, [.ref q_a0_parting_factors, .ref q_a0_parting_powers, .long a0_parting_number, .int a0_parting_many])), (q_a0_parting_factors, .inl (cJ, 10, .inr (.inl a0_parting_factors))), (q_a0_parting_powers, .inl (cI, 10, .inl a0_parting_powers))]) [0, 2, 3, 1] rfl
    have hD9 := hD.sub (ws' := [(h_a0, .inr (7, [w_a0_primes, w_a0_sieved, .ref h_a0_parting, w_a0_primeSums, w_a0_progression, w_a0_rows])), (h_a0_parting, .inr (1, [.ref q_a0_parting_factors, .ref q_a0_parting_powers, .long a0_parting_number, .int a0_parting_many])), (q_a0_parting_factors, .inl (cJ, 10, .inr (.inl a0_parting_factors))), (q_a0_parting_powers, .inl (cI, 10, .inl a0_parting_powers))]) [0, 2, 3, 1] (by decide) rfl
    exact W.lret (v := r_11) hx hb hr (fun t ht hW => ⟨⟨_, (), rfl, h, by rw [ht]; exact hP9, hD9⟩, hS.F ht⟩) hS.2.2 dX8_parted_96
  have t0 : p1.toInt ≠ 0 := fun q => c_1 (Int32.toInt_inj.mp (q.trans (by decide)))
  have t1 : p1.toInt ≠ 1 := fun q => c_2 (Int32.toInt_inj.mp (q.trans (by decide)))
  have t2 : p1.toInt ≠ 2 := fun q => c_4 (Int32.toInt_inj.mp (q.trans (by decide)))
  have t3 : p1.toInt ≠ 3 := fun q => c_6 (Int32.toInt_inj.mp (q.trans (by decide)))
  have t4 : p1.toInt ≠ 4 := fun q => c_8 (Int32.toInt_inj.mp (q.trans (by decide)))
  have t5 : p1.toInt ≠ 5 := fun q => c_10 (Int32.toInt_inj.mp (q.trans (by decide)))
  refine lv_tableOut (tgt := 97) hx hb dX8_parted_10 (by omega) (by decide) ?_
  replace h := h.2.2.2.2.2.2 c_1 c_2 c_4 c_6 c_8 c_10
  refine lv_lconst (v := (0 : Int64)) hx hb dX8_parted_97 (by decide) ?_
  have hP9 := hP.sub (ws' := [(h_a0, .inr (7, [w_a0_primes, w_a0_sieved, .ref h_a0_parting, w_a0_primeSums, w_a0_progression, w_a0_rows])), (h_a0_parting, .inr (1, [.ref q_a0_parting_factors, .ref q_a0_parting_powers, .long a0_parting_number, .int a0_parting_many])), (q_a0_parting_factors, .inl (cJ, 10, .inr (.inl a0_parting_factors))), (q_a0_parting_powers, .inl (cI, 10, .inl a0_parting_powers))]) [0, 1, 2, 3] rfl
  have hD9 := hD.sub (ws' := [(h_a0, .inr (7, [w_a0_primes, w_a0_sieved, .ref h_a0_parting, w_a0_primeSums, w_a0_progression, w_a0_rows])), (h_a0_parting, .inr (1, [.ref q_a0_parting_factors, .ref q_a0_parting_powers, .long a0_parting_number, .int a0_parting_many])), (q_a0_parting_factors, .inl (cJ, 10, .inr (.inl a0_parting_factors))), (q_a0_parting_powers, .inl (cI, 10, .inl a0_parting_powers))]) [0, 1, 2, 3] (by decide) rfl
  exact W.lret (v := (0 : Int64)) hx hb hr (fun t ht hW => ⟨⟨_, (), rfl, h, by rw [ht]; exact hP9, hD9⟩, hS.F ht⟩) hS.2.2 dX8_parted_98
def wp_X8_without_c0  (p1 : Int64) (Q : Int64 → Prop) : Prop :=
  Q (-1 : Int64)
abbrev rm_X8_without_c0 : Room := { frames := 2, cells := 0, slots := 0, locals := 50 }
abbrev qc_X8_without_c0 (dC : Nat → ClassId) (dI : Nat → Nat → Nat) (cI cJ cZ : ClassId) (h_a0 : Nat) (w_a0_primes : Value) (w_a0_sieved : Value) (w_a0_primeSums : Value) (w_a0_progression : Value) (w_a0_rows : Value) (Q : Int64 → Prop) (A : Nat → Prop) : Array Value → State → Outcome → State → Prop := va_Ql (fun (r : Int64) (_ : Unit) => Q r) (post_ dC dI A (fun (u : Unit) => ([(h_a0, .inr (7, [w_a0_primes, w_a0_sieved, .null, w_a0_primeSums, w_a0_progression, w_a0_rows]))] : va_W))) A
set_option maxHeartbeats 4000000 in
set_option maxRecDepth 100000 in
theorem c_X8_without_c0 (l : Launch) (dC : Nat → ClassId) (dI : Nat → Nat → Nat) (cI cJ cZ : ClassId) (sz : Nat) (h_a0 : Nat) (w_a0_primes : Value) (w_a0_sieved : Value) (w_a0_primeSums : Value) (w_a0_progression : Value) (w_a0_rows : Value) (p1 : Int64) (Q : Int64 → Prop) (hQ : wp_X8_without_c0 p1 Q) : Met l yX8_without wsX8_without rm_X8_without_c0 (pre_ dC dI cI cJ cZ [.ref h_a0, .long p1] [(h_a0, .inr (7, [w_a0_primes, w_a0_sieved, .null, w_a0_primeSums, w_a0_progression, w_a0_rows]))] sz) (qc_X8_without_c0 dC dI cI cJ cZ h_a0 w_a0_primes w_a0_sieved w_a0_primeSums w_a0_progression w_a0_rows Q (va_A [(h_a0, .inr (7, [w_a0_primes, w_a0_sieved, .null, w_a0_primeSums, w_a0_progression, w_a0_rows]))] sz)) 0 0 (va_A [(h_a0, .inr (7, [w_a0_primes, w_a0_sieved, .null, w_a0_primeSums, w_a0_progression, w_a0_rows]))] sz) := by
  refine Met.ofW (cc := cX8_without) (maxL := 3) (ret := (some .long)) (by decide) rfl ?_
  intro p e s m args below meth c s₁ B hml hv
  obtain ⟨rfl, hsz, hP, hK, hN, hD0⟩ := hv
  have hx := B.exec
  have hb := B.bytes
  have hr := B.returns
  have hts := atoms_spec (ws := wsX8_without) B.pre
  have hown : s.vm.findClass RX8 = some m.cls := findClass_of_methodNamed B.named
  subst hsz
  have hD := hD0.self (sz := s.heap.size)
  generalize hAe : va_A [(h_a0, .inr (7, [w_a0_primes, w_a0_sieved, .null, w_a0_primeSums, w_a0_progression, w_a0_rows]))] s.heap.size = A at hD ⊢
  have hA : ∀ q : Nat, s.heap.size ≤ q → A q := fun q h => by rw [← hAe]; exact Or.inr h
  have hS : va_S A s.heap s.heap [] := va_S.rf
  have hl := lv_entry ([.ref h_a0, .long p1]) (n := 3) (Nat.le_of_ble_eq_true rfl)
  rw [lg_entry_eq]
  generalize (lg_sl ([.ref h_a0, .long p1]) ++ List.replicate (3 - (lg_sl ([.ref h_a0, .long p1])).length) Slot.unset).toArray = ls at hl ⊢
  have hl : lv_has ls 3 [(0, .ref h_a0), (1, .long p1)] := hl
  have h := hQ
  unfold wp_X8_without_c0 at h
  have hw_0 := hts (.fieldLink RX8 69 "NumberSieves" "parting" "LNumberSieves$Parting;") (by decide +kernel)
  have hin_X8 : ∀ w ∈ wsX80, w ∈ wsX8_without := by decide +kernel
  have hw_2 := hts (.constantLong RX8 109 (-1)) (by decide +kernel)
  refine lv_aload_n hx hb dX8_without_0 rfl (lv_at hl 0 rfl) ?_
  refine va_get (D := (dC, dI)) (ci := 7) (v := .null) (C := RX8) (T := TX8) (N := 6) hx hb hts hin_X8 hown hK hP 0 rfl rfl 2 (by decide) hw_0 (fun _ h9 => h9) rfl dX8_without_1 ?_
  refine lv_ifnullN (tgt := 21) hx hb dX8_without_4 (by decide) ?_
  refine lv_ldc2 hx hb hown hw_2 dX8_without_21 ?_
  have hP9 := hP.sub (ws' := [(h_a0, .inr (7, [w_a0_primes, w_a0_sieved, .null, w_a0_primeSums, w_a0_progression, w_a0_rows]))]) [0] rfl
  have hD9 := hD.sub (ws' := [(h_a0, .inr (7, [w_a0_primes, w_a0_sieved, .null, w_a0_primeSums, w_a0_progression, w_a0_rows]))]) [0] (by decide) rfl
  exact W.lret (v := (-1 : Int64)) hx hb hr (fun t ht hW => ⟨⟨_, (), rfl, h, by rw [ht]; exact hP9, hD9⟩, hS.F ht⟩) hS.2.2 dX8_without_24
def wp_X8_without_c1 (a0_parting_factors : Nat → Int64) (a0_parting_many : Int32) (p1 : Int64) (Q : Int64 → Prop) : Prop :=
  ((p1 < (0 : Int64) → Q (-1 : Int64)) ∧ (¬ p1 < (0 : Int64) → ((p1 ≤ (10000000000 : Int64) → wp_X1_strangersUpTo a0_parting_factors a0_parting_many p1 (fun r_3 => Q r_3)) ∧ (¬ p1 ≤ (10000000000 : Int64) → Q (-1 : Int64)))))
abbrev rm_X8_without_c1 : Room := { frames := 2, cells := 0, slots := 0, locals := 50 }
abbrev qc_X8_without_c1 (dC : Nat → ClassId) (dI : Nat → Nat → Nat) (cI cJ cZ : ClassId) (h_a0 : Nat) (w_a0_primes : Value) (w_a0_sieved : Value) (h_a0_parting : Nat) (a0_parting_factors : Nat → Int64) (q_a0_parting_factors : Nat) (a0_parting_powers : Nat → Int32) (q_a0_parting_powers : Nat) (a0_parting_number : Int64) (a0_parting_many : Int32) (w_a0_primeSums : Value) (w_a0_progression : Value) (w_a0_rows : Value) (Q : Int64 → Prop) (A : Nat → Prop) : Array Value → State → Outcome → State → Prop := va_Ql (fun (r : Int64) (_ : Unit) => Q r) (post_ dC dI A (fun (u : Unit) => ([(h_a0, .inr (7, [w_a0_primes, w_a0_sieved, .ref h_a0_parting, w_a0_primeSums, w_a0_progression, w_a0_rows])), (h_a0_parting, .inr (1, [.ref q_a0_parting_factors, .ref q_a0_parting_powers, .long a0_parting_number, .int a0_parting_many])), (q_a0_parting_factors, .inl (cJ, 10, .inr (.inl a0_parting_factors))), (q_a0_parting_powers, .inl (cI, 10, .inl a0_parting_powers))] : va_W))) A
set_option maxHeartbeats 4000000 in
set_option maxRecDepth 100000 in
theorem c_X8_without_c1 (l : Launch) (dC : Nat → ClassId) (dI : Nat → Nat → Nat) (cI cJ cZ : ClassId) (sz : Nat) (h_a0 : Nat) (w_a0_primes : Value) (w_a0_sieved : Value) (h_a0_parting : Nat) (a0_parting_factors : Nat → Int64) (q_a0_parting_factors : Nat) (a0_parting_powers : Nat → Int32) (q_a0_parting_powers : Nat) (a0_parting_number : Int64) (a0_parting_many : Int32) (w_a0_primeSums : Value) (w_a0_progression : Value) (w_a0_rows : Value) (p1 : Int64) (Q : Int64 → Prop) (hQ : wp_X8_without_c1 a0_parting_factors a0_parting_many p1 Q) : Met l yX8_without wsX8_without rm_X8_without_c1 (pre_ dC dI cI cJ cZ [.ref h_a0, .long p1] [(h_a0, .inr (7, [w_a0_primes, w_a0_sieved, .ref h_a0_parting, w_a0_primeSums, w_a0_progression, w_a0_rows])), (h_a0_parting, .inr (1, [.ref q_a0_parting_factors, .ref q_a0_parting_powers, .long a0_parting_number, .int a0_parting_many])), (q_a0_parting_factors, .inl (cJ, 10, .inr (.inl a0_parting_factors))), (q_a0_parting_powers, .inl (cI, 10, .inl a0_parting_powers))] sz) (qc_X8_without_c1 dC dI cI cJ cZ h_a0 w_a0_primes w_a0_sieved h_a0_parting a0_parting_factors q_a0_parting_factors a0_parting_powers q_a0_parting_powers a0_parting_number a0_parting_many w_a0_primeSums w_a0_progression w_a0_rows Q (va_A [(h_a0, .inr (7, [w_a0_primes, w_a0_sieved, .ref h_a0_parting, w_a0_primeSums, w_a0_progression, w_a0_rows])), (h_a0_parting, .inr (1, [.ref q_a0_parting_factors, .ref q_a0_parting_powers, .long a0_parting_number, .int a0_parting_many])), (q_a0_parting_factors, .inl (cJ, 10, .inr (.inl a0_parting_factors))), (q_a0_parting_powers, .inl (cI, 10, .inl a0_parting_powers))] sz)) 0 0 (va_A [(h_a0, .inr (7, [w_a0_primes, w_a0_sieved, .ref h_a0_parting, w_a0_primeSums, w_a0_progression, w_a0_rows])), (h_a0_parting, .inr (1, [.ref q_a0_parting_factors, .ref q_a0_parting_powers, .long a0_parting_number, .int a0_parting_many])), (q_a0_parting_factors, .inl (cJ, 10, .inr (.inl a0_parting_factors))), (q_a0_parting_powers, .inl (cI, 10, .inl a0_parting_powers))] sz) := by
  refine Met.ofW (cc := cX8_without) (maxL := 3) (ret := (some .long)) (by decide) rfl ?_
  intro p e s m args below meth c s₁ B hml hv
  obtain ⟨rfl, hsz, hP, hK, hN, hD0⟩ := hv
  have hx := B.exec
  have hb := B.bytes
  have hr := B.returns
  have hts := atoms_spec (ws := wsX8_without) B.pre
  have hown : s.vm.findClass RX8 = some m.cls := findClass_of_methodNamed B.named
  subst hsz
  have hD := hD0.self (sz := s.heap.size)
  generalize hAe : va_A [(h_a0, .inr (7, [w_a0_primes, w_a0_sieved, .ref h_a0_parting, w_a0_primeSums, w_a0_progression, w_a0_rows])), (h_a0_parting, .inr (1, [.ref q_a0_parting_factors, .ref q_a0_parting_powers, .long a0_parting_number, .int a0_parting_many])), (q_a0_parting_factors, .inl (cJ, 10, .inr (.inl a0_parting_factors))), (q_a0_parting_powers, .inl (cI, 10, .inl a0_parting_powers))] s.heap.size = A at hD ⊢
  have hA : ∀ q : Nat, s.heap.size ≤ q → A q := fun q h => by rw [← hAe]; exact Or.inr h
  have hS : va_S A s.heap s.heap [] := va_S.rf
  have hl := lv_entry ([.ref h_a0, .long p1]) (n := 3) (Nat.le_of_ble_eq_true rfl)
  rw [lg_entry_eq]
  generalize (lg_sl ([.ref h_a0, .long p1]) ++ List.replicate (3 - (lg_sl ([.ref h_a0, .long p1])).length) Slot.unset).toArray = ls at hl ⊢
  have hl : lv_has ls 3 [(0, .ref h_a0), (1, .long p1)] := hl
  have h := hQ
  unfold wp_X8_without_c1 at h
  have hw_0 := hts (.fieldLink RX8 69 "NumberSieves" "parting" "LNumberSieves$Parting;") (by decide +kernel)
  have hin_X8 : ∀ w ∈ wsX80, w ∈ wsX8_without := by decide +kernel
  have hw_2 := hts (.constantLong RX8 109 (-1)) (by decide +kernel)
  have hw_3 := hts (.constantLong RX8 9 (10000000000)) (by decide +kernel)
  refine lv_aload_n hx hb dX8_without_0 rfl (lv_at hl 0 rfl) ?_
  refine va_get (D := (dC, dI)) (ci := 7) (v := .ref h_a0_parting) (C := RX8) (T := TX8) (N := 6) hx hb hts hin_X8 hown hK hP 0 rfl rfl 2 (by decide) hw_0 (fun _ h9 => h9) rfl dX8_without_1 ?_
  refine lv_ifnull hx hb dX8_without_4 ?_
  refine lv_lload_n hx hb dX8_without_7 rfl (lv_at hl 1 rfl) ?_
  refine lv_lconst (v := (0 : Int64)) hx hb dX8_without_8 (by decide) ?_
  refine W.lcmp hx hb dX8_without_9 ?_
  refine lv_if_lt (tgt := 21) hx hb dX8_without_10 (by decide) (fun c_1 => ?_) (fun c_1 => ?_)
  · replace c_1 := (lg_cmp_lt _ _).mp c_1
    replace h := h.1 c_1
    refine lv_ldc2 hx hb hown hw_2 dX8_without_21 ?_
    have hP9 := hP.sub (ws' := [(h_a0, .inr (7, [w_a0_primes, w_a0_sieved, .ref h_a0_parting, w_a0_primeSums, w_a0_progression, w_a0_rows])), (h_a0_parting, .inr (1, [.ref q_a0_parting_factors, .ref q_a0_parting_powers, .long a0_parting_number, .int a0_parting_many])), (q_a0_parting_factors, .inl (cJ, 10, .inr (.inl a0_parting_factors))), (q_a0_parting_powers, .inl (cI, 10, .inl a0_parting_powers))]) [0, 1, 2, 3] rfl
    have hD9 := hD.sub (ws' := [(h_a0, .inr (7, [w_a0_primes, w_a0_sieved, .ref h_a0_parting, w_a0_primeSums, w_a0_progression, w_a0_rows])), (h_a0_parting, .inr (1, [.ref q_a0_parting_factors, .ref q_a0_parting_powers, .long a0_parting_number, .int a0_parting_many])), (q_a0_parting_factors, .inl (cJ, 10, .inr (.inl a0_parting_factors))), (q_a0_parting_powers, .inl (cI, 10, .inl a0_parting_powers))]) [0, 1, 2, 3] (by decide) rfl
    exact W.lret (v := (-1 : Int64)) hx hb hr (fun t ht hW => ⟨⟨_, (), rfl, h, by rw [ht]; exact hP9, hD9⟩, hS.F ht⟩) hS.2.2 dX8_without_24
  · replace c_1 := lc_nlt c_1
    replace h := h.2 c_1
    refine lv_lload_n hx hb dX8_without_13 rfl (lv_at hl 1 rfl) ?_
    refine lv_ldc2 hx hb hown hw_3 dX8_without_14 ?_
    refine W.lcmp hx hb dX8_without_17 ?_
    refine lv_if_le (tgt := 25) hx hb dX8_without_18 (by decide) (fun c_2 => ?_) (fun c_2 => ?_)
    · replace c_2 := (lg_cmp_le _ _).mp c_2
      replace h := h.1 c_2
      refine lv_aload_n hx hb dX8_without_25 rfl (lv_at hl 0 rfl) ?_
      refine va_get (D := (dC, dI)) (ci := 7) (v := .ref h_a0_parting) (C := RX8) (T := TX8) (N := 6) hx hb hts hin_X8 hown hK hP 0 rfl rfl 2 (by decide) hw_0 (fun _ h9 => h9) rfl dX8_without_26 ?_
      refine lv_lload_n hx hb dX8_without_29 rfl (lv_at hl 1 rfl) ?_
      have hPc := hP.sub (ws' := [(h_a0_parting, .inr (1, [.ref q_a0_parting_factors, .ref q_a0_parting_powers, .long a0_parting_number, .int a0_parting_many])), (q_a0_parting_factors, .inl (cJ, 10, .inr (.inl a0_parting_factors)))]) [1, 2] rfl
      have hDc := hD.sub (ws' := [(h_a0_parting, .inr (1, [.ref q_a0_parting_factors, .ref q_a0_parting_powers, .long a0_parting_number, .int a0_parting_many])), (q_a0_parting_factors, .inl (cJ, 10, .inr (.inl a0_parting_factors)))]) [1, 2] (by decide) rfl
      have hFc := va_free (wc := [(h_a0_parting, .inr (1, [.ref q_a0_parting_factors, .ref q_a0_parting_powers, .long a0_parting_number, .int a0_parting_many])), (q_a0_parting_factors, .inl (cJ, 10, .inr (.inl a0_parting_factors)))]) hD hS hA [1, 2] rfl
      refine va_calll (va_runV (As := [.long p1]) (rest := []) ⟨hx, hb, hml, hown, hts⟩ (c_X1_strangersUpTo l dC dI cI cJ cZ _ h_a0_parting a0_parting_factors q_a0_parting_factors (.ref q_a0_parting_powers) a0_parting_number a0_parting_many p1 _ h) (cwV 1 hts gX8_without_X1_strangersUpTo rfl rfl rfl (by decide +kernel) ⟨Nat.le_of_ble_eq_true rfl, Nat.le_of_ble_eq_true rfl⟩) ⟨pre_fb, va_recv hK hPc (ci := 1) (q0 := 0) rfl rfl, pre_of hPc hDc hK hN⟩ rfl rfl hl.1 rfl (lv_room (Nat.le_of_ble_eq_true rfl)) dX8_without_30 ⟨by first | exact Nat.le_of_ble_eq_true rfl | exact Nat.le_refl _, by first | exact Nat.le_of_ble_eq_true rfl | exact Nat.le_refl _⟩) hS (fun q _ h => hFc q h) hFc (fun r_3 u t H1 locs ht hvm h hB hz1 hk1 hS => ?_)
      obtain ⟨hP1, hD1⟩ := hB
      rw [ht] at hP1
      try dsimp only at h
      obtain ⟨hP, hD⟩ := va_join (wr := [(h_a0, .inr (7, [w_a0_primes, w_a0_sieved, .ref h_a0_parting, w_a0_primeSums, w_a0_progression, w_a0_rows])), (q_a0_parting_powers, .inl (cI, 10, .inl a0_parting_powers))]) (w1 := [(h_a0_parting, .inr (1, [.ref q_a0_parting_factors, .ref q_a0_parting_powers, .long a0_parting_number, .int a0_parting_many])), (q_a0_parting_factors, .inl (cJ, 10, .inr (.inl a0_parting_factors)))]) hP hD [1, 2] [0, 3] rfl rfl (by decide) (by decide) hk1 hFc hP1 hD1
      generalize H1 = H at hP hS ⊢
      have hP : va_P (dC, dI) vwCl [(h_a0, .inr (7, [w_a0_primes, w_a0_sieved, .ref h_a0_parting, w_a0_primeSums, w_a0_progression, w_a0_rows])), (q_a0_parting_powers, .inl (cI, 10, .inl a0_parting_powers)), (h_a0_parting, .inr (1, [.ref q_a0_parting_factors, .ref q_a0_parting_powers, .long a0_parting_number, .int a0_parting_many])), (q_a0_parting_factors, .inl (cJ, 10, .inr (.inl a0_parting_factors)))] H := hP
      have hD : va_D A [(h_a0, .inr (7, [w_a0_primes, w_a0_sieved, .ref h_a0_parting, w_a0_primeSums, w_a0_progression, w_a0_rows])), (q_a0_parting_powers, .inl (cI, 10, .inl a0_parting_powers)), (h_a0_parting, .inr (1, [.ref q_a0_parting_factors, .ref q_a0_parting_powers, .long a0_parting_number, .int a0_parting_many])), (q_a0_parting_factors, .inl (cJ, 10, .inr (.inl a0_parting_factors)))] := hD
      have hP9 := hP.sub (ws' := [(h_a0, .inr (7, [w_a0_primes, w_a0_sieved, .ref h_a0_parting, w_a0_primeSums, w_a0_progression, w_a0_rows])), (h_a0_parting, .inr (1, [.ref q_a0_parting_factors, .ref q_a0_parting_powers, .long a0_parting_number, .int a0_parting_many])), (q_a0_parting_factors, .inl (cJ, 10, .inr (.inl a0_parting_factors))), (q_a0_parting_powers, .inl (cI, 10, .inl a0_parting_powers))]) [0, 2, 3, 1] rfl
      have hD9 := hD.sub (ws' := [(h_a0, .inr (7, [w_a0_primes, w_a0_sieved, .ref h_a0_parting, w_a0_primeSums, w_a0_progression, w_a0_rows])), (h_a0_parting, .inr (1, [.ref q_a0_parting_factors, .ref q_a0_parting_powers, .long a0_parting_number, .int a0_parting_many])), (q_a0_parting_factors, .inl (cJ, 10, .inr (.inl a0_parting_factors))), (q_a0_parting_powers, .inl (cI, 10, .inl a0_parting_powers))]) [0, 2, 3, 1] (by decide) rfl
      exact W.lret (v := r_3) hx hb hr (fun t ht hW => ⟨⟨_, (), rfl, h, by rw [ht]; exact hP9, hD9⟩, hS.F ht⟩) hS.2.2 dX8_without_33
    · replace c_2 := lc_nle c_2
      replace h := h.2 c_2
      refine lv_ldc2 hx hb hown hw_2 dX8_without_21 ?_
      have hP9 := hP.sub (ws' := [(h_a0, .inr (7, [w_a0_primes, w_a0_sieved, .ref h_a0_parting, w_a0_primeSums, w_a0_progression, w_a0_rows])), (h_a0_parting, .inr (1, [.ref q_a0_parting_factors, .ref q_a0_parting_powers, .long a0_parting_number, .int a0_parting_many])), (q_a0_parting_factors, .inl (cJ, 10, .inr (.inl a0_parting_factors))), (q_a0_parting_powers, .inl (cI, 10, .inl a0_parting_powers))]) [0, 1, 2, 3] rfl
      have hD9 := hD.sub (ws' := [(h_a0, .inr (7, [w_a0_primes, w_a0_sieved, .ref h_a0_parting, w_a0_primeSums, w_a0_progression, w_a0_rows])), (h_a0_parting, .inr (1, [.ref q_a0_parting_factors, .ref q_a0_parting_powers, .long a0_parting_number, .int a0_parting_many])), (q_a0_parting_factors, .inl (cJ, 10, .inr (.inl a0_parting_factors))), (q_a0_parting_powers, .inl (cI, 10, .inl a0_parting_powers))]) [0, 1, 2, 3] (by decide) rfl
      exact W.lret (v := (-1 : Int64)) hx hb hr (fun t ht hW => ⟨⟨_, (), rfl, h, by rw [ht]; exact hP9, hD9⟩, hS.F ht⟩) hS.2.2 dX8_without_24

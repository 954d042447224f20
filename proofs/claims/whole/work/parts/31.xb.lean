def wp_X8_span_c00 (mcP msP : Nat)  (p1 : Int64) (p2 : Int32) (Q : Int32 → Option ((Nat → Int32) × Int32) → Option ((Nat → Int64) × (Nat → Int64) × (Nat → Int64) × (Nat → Int64) × Int64 × Int32 × Int32 × Int32 × Int32 × Int32) → Prop) : Prop :=
  ((p2 < (1 : Int32) → Q (-1 : Int32) none none) ∧ (¬ p2 < (1 : Int32) → (((5000 : Int32) < p2 → Q (-1 : Int32) none none) ∧ (¬ (5000 : Int32) < p2 → ((p1 < (1 : Int64) → Q (-1 : Int32) none none) ∧ (¬ p1 < (1 : Int64) → ((p1 ≤ (((10000000000 : Int64) - p2.toInt64) + (1 : Int64)) → (1 ≤ mcP ∧ 10 ≤ msP ∧ (6 ≤ mcP ∧ 15090 ≤ msP ∧ wp_X6_init (fun o_8 o_9 o_10 o_11 o_12 o_13 o_14 o_15 o_16 o_17 => (10 ≤ mcP ∧ 26248 ≤ msP ∧ wp_X8_knownPrimes_c0 (fun o_25 o_26 => wp_X6_sieve o_8 o_9 o_10 o_11 o_12 o_13 o_14 o_15 o_16 o_17 o_25 o_26 p1 p2 (fun o_31 o_32 o_33 o_34 o_35 o_36 o_37 o_38 o_39 o_40 => Q o_33 (some (o_25, o_26)) (some (o_37, o_38, o_39, o_40, o_31, o_32, o_33, o_34, o_35, o_36))))))))) ∧ (¬ p1 ≤ (((10000000000 : Int64) - p2.toInt64) + (1 : Int64)) → Q (-1 : Int32) none none))))))))
abbrev rm_X8_span_c00 (mcP msP : Nat) : Room := { frames := 5, cells := mcP, slots := msP, locals := 111 }
abbrev qc_X8_span_c00 (dC : Nat → ClassId) (dI : Nat → Nat → Nat) (cI cJ cZ : ClassId) (h_a0 : Nat) (w_a0_parting : Value) (w_a0_primeSums : Value) (w_a0_progression : Value) (w_a0_rows : Value) (Q : Int32 → Option ((Nat → Int32) × Int32) → Option ((Nat → Int64) × (Nat → Int64) × (Nat → Int64) × (Nat → Int64) × Int64 × Int32 × Int32 × Int32 × Int32 × Int32) → Prop) (A : Nat → Prop) : Array Value → State → Outcome → State → Prop := va_Qi (fun (r : Int32) (u : Option ((Nat × Nat) × ((Nat → Int32) × Int32)) × Option ((Nat × Nat × Nat × Nat × Nat × Nat) × ((Nat → Int64) × (Nat → Int64) × (Nat → Int64) × (Nat → Int64) × Int64 × Int32 × Int32 × Int32 × Int32 × Int32))) => Q r (u.1.map Prod.snd) (u.2.map Prod.snd)) (post_ dC dI A (fun (u : Option ((Nat × Nat) × ((Nat → Int32) × Int32)) × Option ((Nat × Nat × Nat × Nat × Nat × Nat) × ((Nat → Int64) × (Nat → Int64) × (Nat → Int64) × (Nat → Int64) × Int64 × Int32 × Int32 × Int32 × Int32 × Int32))) => ([(h_a0, .inr (7, [(match u.1 with | none => Value.null | some w => Value.ref w.1.1), (match u.2 with | none => Value.null | some w => Value.ref w.1.1), w_a0_parting, w_a0_primeSums, w_a0_progression, w_a0_rows]))] : va_W) ++ (match u.1 with | none => ([] : va_W) | some w => [(w.1.1, .inr (3, [.ref w.1.2, .int w.2.2])), (w.1.2, .inl (cI, 9592, .inl (w.2.1)))]) ++ (match u.2 with | none => ([] : va_W) | some w => [(w.1.1, .inr (6, [.ref w.1.2.1, .ref w.1.2.2.1, .ref w.1.2.2.2.1, .ref w.1.2.2.2.2.1, .long w.2.2.2.2.2.1, .int w.2.2.2.2.2.2.1, .int w.2.2.2.2.2.2.2.1, .int w.2.2.2.2.2.2.2.2.1, .int w.2.2.2.2.2.2.2.2.2.1, .int w.2.2.2.2.2.2.2.2.2.2])), (w.1.2.1, .inl (cJ, 5000, .inr (.inl (w.2.1)))), (w.1.2.2.1, .inl (cJ, 5000, .inr (.inl (w.2.2.1)))), (w.1.2.2.2.1, .inl (cJ, 5000, .inr (.inl (w.2.2.2.1)))), (w.1.2.2.2.2.1, .inr (0, [.ref w.1.2.2.2.2.2])), (w.1.2.2.2.2.2, .inl (cJ, 79, .inr (.inl (w.2.2.2.2.1))))]))) A
set_option maxHeartbeats 4000000 in
set_option maxRecDepth 100000 in
theorem c_X8_span_c00 (l : Launch) (dC : Nat → ClassId) (dI : Nat → Nat → Nat) (cI cJ cZ : ClassId) (sz : Nat) (mcP msP : Nat) (h_a0 : Nat) (w_a0_parting : Value) (w_a0_primeSums : Value) (w_a0_progression : Value) (w_a0_rows : Value) (p1 : Int64) (p2 : Int32) (Q : Int32 → Option ((Nat → Int32) × Int32) → Option ((Nat → Int64) × (Nat → Int64) × (Nat → Int64) × (Nat → Int64) × Int64 × Int32 × Int32 × Int32 × Int32 × Int32) → Prop) (hQ : wp_X8_span_c00 mcP msP p1 p2 Q) : Met l yX8_span wsX8_span (rm_X8_span_c00 mcP msP) (pre_ dC dI cI cJ cZ [.ref h_a0, .long p1, .int p2] [(h_a0, .inr (7, [.null, .null, w_a0_parting, w_a0_primeSums, w_a0_progression, w_a0_rows]))] sz) (qc_X8_span_c00 dC dI cI cJ cZ h_a0 w_a0_parting w_a0_primeSums w_a0_progression w_a0_rows Q (va_A [(h_a0, .inr (7, [.null, .null, w_a0_parting, w_a0_primeSums, w_a0_progression, w_a0_rows]))] sz)) mcP msP (va_A [(h_a0, .inr (7, [.null, .null, w_a0_parting, w_a0_primeSums, w_a0_progression, w_a0_rows]))] sz) := by
  refine Met.ofW (cc := cX8_span) (maxL := 4) (ret := (some .int)) (by decide) rfl ?_
  intro p e s m args below meth c s₁ B hml hv
  obtain ⟨rfl, hsz, hP, hK, hN, hD0⟩ := hv
  have hx := B.exec
  have hb := B.bytes
  have hr := B.returns
  have hts := atoms_spec (ws := wsX8_span) B.pre
  have hown : s.vm.findClass RX8 = some m.cls := findClass_of_methodNamed B.named
  subst hsz
  have hD := hD0.self (sz := s.heap.size)
  generalize hAe : va_A [(h_a0, .inr (7, [.null, .null, w_a0_parting, w_a0_primeSums, w_a0_progression, w_a0_rows]))] s.heap.size = A at hD ⊢
  have hA : ∀ q : Nat, s.heap.size ≤ q → A q := fun q h => by rw [← hAe]; exact Or.inr h
  have hS : va_S A s.heap s.heap [] := va_S.rf
  have hl := lv_entry ([.ref h_a0, .long p1, .int p2]) (n := 4) (Nat.le_of_ble_eq_true rfl)
  rw [lg_entry_eq]
  generalize (lg_sl ([.ref h_a0, .long p1, .int p2]) ++ List.replicate (4 - (lg_sl ([.ref h_a0, .long p1, .int p2])).length) Slot.unset).toArray = ls at hl ⊢
  have hl : lv_has ls 4 [(0, .ref h_a0), (1, .long p1), (3, .int p2)] := hl
  have h := hQ
  unfold wp_X8_span_c00 at h
  have hw_0 := hts (.constantLong RX8 9 (10000000000)) (by decide +kernel)
  have hw_1 := hts (.fieldLink RX8 11 "NumberSieves" "sieved" "LNumberSieves$Span;") (by decide +kernel)
  have hin_X8 : ∀ w ∈ wsX80, w ∈ wsX8_span := by decide +kernel
  have hin_X6 : ∀ w ∈ wsX60, w ∈ wsX8_span := by decide +kernel
  have hw_4 := hts (.classLink RX8 15 RX6) (by decide +kernel)
  have hw_5 := hts (.instantiable RX6 10) (by decide +kernel)
  have hw_6 := hts (.initialized RX6) (by decide +kernel)
  have hw_7 := hts (.methodLink RX8 17 yX6_init) (by decide +kernel)
  have hw_8 := hts (.instanceMethod yX6_init) (by decide +kernel)
  refine lv_iload_n hx hb dX8_span_0 rfl (lv_at hl 2 rfl) ?_
  refine lv_iconst (v := (1 : Int32)) hx hb dX8_span_1 (by decide) ?_
  refine lv_icmp_lt (tgt := 31) hx hb dX8_span_2 (by decide) (fun c_1 => ?_) (fun c_1 => ?_)
  · replace h := h.1 c_1
    refine lv_iconst (v := (-1 : Int32)) hx hb dX8_span_31 (by decide) ?_
    have hP9 := hP.sub (ws' := [(h_a0, .inr (7, [.null, .null, w_a0_parting, w_a0_primeSums, w_a0_progression, w_a0_rows]))]) [0] rfl
    have hD9 := hD.sub (ws' := [(h_a0, .inr (7, [.null, .null, w_a0_parting, w_a0_primeSums, w_a0_progression, w_a0_rows]))]) [0] (by decide) rfl
    refine W.widen (k := mcP) (n := msP) (by first | omega | exact Nat.le_of_ble_eq_true rfl) (by first | omega | exact Nat.le_of_ble_eq_true rfl) ?_
    exact W.iret (v := (-1 : Int32)) hx hb hr (fun t ht hW => ⟨⟨_, (none, none), rfl, h, by rw [ht]; exact hP9, hD9⟩, hS.F ht⟩) hS.2.2 dX8_span_32
  · replace h := h.2 c_1
    refine lv_iload_n hx hb dX8_span_5 rfl (lv_at hl 2 rfl) ?_
    refine lv_sipush (v := (5000 : Int32)) hx hb dX8_span_6 (by decide) ?_
    refine lv_icmp_gt (tgt := 31) hx hb dX8_span_9 (by decide) (fun c_2 => ?_) (fun c_2 => ?_)
    · replace h := h.1 c_2
      refine lv_iconst (v := (-1 : Int32)) hx hb dX8_span_31 (by decide) ?_
      have hP9 := hP.sub (ws' := [(h_a0, .inr (7, [.null, .null, w_a0_parting, w_a0_primeSums, w_a0_progression, w_a0_rows]))]) [0] rfl
      have hD9 := hD.sub (ws' := [(h_a0, .inr (7, [.null, .null, w_a0_parting, w_a0_primeSums, w_a0_progression, w_a0_rows]))]) [0] (by decide) rfl
      refine W.widen (k := mcP) (n := msP) (by first | omega | exact Nat.le_of_ble_eq_true rfl) (by first | omega | exact Nat.le_of_ble_eq_true rfl) ?_
      exact W.iret (v := (-1 : Int32)) hx hb hr (fun t ht hW => ⟨⟨_, (none, none), rfl, h, by rw [ht]; exact hP9, hD9⟩, hS.F ht⟩) hS.2.2 dX8_span_32
    · replace h := h.2 c_2
      refine lv_lload_n hx hb dX8_span_12 rfl (lv_at hl 1 rfl) ?_
      refine lv_lconst (v := (1 : Int64)) hx hb dX8_span_13 (by decide) ?_
      refine W.lcmp hx hb dX8_span_14 ?_
      refine lv_if_lt (tgt := 31) hx hb dX8_span_15 (by decide) (fun c_3 => ?_) (fun c_3 => ?_)
      · replace c_3 := (lg_cmp_lt _ _).mp c_3
        replace h := h.1 c_3
        refine lv_iconst (v := (-1 : Int32)) hx hb dX8_span_31 (by decide) ?_
        have hP9 := hP.sub (ws' := [(h_a0, .inr (7, [.null, .null, w_a0_parting, w_a0_primeSums, w_a0_progression, w_a0_rows]))]) [0] rfl
        have hD9 := hD.sub (ws' := [(h_a0, .inr (7, [.null, .null, w_a0_parting, w_a0_primeSums, w_a0_progression, w_a0_rows]))]) [0] (by decide) rfl
        refine W.widen (k := mcP) (n := msP) (by first | omega | exact Nat.le_of_ble_eq_true rfl) (by first | omega | exact Nat.le_of_ble_eq_true rfl) ?_
        exact W.iret (v := (-1 : Int32)) hx hb hr (fun t ht hW => ⟨⟨_, (none, none), rfl, h, by rw [ht]; exact hP9, hD9⟩, hS.F ht⟩) hS.2.2 dX8_span_32
      · replace c_3 := lc_nlt c_3
        replace h := h.2 c_3
        refine lv_lload_n hx hb dX8_span_18 rfl (lv_at hl 1 rfl) ?_
        refine lv_ldc2 hx hb hown hw_0 dX8_span_19 ?_
        refine lv_iload_n hx hb dX8_span_22 rfl (lv_at hl 2 rfl) ?_
        refine lv_i2l hx hb dX8_span_23 rfl ?_
        refine lv_lsub hx hb dX8_span_24 ?_
        refine lv_lconst (v := (1 : Int64)) hx hb dX8_span_25 (by decide) ?_
        refine lv_ladd hx hb dX8_span_26 ?_
        refine W.lcmp hx hb dX8_span_27 ?_
        refine lv_if_le (tgt := 33) hx hb dX8_span_28 (by decide) (fun c_4 => ?_) (fun c_4 => ?_)
        · replace c_4 := (lg_cmp_le _ _).mp c_4
          replace h := h.1 c_4
          refine lv_aload_n hx hb dX8_span_33 rfl (lv_at hl 0 rfl) ?_
          refine va_get (D := (dC, dI)) (ci := 7) (v := .null) (C := RX8) (T := TX8) (N := 6) hx hb hts hin_X8 hown hK hP 0 rfl rfl 1 (by decide) hw_1 (fun _ h9 => h9) rfl dX8_span_34 ?_
          refine lv_ifnonnullN hx hb dX8_span_37 ?_
          refine lv_aload_n hx hb dX8_span_40 rfl (lv_at hl 0 rfl) ?_
          obtain ⟨hm_6, hm_7, h⟩ := h
          refine va_new (ci := 6) (fs := [.null, .null, .null, .null, .long (0 : Int64), .int (0 : Int32), .int (0 : Int32), .int (0 : Int32), .int (0 : Int32), .int (0 : Int32)]) (C := RX6) (T := TX6) (N := 10) hx hb hts hin_X6 tyX6 tyX6_ok hown hw_4 hw_5 hw_6 hK hP hD hS hA rfl (by decide +kernel) hm_6 hm_7 dX8_span_41 (fun q_5 H hP hD hS => ?_)
          have hP : va_P (dC, dI) vwCl [(h_a0, .inr (7, [.null, .null, w_a0_parting, w_a0_primeSums, w_a0_progression, w_a0_rows])), (q_5, .inr (6, [.null, .null, .null, .null, .long (0 : Int64), .int (0 : Int32), .int (0 : Int32), .int (0 : Int32), .int (0 : Int32), .int (0 : Int32)]))] H := hP
          have hD : va_D A [(h_a0, .inr (7, [.null, .null, w_a0_parting, w_a0_primeSums, w_a0_progression, w_a0_rows])), (q_5, .inr (6, [.null, .null, .null, .null, .long (0 : Int64), .int (0 : Int32), .int (0 : Int32), .int (0 : Int32), .int (0 : Int32), .int (0 : Int32)]))] := hD
          refine W.widen (k := 1) (n := 10) (by omega) (by omega) ?_
          refine lv_dup hx hb dX8_span_44 rfl ?_
          have hPc := hP.sub (ws' := [(q_5, .inr (6, [.null, .null, .null, .null, .long (0 : Int64), .int (0 : Int32), .int (0 : Int32), .int (0 : Int32), .int (0 : Int32), .int (0 : Int32)]))]) [1] rfl
          have hDc := hD.sub (ws' := [(q_5, .inr (6, [.null, .null, .null, .null, .long (0 : Int64), .int (0 : Int32), .int (0 : Int32), .int (0 : Int32), .int (0 : Int32), .int (0 : Int32)]))]) [1] (by decide) rfl
          have hFc := va_free (wc := [(q_5, .inr (6, [.null, .null, .null, .null, .long (0 : Int64), .int (0 : Int32), .int (0 : Int32), .int (0 : Int32), .int (0 : Int32), .int (0 : Int32)]))]) hD hS hA [1] rfl
          obtain ⟨hm_18, hm_19, h⟩ := h
          refine va_callv (va_runI (As := []) (rest := [.ref q_5, .ref h_a0]) ⟨hx, hb, hml, hown, hts⟩ (c_X6_init l dC dI cI cJ cZ _ q_5 _ h) (cwI 0 hts gX8_span_X6_init rfl rfl rfl hw_6 hw_7 hw_8 rfl (by decide +kernel) ⟨Nat.le_of_ble_eq_true rfl, Nat.le_of_ble_eq_true rfl⟩) ⟨pre_fb, pre_of hPc hDc hK hN⟩ rfl rfl hl.1 rfl (lv_room (Nat.le_of_ble_eq_true rfl)) dX8_span_45 ⟨hm_18, hm_19⟩) hS (fun q _ h => hFc q h) hFc (fun u t H1 locs ht hvm h hB hz1 hk1 hS => ?_)
          obtain ⟨q_20, q_21, q_22, q_23, q_24, o_8, o_9, o_10, o_11, o_12, o_13, o_14, o_15, o_16, o_17⟩ := u
          obtain ⟨hP1, hD1⟩ := hB
          rw [ht] at hP1
          try dsimp only at h
          obtain ⟨hP, hD⟩ := va_join (wr := [(h_a0, .inr (7, [.null, .null, w_a0_parting, w_a0_primeSums, w_a0_progression, w_a0_rows]))]) (w1 := [(q_5, .inr (6, [.ref q_20, .ref q_21, .ref q_22, .ref q_23, .long o_12, .int o_13, .int o_14, .int o_15, .int o_16, .int o_17])), (q_20, .inl (cJ, 5000, .inr (.inl o_8))), (q_21, .inl (cJ, 5000, .inr (.inl o_9))), (q_22, .inl (cJ, 5000, .inr (.inl o_10))), (q_23, .inr (0, [.ref q_24])), (q_24, .inl (cJ, 79, .inr (.inl o_11)))]) hP hD [1] [0] rfl rfl (by decide) (by decide) hk1 hFc hP1 hD1
          generalize H1 = H at hP hS ⊢
          have hP : va_P (dC, dI) vwCl [(h_a0, .inr (7, [.null, .null, w_a0_parting, w_a0_primeSums, w_a0_progression, w_a0_rows])), (q_5, .inr (6, [.ref q_20, .ref q_21, .ref q_22, .ref q_23, .long o_12, .int o_13, .int o_14, .int o_15, .int o_16, .int o_17])), (q_20, .inl (cJ, 5000, .inr (.inl o_8))), (q_21, .inl (cJ, 5000, .inr (.inl o_9))), (q_22, .inl (cJ, 5000, .inr (.inl o_10))), (q_23, .inr (0, [.ref q_24])), (q_24, .inl (cJ, 79, .inr (.inl o_11)))] H := hP
          have hD : va_D A [(h_a0, .inr (7, [.null, .null, w_a0_parting, w_a0_primeSums, w_a0_progression, w_a0_rows])), (q_5, .inr (6, [.ref q_20, .ref q_21, .ref q_22, .ref q_23, .long o_12, .int o_13, .int o_14, .int o_15, .int o_16, .int o_17])), (q_20, .inl (cJ, 5000, .inr (.inl o_8))), (q_21, .inl (cJ, 5000, .inr (.inl o_9))), (q_22, .inl (cJ, 5000, .inr (.inl o_10))), (q_23, .inr (0, [.ref q_24])), (q_24, .inl (cJ, 79, .inr (.inl o_11)))] := hD
          refine W.widen (k := 6) (n := 15090) (by omega) (by omega) ?_
          refine va_put (D := (dC, dI)) (ci := 7) (v := .ref q_5) (ty := .object "NumberSieves$Span") (C := RX8) (T := TX8) (N := 6) hx hb hts hin_X8 tyX8 tyX8_ok nmX8 hown hK hP hD hS 0 rfl rfl 1 (by decide) hw_1 (fun _ h9 => h9) rfl (by decide +kernel) rfl rfl (Nat.le_of_ble_eq_true rfl) dX8_span_48 (fun H locs hP hD hS => ?_)
          have hP : va_P (dC, dI) vwCl [(h_a0, .inr (7, [.null, .ref q_5, w_a0_parting, w_a0_primeSums, w_a0_progression, w_a0_rows])), (q_5, .inr (6, [.ref q_20, .ref q_21, .ref q_22, .ref q_23, .long o_12, .int o_13, .int o_14, .int o_15, .int o_16, .int o_17])), (q_20, .inl (cJ, 5000, .inr (.inl o_8))), (q_21, .inl (cJ, 5000, .inr (.inl o_9))), (q_22, .inl (cJ, 5000, .inr (.inl o_10))), (q_23, .inr (0, [.ref q_24])), (q_24, .inl (cJ, 79, .inr (.inl o_11)))] H := hP
          have hD : va_D A [(h_a0, .inr (7, [.null, .ref q_5, w_a0_parting, w_a0_primeSums, w_a0_progression, w_a0_rows])), (q_5, .inr (6, [.ref q_20, .ref q_21, .ref q_22, .ref q_23, .long o_12, .int o_13, .int o_14, .int o_15, .int o_16, .int o_17])), (q_20, .inl (cJ, 5000, .inr (.inl o_8))), (q_21, .inl (cJ, 5000, .inr (.inl o_9))), (q_22, .inl (cJ, 5000, .inr (.inl o_10))), (q_23, .inr (0, [.ref q_24])), (q_24, .inl (cJ, 79, .inr (.inl o_11)))] := hD
          refine lv_aload_n hx hb dX8_span_51 rfl (lv_at hl 0 rfl) ?_
          refine va_get (D := (dC, dI)) (ci := 7) (v := .ref q_5) (C := RX8) (T := TX8) (N := 6) hx hb hts hin_X8 hown hK hP 0 rfl rfl 1 (by decide) hw_1 (fun _ h9 => h9) rfl dX8_span_52 ?_
          refine lv_lload_n hx hb dX8_span_55 rfl (lv_at hl 1 rfl) ?_
          refine lv_iload_n hx hb dX8_span_56 rfl (lv_at hl 2 rfl) ?_
          refine lv_aload_n hx hb dX8_span_57 rfl (lv_at hl 0 rfl) ?_
          have hPc := hP.sub (ws' := [(h_a0, .inr (7, [.null, .ref q_5, w_a0_parting, w_a0_primeSums, w_a0_progression, w_a0_rows]))]) [0] rfl
          have hDc := hD.sub (ws' := [(h_a0, .inr (7, [.null, .ref q_5, w_a0_parting, w_a0_primeSums, w_a0_progression, w_a0_rows]))]) [0] (by decide) rfl
          have hFc := va_free (wc := [(h_a0, .inr (7, [.null, .ref q_5, w_a0_parting, w_a0_primeSums, w_a0_progression, w_a0_rows]))]) hD hS hA [0] rfl
          obtain ⟨hm_27, hm_28, h⟩ := h
          refine va_callr (va_runV (As := []) (rest := [.int p2, .long p1, .ref q_5]) ⟨hx, hb, hml, hown, hts⟩ (c_X8_knownPrimes_c0 l dC dI cI cJ cZ _ h_a0 (.ref q_5) (w_a0_parting) (w_a0_primeSums) (w_a0_progression) (w_a0_rows) _ h) (cwV 0 hts gX8_span_X8_knownPrimes rfl rfl rfl (by decide +kernel) ⟨Nat.le_of_ble_eq_true rfl, Nat.le_of_ble_eq_true rfl⟩) ⟨pre_fb, va_recv hK hPc (ci := 7) (q0 := 0) rfl rfl, pre_of hPc hDc hK hN⟩ rfl rfl hl.1 rfl (lv_room (Nat.le_of_ble_eq_true rfl)) dX8_span_58 ⟨hm_27, hm_28⟩) hS (fun q _ h => hFc q h) hFc (fun u ra t H1 locs ht hvm h hB hz1 hk1 hS => ?_)
          obtain ⟨q_29, q_30, o_25, o_26⟩ := u
          obtain ⟨hra, hP1, hD1⟩ := hB
          try dsimp only at hra
          subst ra
          rw [ht] at hP1
          try dsimp only at h
          obtain ⟨hP, hD⟩ := va_join (wr := [(q_5, .inr (6, [.ref q_20, .ref q_21, .ref q_22, .ref q_23, .long o_12, .int o_13, .int o_14, .int o_15, .int o_16, .int o_17])), (q_20, .inl (cJ, 5000, .inr (.inl o_8))), (q_21, .inl (cJ, 5000, .inr (.inl o_9))), (q_22, .inl (cJ, 5000, .inr (.inl o_10))), (q_23, .inr (0, [.ref q_24])), (q_24, .inl (cJ, 79, .inr (.inl o_11)))]) (w1 := [(h_a0, .inr (7, [.ref q_29, .ref q_5, w_a0_parting, w_a0_primeSums, w_a0_progression, w_a0_rows])), (q_29, .inr (3, [.ref q_30, .int o_26])), (q_30, .inl (cI, 9592, .inl o_25))]) hP hD [0] [1, 2, 3, 4, 5, 6] rfl rfl (by decide) (by decide) hk1 hFc hP1 hD1
          generalize H1 = H at hP hS ⊢
          have hP : va_P (dC, dI) vwCl [(q_5, .inr (6, [.ref q_20, .ref q_21, .ref q_22, .ref q_23, .long o_12, .int o_13, .int o_14, .int o_15, .int o_16, .int o_17])), (q_20, .inl (cJ, 5000, .inr (.inl o_8))), (q_21, .inl (cJ, 5000, .inr (.inl o_9))), (q_22, .inl (cJ, 5000, .inr (.inl o_10))), (q_23, .inr (0, [.ref q_24])), (q_24, .inl (cJ, 79, .inr (.inl o_11))), (h_a0, .inr (7, [.ref q_29, .ref q_5, w_a0_parting, w_a0_primeSums, w_a0_progression, w_a0_rows])), (q_29, .inr (3, [.ref q_30, .int o_26])), (q_30, .inl (cI, 9592, .inl o_25))] H := hP
          have hD : va_D A [(q_5, .inr (6, [.ref q_20, .ref q_21, .ref q_22, .ref q_23, .long o_12, .int o_13, .int o_14, .int o_15, .int o_16, .int o_17])), (q_20, .inl (cJ, 5000, .inr (.inl o_8))), (q_21, .inl (cJ, 5000, .inr (.inl o_9))), (q_22, .inl (cJ, 5000, .inr (.inl o_10))), (q_23, .inr (0, [.ref q_24])), (q_24, .inl (cJ, 79, .inr (.inl o_11))), (h_a0, .inr (7, [.ref q_29, .ref q_5, w_a0_parting, w_a0_primeSums, w_a0_progression, w_a0_rows])), (q_29, .inr (3, [.ref q_30, .int o_26])), (q_30, .inl (cI, 9592, .inl o_25))] := hD
          refine W.widen (k := 10) (n := 26248) (by omega) (by omega) ?_
          have hPc := hP.sub (ws' := [(q_5, .inr (6, [.ref q_20, .ref q_21, .ref q_22, .ref q_23, .long o_12, .int o_13, .int o_14, .int o_15, .int o_16, .int o_17])), (q_20, .inl (cJ, 5000, .inr (.inl o_8))), (q_21, .inl (cJ, 5000, .inr (.inl o_9))), (q_22, .inl (cJ, 5000, .inr (.inl o_10))), (q_23, .inr (0, [.ref q_24])), (q_24, .inl (cJ, 79, .inr (.inl o_11))), (q_29, .inr (3, [.ref q_30, .int o_26])), (q_30, .inl (cI, 9592, .inl o_25))]) [0, 1, 2, 3, 4, 5, 7, 8] rfl
          have hDc := hD.sub (ws' := [(q_5, .inr (6, [.ref q_20, .ref q_21, .ref q_22, .ref q_23, .long o_12, .int o_13, .int o_14, .int o_15, .int o_16, .int o_17])), (q_20, .inl (cJ, 5000, .inr (.inl o_8))), (q_21, .inl (cJ, 5000, .inr (.inl o_9))), (q_22, .inl (cJ, 5000, .inr (.inl o_10))), (q_23, .inr (0, [.ref q_24])), (q_24, .inl (cJ, 79, .inr (.inl o_11))), (q_29, .inr (3, [.ref q_30, .int o_26])), (q_30, .inl (cI, 9592, .inl o_25))]) [0, 1, 2, 3, 4, 5, 7, 8] (by decide) rfl
          have hFc := va_free (wc := [(q_5, .inr (6, [.ref q_20, .ref q_21, .ref q_22, .ref q_23, .long o_12, .int o_13, .int o_14, .int o_15, .int o_16, .int o_17])), (q_20, .inl (cJ, 5000, .inr (.inl o_8))), (q_21, .inl (cJ, 5000, .inr (.inl o_9))), (q_22, .inl (cJ, 5000, .inr (.inl o_10))), (q_23, .inr (0, [.ref q_24])), (q_24, .inl (cJ, 79, .inr (.inl o_11))), (q_29, .inr (3, [.ref q_30, .int o_26])), (q_30, .inl (cI, 9592, .inl o_25))]) hD hS hA [0, 1, 2, 3, 4, 5, 7, 8] rfl
          refine va_callv (va_runV (As := [.long p1, .int p2, .ref q_29]) (rest := []) ⟨hx, hb, hml, hown, hts⟩ (c_X6_sieve l dC dI cI cJ cZ _ q_5 o_8 q_20 o_9 q_21 o_10 q_22 q_23 o_11 q_24 o_12 o_13 o_14 o_15 o_16 o_17 q_29 o_25 q_30 o_26 p1 p2 _ h) (cwV 3 hts gX8_span_X6_sieve rfl rfl rfl (by decide +kernel) ⟨Nat.le_of_ble_eq_true rfl, Nat.le_of_ble_eq_true rfl⟩) ⟨pre_fb, va_recv hK hPc (ci := 6) (q0 := 0) rfl rfl, pre_of hPc hDc hK hN⟩ rfl rfl hl.1 rfl (lv_room (Nat.le_of_ble_eq_true rfl)) dX8_span_61 ⟨by show _ ≤ mcP; omega, by show _ ≤ msP; omega⟩) hS (fun q _ h => hFc q h) hFc (fun u t H1 locs ht hvm h hB hz1 hk1 hS => ?_)
          obtain ⟨o_31, o_32, o_33, o_34, o_35, o_36, o_37, o_38, o_39, o_40⟩ := u
          obtain ⟨hP1, hD1⟩ := hB
          rw [ht] at hP1
          try dsimp only at h
          obtain ⟨hP, hD⟩ := va_join (wr := [(h_a0, .inr (7, [.ref q_29, .ref q_5, w_a0_parting, w_a0_primeSums, w_a0_progression, w_a0_rows]))]) (w1 := [(q_5, .inr (6, [.ref q_20, .ref q_21, .ref q_22, .ref q_23, .long o_31, .int o_32, .int o_33, .int o_34, .int o_35, .int o_36])), (q_20, .inl (cJ, 5000, .inr (.inl o_37))), (q_21, .inl (cJ, 5000, .inr (.inl o_38))), (q_22, .inl (cJ, 5000, .inr (.inl o_39))), (q_23, .inr (0, [.ref q_24])), (q_24, .inl (cJ, 79, .inr (.inl o_40))), (q_29, .inr (3, [.ref q_30, .int o_26])), (q_30, .inl (cI, 9592, .inl o_25))]) hP hD [0, 1, 2, 3, 4, 5, 7, 8] [6] rfl rfl (by decide) (by decide) hk1 hFc hP1 hD1
          generalize H1 = H at hP hS ⊢
          have hP : va_P (dC, dI) vwCl [(h_a0, .inr (7, [.ref q_29, .ref q_5, w_a0_parting, w_a0_primeSums, w_a0_progression, w_a0_rows])), (q_5, .inr (6, [.ref q_20, .ref q_21, .ref q_22, .ref q_23, .long o_31, .int o_32, .int o_33, .int o_34, .int o_35, .int o_36])), (q_20, .inl (cJ, 5000, .inr (.inl o_37))), (q_21, .inl (cJ, 5000, .inr (.inl o_38))), (q_22, .inl (cJ, 5000, .inr (.inl o_39))), (q_23, .inr (0, [.ref q_24])), (q_24, .inl (cJ, 79, .inr (.inl o_40))), (q_29, .inr (3, [.ref q_30, .int o_26])), (q_30, .inl (cI, 9592, .inl o_25))] H := hP
          have hD : va_D A [(h_a0, .inr (7, [.ref q_29, .ref q_5, w_a0_parting, w_a0_primeSums, w_a0_progression, w_a0_rows])), (q_5, .inr (6, [.ref q_20, .ref q_21, .ref q_22, .ref q_23, .long o_31, .int o_32, .int o_33, .int o_34, .int o_35, .int o_36])), (q_20, .inl (cJ, 5000, .inr (.inl o_37))), (q_21, .inl (cJ, 5000, .inr (.inl o_38))), (q_22, .inl (cJ, 5000, .inr (.inl o_39))), (q_23, .inr (0, [.ref q_24])), (q_24, .inl (cJ, 79, .inr (.inl o_40))), (q_29, .inr (3, [.ref q_30, .int o_26])), (q_30, .inl (cI, 9592, .inl o_25))] := hD
          refine lv_aload_n hx hb dX8_span_64 rfl (lv_at hl 0 rfl) ?_
          refine va_get (D := (dC, dI)) (ci := 7) (v := .ref q_5) (C := RX8) (T := TX8) (N := 6) hx hb hts hin_X8 hown hK hP 0 rfl rfl 1 (by decide) hw_1 (fun _ h9 => h9) rfl dX8_span_65 ?_
          refine va_getN (D := (dC, dI)) (ci := 6) (v := .int o_33) (C := RX6) (T := TX6) (N := 10) hx hb hts hin_X6 hown hK hP 1 rfl rfl 6 (by decide) (nw_1 hN) (fun _ h9 => h9) rfl dX8_span_68 ?_
          have hP9 := hP.sub (ws' := [(h_a0, .inr (7, [.ref q_29, .ref q_5, w_a0_parting, w_a0_primeSums, w_a0_progression, w_a0_rows])), (q_29, .inr (3, [.ref q_30, .int o_26])), (q_30, .inl (cI, 9592, .inl o_25)), (q_5, .inr (6, [.ref q_20, .ref q_21, .ref q_22, .ref q_23, .long o_31, .int o_32, .int o_33, .int o_34, .int o_35, .int o_36])), (q_20, .inl (cJ, 5000, .inr (.inl o_37))), (q_21, .inl (cJ, 5000, .inr (.inl o_38))), (q_22, .inl (cJ, 5000, .inr (.inl o_39))), (q_23, .inr (0, [.ref q_24])), (q_24, .inl (cJ, 79, .inr (.inl o_40)))]) [0, 7, 8, 1, 2, 3, 4, 5, 6] rfl
          have hD9 := hD.sub (ws' := [(h_a0, .inr (7, [.ref q_29, .ref q_5, w_a0_parting, w_a0_primeSums, w_a0_progression, w_a0_rows])), (q_29, .inr (3, [.ref q_30, .int o_26])), (q_30, .inl (cI, 9592, .inl o_25)), (q_5, .inr (6, [.ref q_20, .ref q_21, .ref q_22, .ref q_23, .long o_31, .int o_32, .int o_33, .int o_34, .int o_35, .int o_36])), (q_20, .inl (cJ, 5000, .inr (.inl o_37))), (q_21, .inl (cJ, 5000, .inr (.inl o_38))), (q_22, .inl (cJ, 5000, .inr (.inl o_39))), (q_23, .inr (0, [.ref q_24])), (q_24, .inl (cJ, 79, .inr (.inl o_40)))]) [0, 7, 8, 1, 2, 3, 4, 5, 6] (by decide) rfl
          refine W.widen (k := mcP) (n := msP) (by first | omega | exact Nat.le_of_ble_eq_true rfl) (by first | omega | exact Nat.le_of_ble_eq_true rfl) ?_
          exact W.iret (v := o_33) hx hb hr (fun t ht hW => ⟨⟨_, (some ((q_29, q_30), (o_25, o_26)), some ((q_5, q_20, q_21, q_22, q_23, q_24), (o_37, o_38, o_39, o_40, o_31, o_32, o_33, o_34, o_35, o_36))), rfl, h, by rw [ht]; exact hP9, hD9⟩, hS.F ht⟩) hS.2.2 dX8_span_71
        · replace c_4 := lc_nle c_4
          replace h := h.2 c_4
          refine lv_iconst (v := (-1 : Int32)) hx hb dX8_span_31 (by decide) ?_
          have hP9 := hP.sub (ws' := [(h_a0, .inr (7, [.null, .null, w_a0_parting, w_a0_primeSums, w_a0_progression, w_a0_rows]))]) [0] rfl
          have hD9 := hD.sub (ws' := [(h_a0, .inr (7, [.null, .null, w_a0_parting, w_a0_primeSums, w_a0_progression, w_a0_rows]))]) [0] (by decide) rfl
          refine W.widen (k := mcP) (n := msP) (by first | omega | exact Nat.le_of_ble_eq_true rfl) (by first | omega | exact Nat.le_of_ble_eq_true rfl) ?_
          exact W.iret (v := (-1 : Int32)) hx hb hr (fun t ht hW => ⟨⟨_, (none, none), rfl, h, by rw [ht]; exact hP9, hD9⟩, hS.F ht⟩) hS.2.2 dX8_span_32
def wp_X8_span_c01 (mcP msP : Nat) (a0_sieved_leasts : Nat → Int64) (a0_sieved_greatests : Nat → Int64) (a0_sieved_rests : Nat → Int64) (a0_sieved_squared_words : Nat → Int64) (a0_sieved_from : Int64) (a0_sieved_many : Int32) (a0_sieved_primeCount : Int32) (a0_sieved_gap : Int32) (a0_sieved_twins : Int32) (a0_sieved_squareFree : Int32) (p1 : Int64) (p2 : Int32) (Q : Int32 → Int64 → Int32 → Int32 → Int32 → Int32 → Int32 → (Nat → Int64) → (Nat → Int64) → (Nat → Int64) → (Nat → Int64) → Option ((Nat → Int32) × Int32) → Prop) : Prop :=
  ((p2 < (1 : Int32) → Q (-1 : Int32) a0_sieved_from a0_sieved_many a0_sieved_primeCount a0_sieved_gap a0_sieved_twins a0_sieved_squareFree a0_sieved_leasts a0_sieved_greatests a0_sieved_rests a0_sieved_squared_words none) ∧ (¬ p2 < (1 : Int32) → (((5000 : Int32) < p2 → Q (-1 : Int32) a0_sieved_from a0_sieved_many a0_sieved_primeCount a0_sieved_gap a0_sieved_twins a0_sieved_squareFree a0_sieved_leasts a0_sieved_greatests a0_sieved_rests a0_sieved_squared_words none) ∧ (¬ (5000 : Int32) < p2 → ((p1 < (1 : Int64) → Q (-1 : Int32) a0_sieved_from a0_sieved_many a0_sieved_primeCount a0_sieved_gap a0_sieved_twins a0_sieved_squareFree a0_sieved_leasts a0_sieved_greatests a0_sieved_rests a0_sieved_squared_words none) ∧ (¬ p1 < (1 : Int64) → ((p1 ≤ (((10000000000 : Int64) - p2.toInt64) + (1 : Int64)) → (4 ≤ mcP ∧ 11158 ≤ msP ∧ wp_X8_knownPrimes_c0 (fun o_5 o_6 => wp_X6_sieve a0_sieved_leasts a0_sieved_greatests a0_sieved_rests a0_sieved_squared_words a0_sieved_from a0_sieved_many a0_sieved_primeCount a0_sieved_gap a0_sieved_twins a0_sieved_squareFree o_5 o_6 p1 p2 (fun o_11 o_12 o_13 o_14 o_15 o_16 o_17 o_18 o_19 o_20 => Q o_13 o_11 o_12 o_13 o_14 o_15 o_16 o_17 o_18 o_19 o_20 (some (o_5, o_6)))))) ∧ (¬ p1 ≤ (((10000000000 : Int64) - p2.toInt64) + (1 : Int64)) → Q (-1 : Int32) a0_sieved_from a0_sieved_many a0_sieved_primeCount a0_sieved_gap a0_sieved_twins a0_sieved_squareFree a0_sieved_leasts a0_sieved_greatests a0_sieved_rests a0_sieved_squared_words none))))))))
abbrev rm_X8_span_c01 (mcP msP : Nat) : Room := { frames := 5, cells := mcP, slots := msP, locals := 111 }
abbrev qc_X8_span_c01 (dC : Nat → ClassId) (dI : Nat → Nat → Nat) (cI cJ cZ : ClassId) (h_a0 : Nat) (h_a0_sieved : Nat) (a0_sieved_leasts : Nat → Int64) (q_a0_sieved_leasts : Nat) (a0_sieved_greatests : Nat → Int64) (q_a0_sieved_greatests : Nat) (a0_sieved_rests : Nat → Int64) (q_a0_sieved_rests : Nat) (h_a0_sieved_squared : Nat) (a0_sieved_squared_words : Nat → Int64) (q_a0_sieved_squared_words : Nat) (a0_sieved_from : Int64) (a0_sieved_many : Int32) (a0_sieved_primeCount : Int32) (a0_sieved_gap : Int32) (a0_sieved_twins : Int32) (a0_sieved_squareFree : Int32) (w_a0_parting : Value) (w_a0_primeSums : Value) (w_a0_progression : Value) (w_a0_rows : Value) (Q : Int32 → Int64 → Int32 → Int32 → Int32 → Int32 → Int32 → (Nat → Int64) → (Nat → Int64) → (Nat → Int64) → (Nat → Int64) → Option ((Nat → Int32) × Int32) → Prop) (A : Nat → Prop) : Array Value → State → Outcome → State → Prop := va_Qi (fun (r : Int32) (u : Int64 × Int32 × Int32 × Int32 × Int32 × Int32 × (Nat → Int64) × (Nat → Int64) × (Nat → Int64) × (Nat → Int64) × Option ((Nat × Nat) × ((Nat → Int32) × Int32))) => Q r u.1 u.2.1 u.2.2.1 u.2.2.2.1 u.2.2.2.2.1 u.2.2.2.2.2.1 u.2.2.2.2.2.2.1 u.2.2.2.2.2.2.2.1 u.2.2.2.2.2.2.2.2.1 u.2.2.2.2.2.2.2.2.2.1 (u.2.2.2.2.2.2.2.2.2.2.map Prod.snd)) (post_ dC dI A (fun (u : Int64 × Int32 × Int32 × Int32 × Int32 × Int32 × (Nat → Int64) × (Nat → Int64) × (Nat → Int64) × (Nat → Int64) × Option ((Nat × Nat) × ((Nat → Int32) × Int32))) => ([(h_a0, .inr (7, [(match u.2.2.2.2.2.2.2.2.2.2 with | none => Value.null | some w => Value.ref w.1.1), .ref h_a0_sieved, w_a0_parting, w_a0_primeSums, w_a0_progression, w_a0_rows])), (h_a0_sieved, .inr (6, [.ref q_a0_sieved_leasts, .ref q_a0_sieved_greatests, .ref q_a0_sieved_rests, .ref h_a0_sieved_squared, .long u.1, .int u.2.1, .int u.2.2.1, .int u.2.2.2.1, .int u.2.2.2.2.1, .int u.2.2.2.2.2.1])), (q_a0_sieved_leasts, .inl (cJ, 5000, .inr (.inl (u.2.2.2.2.2.2.1)))), (q_a0_sieved_greatests, .inl (cJ, 5000, .inr (.inl (u.2.2.2.2.2.2.2.1)))), (q_a0_sieved_rests, .inl (cJ, 5000, .inr (.inl (u.2.2.2.2.2.2.2.2.1)))), (h_a0_sieved_squared, .inr (0, [.ref q_a0_sieved_squared_words])), (q_a0_sieved_squared_words, .inl (cJ, 79, .inr (.inl (u.2.2.2.2.2.2.2.2.2.1))))] : va_W) ++ (match u.2.2.2.2.2.2.2.2.2.2 with | none => ([] : va_W) | some w => [(w.1.1, .inr (3, [.ref w.1.2, .int w.2.2])), (w.1.2, .inl (cI, 9592, .inl (w.2.1)))]))) A
set_option maxHeartbeats 4000000 in
set_option maxRecDepth 100000 in
theorem c_X8_span_c01 (l : Launch) (dC : Nat → ClassId) (dI : Nat → Nat → Nat) (cI cJ cZ : ClassId) (sz : Nat) (mcP msP : Nat) (h_a0 : Nat) (h_a0_sieved : Nat) (a0_sieved_leasts : Nat → Int64) (q_a0_sieved_leasts : Nat) (a0_sieved_greatests : Nat → Int64) (q_a0_sieved_greatests : Nat) (a0_sieved_rests : Nat → Int64) (q_a0_sieved_rests : Nat) (h_a0_sieved_squared : Nat) (a0_sieved_squared_words : Nat → Int64) (q_a0_sieved_squared_words : Nat) (a0_sieved_from : Int64) (a0_sieved_many : Int32) (a0_sieved_primeCount : Int32) (a0_sieved_gap : Int32) (a0_sieved_twins : Int32) (a0_sieved_squareFree : Int32) (w_a0_parting : Value) (w_a0_primeSums : Value) (w_a0_progression : Value) (w_a0_rows : Value) (p1 : Int64) (p2 : Int32) (Q : Int32 → Int64 → Int32 → Int32 → Int32 → Int32 → Int32 → (Nat → Int64) → (Nat → Int64) → (Nat → Int64) → (Nat → Int64) → Option ((Nat → Int32) × Int32) → Prop) (hQ : wp_X8_span_c01 mcP msP a0_sieved_leasts a0_sieved_greatests a0_sieved_rests a0_sieved_squared_words a0_sieved_from a0_sieved_many a0_sieved_primeCount a0_sieved_gap a0_sieved_twins a0_sieved_squareFree p1 p2 Q) : Met l yX8_span wsX8_span (rm_X8_span_c01 mcP msP) (pre_ dC dI cI cJ cZ [.ref h_a0, .long p1, .int p2] [(h_a0, .inr (7, [.null, .ref h_a0_sieved, w_a0_parting, w_a0_primeSums, w_a0_progression, w_a0_rows])), (h_a0_sieved, .inr (6, [.ref q_a0_sieved_leasts, .ref q_a0_sieved_greatests, .ref q_a0_sieved_rests, .ref h_a0_sieved_squared, .long a0_sieved_from, .int a0_sieved_many, .int a0_sieved_primeCount, .int a0_sieved_gap, .int a0_sieved_twins, .int a0_sieved_squareFree])), (q_a0_sieved_leasts, .inl (cJ, 5000, .inr (.inl a0_sieved_leasts))), (q_a0_sieved_greatests, .inl (cJ, 5000, .inr (.inl a0_sieved_greatests))), (q_a0_sieved_rests, .inl (cJ, 5000, .inr (.inl a0_sieved_rests))), (h_a0_sieved_squared, .inr (0, [.ref q_a0_sieved_squared_words])), (q_a0_sieved_squared_words, .inl (cJ, 79, .inr (.inl a0_sieved_squared_words)))] sz) (qc_X8_span_c01 dC dI cI cJ cZ h_a0 h_a0_sieved a0_sieved_leasts q_a0_sieved_leasts a0_sieved_greatests q_a0_sieved_greatests a0_sieved_rests q_a0_sieved_rests h_a0_sieved_squared a0_sieved_squared_words q_a0_sieved_squared_words a0_sieved_from a0_sieved_many a0_sieved_primeCount a0_sieved_gap a0_sieved_twins a0_sieved_squareFree w_a0_parting w_a0_primeSums w_a0_progression w_a0_rows Q (va_A [(h_a0, .inr (7, [.null, .ref h_a0_sieved, w_a0_parting, w_a0_primeSums, w_a0_progression, w_a0_rows])), (h_a0_sieved, .inr (6, [.ref q_a0_sieved_leasts, .ref q_a0_sieved_greatests, .ref q_a0_sieved_rests, .ref h_a0_sieved_squared, .long a0_sieved_from, .int a0_sieved_many, .int a0_sieved_primeCount, .int a0_sieved_gap, .int a0_sieved_twins, .int a0_sieved_squareFree])), (q_a0_sieved_leasts, .inl (cJ, 5000, .inr (.inl a0_sieved_leasts))), (q_a0_sieved_greatests, .inl (cJ, 5000, .inr (.inl a0_sieved_greatests))), (q_a0_sieved_rests, .inl (cJ, 5000, .inr (.inl a0_sieved_rests))), (h_a0_sieved_squared, .inr (0, [.ref q_a0_sieved_squared_words])), (q_a0_sieved_squared_words, .inl (cJ, 79, .inr (.inl a0_sieved_squared_words)))] sz)) mcP msP (va_A [(h_a0, .inr (7, [.null, .ref h_a0_sieved, w_a0_parting, w_a0_primeSums, w_a0_progression, w_a0_rows])), (h_a0_sieved, .inr (6, [.ref q_a0_sieved_leasts, .ref q_a0_sieved_greatests, .ref q_a0_sieved_rests, .ref h_a0_sieved_squared, .long a0_sieved_from, .int a0_sieved_many, .int a0_sieved_primeCount, .int a0_sieved_gap, .int a0_sieved_twins, .int a0_sieved_squareFree])), (q_a0_sieved_leasts, .inl (cJ, 5000, .inr (.inl a0_sieved_leasts))), (q_a0_sieved_greatests, .inl (cJ, 5000, .inr (.inl a0_sieved_greatests))), (q_a0_sieved_rests, .inl (cJ, 5000, .inr (.inl a0_sieved_rests))), (h_a0_sieved_squared, .inr (0, [.ref q_a0_sieved_squared_words])), (q_a0_sieved_squared_words, .inl (cJ, 79, .inr (.inl a0_sieved_squared_words)))] sz) := by
  refine Met.ofW (cc := cX8_span) (maxL := 4) (ret := (some .int)) (by decide) rfl ?_
  intro p e s m args below meth c s₁ B hml hv
  obtain ⟨rfl, hsz, hP, hK, hN, hD0⟩ := hv
  have hx := B.exec
  have hb := B.bytes
  have hr := B.returns
  have hts := atoms_spec (ws := wsX8_span) B.pre
  have hown : s.vm.findClass RX8 = some m.cls := findClass_of_methodNamed B.named
  subst hsz
  have hD := hD0.self (sz := s.heap.size)
  generalize hAe : va_A [(h_a0, .inr (7, [.null, .ref h_a0_sieved, w_a0_parting, w_a0_primeSums, w_a0_progression, w_a0_rows])), (h_a0_sieved, .inr (6, [.ref q_a0_sieved_leasts, .ref q_a0_sieved_greatests, .ref q_a0_sieved_rests, .ref h_a0_sieved_squared, .long a0_sieved_from, .int a0_sieved_many, .int a0_sieved_primeCount, .int a0_sieved_gap, .int a0_sieved_twins, .int a0_sieved_squareFree])), (q_a0_sieved_leasts, .inl (cJ, 5000, .inr (.inl a0_sieved_leasts))), (q_a0_sieved_greatests, .inl (cJ, 5000, .inr (.inl a0_sieved_greatests))), (q_a0_sieved_rests, .inl (cJ, 5000, .inr (.inl a0_sieved_rests))), (h_a0_sieved_squared, .inr (0, [.ref q_a0_sieved_squared_words])), (q_a0_sieved_squared_words, .inl (cJ, 79, .inr (.inl a0_sieved_squared_words)))] s.heap.size = A at hD ⊢
  have hA : ∀ q : Nat, s.heap.size ≤ q → A q := fun q h => by rw [← hAe]; exact Or.inr h
  have hS : va_S A s.heap s.heap [] := va_S.rf
  have hl := lv_entry ([.ref h_a0, .long p1, .int p2]) (n := 4) (Nat.le_of_ble_eq_true rfl)
  rw [lg_entry_eq]
  generalize (lg_sl ([.ref h_a0, .long p1, .int p2]) ++ List.replicate (4 - (lg_sl ([.ref h_a0, .long p1, .int p2])).length) Slot.unset).toArray = ls at hl ⊢
  have hl : lv_has ls 4 [(0, .ref h_a0), (1, .long p1), (3, .int p2)] := hl
  have h := hQ
  unfold wp_X8_span_c01 at h
  have hw_0 := hts (.constantLong RX8 9 (10000000000)) (by decide +kernel)
  have hw_1 := hts (.fieldLink RX8 11 "NumberSieves" "sieved" "LNumberSieves$Span;") (by decide +kernel)
  have hin_X8 : ∀ w ∈ wsX80, w ∈ wsX8_span := by decide +kernel
  have hin_X6 : ∀ w ∈ wsX60, w ∈ wsX8_span := by decide +kernel
  refine lv_iload_n hx hb dX8_span_0 rfl (lv_at hl 2 rfl) ?_
  refine lv_iconst (v := (1 : Int32)) hx hb dX8_span_1 (by decide) ?_
  refine lv_icmp_lt (tgt := 31) hx hb dX8_span_2 (by decide) (fun c_1 => ?_) (fun c_1 => ?_)
  · replace h := h.1 c_1
    refine lv_iconst (v := (-1 : Int32)) hx hb dX8_span_31 (by decide) ?_
    have hP9 := hP.sub (ws' := [(h_a0, .inr (7, [.null, .ref h_a0_sieved, w_a0_parting, w_a0_primeSums, w_a0_progression, w_a0_rows])), (h_a0_sieved, .inr (6, [.ref q_a0_sieved_leasts, .ref q_a0_sieved_greatests, .ref q_a0_sieved_rests, .ref h_a0_sieved_squared, .long a0_sieved_from, .int a0_sieved_many, .int a0_sieved_primeCount, .int a0_sieved_gap, .int a0_sieved_twins, .int a0_sieved_squareFree])), (q_a0_sieved_leasts, .inl (cJ, 5000, .inr (.inl a0_sieved_leasts))), (q_a0_sieved_greatests, .inl (cJ, 5000, .inr (.inl a0_sieved_greatests))), (q_a0_sieved_rests, .inl (cJ, 5000, .inr (.inl a0_sieved_rests))), (h_a0_sieved_squared, .inr (0, [.ref q_a0_sieved_squared_words])), (q_a0_sieved_squared_words, .inl (cJ, 79, .inr (.inl a0_sieved_squared_words)))]) [0, 1, 2, 3, 4, 5, 6] rfl
    have hD9 := hD.sub (ws' := [(h_a0, .inr (7, [.null, .ref h_a0_sieved, w_a0_parting, w_a0_primeSums, w_a0_progression, w_a0_rows])), (h_a0_sieved, .inr (6, [.ref q_a0_sieved_leasts, .ref q_a0_sieved_greatests, .ref q_a0_sieved_rests, .ref h_a0_sieved_squared, .long a0_sieved_from, .int a0_sieved_many, .int a0_sieved_primeCount, .int a0_sieved_gap, .int a0_sieved_twins, .int a0_sieved_squareFree])), (q_a0_sieved_leasts, .inl (cJ, 5000, .inr (.inl a0_sieved_leasts))), (q_a0_sieved_greatests, .inl (cJ, 5000, .inr (.inl a0_sieved_greatests))), (q_a0_sieved_rests, .inl (cJ, 5000, .inr (.inl a0_sieved_rests))), (h_a0_sieved_squared, .inr (0, [.ref q_a0_sieved_squared_words])), (q_a0_sieved_squared_words, .inl (cJ, 79, .inr (.inl a0_sieved_squared_words)))]) [0, 1, 2, 3, 4, 5, 6] (by decide) rfl
    refine W.widen (k := mcP) (n := msP) (by first | omega | exact Nat.le_of_ble_eq_true rfl) (by first | omega | exact Nat.le_of_ble_eq_true rfl) ?_
    exact W.iret (v := (-1 : Int32)) hx hb hr (fun t ht hW => ⟨⟨_, (a0_sieved_from, a0_sieved_many, a0_sieved_primeCount, a0_sieved_gap, a0_sieved_twins, a0_sieved_squareFree, a0_sieved_leasts, a0_sieved_greatests, a0_sieved_rests, a0_sieved_squared_words, none), rfl, h, by rw [ht]; exact hP9, hD9⟩, hS.F ht⟩) hS.2.2 dX8_span_32
  · replace h := h.2 c_1
    refine lv_iload_n hx hb dX8_span_5 rfl (lv_at hl 2 rfl) ?_
    refine lv_sipush (v := (5000 : Int32)) hx hb dX8_span_6 (by decide) ?_
    refine lv_icmp_gt (tgt := 31) hx hb dX8_span_9 (by decide) (fun c_2 => ?_) (fun c_2 => ?_)
    · replace h := h.1 c_2
      refine lv_iconst (v := (-1 : Int32)) hx hb dX8_span_31 (by decide) ?_
      have hP9 := hP.sub (ws' := [(h_a0, .inr (7, [.null, .ref h_a0_sieved, w_a0_parting, w_a0_primeSums, w_a0_progression, w_a0_rows])), (h_a0_sieved, .inr (6, [.ref q_a0_sieved_leasts, .ref q_a0_sieved_greatests, .ref q_a0_sieved_rests, .ref h_a0_sieved_squared, .long a0_sieved_from, .int a0_sieved_many, .int a0_sieved_primeCount, .int a0_sieved_gap, .int a0_sieved_twins, .int a0_sieved_squareFree])), (q_a0_sieved_leasts, .inl (cJ, 5000, .inr (.inl a0_sieved_leasts))), (q_a0_sieved_greatests, .inl (cJ, 5000, .inr (.inl a0_sieved_greatests))), (q_a0_sieved_rests, .inl (cJ, 5000, .inr (.inl a0_sieved_rests))), (h_a0_sieved_squared, .inr (0, [.ref q_a0_sieved_squared_words])), (q_a0_sieved_squared_words, .inl (cJ, 79, .inr (.inl a0_sieved_squared_words)))]) [0, 1, 2, 3, 4, 5, 6] rfl
      have hD9 := hD.sub (ws' := [(h_a0, .inr (7, [.null, .ref h_a0_sieved, w_a0_parting, w_a0_primeSums, w_a0_progression, w_a0_rows])), (h_a0_sieved, .inr (6, [.ref q_a0_sieved_leasts, .ref q_a0_sieved_greatests, .ref q_a0_sieved_rests, .ref h_a0_sieved_squared, .long a0_sieved_from, .int a0_sieved_many, .int a0_sieved_primeCount, .int a0_sieved_gap, .int a0_sieved_twins, .int a0_sieved_squareFree])), (q_a0_sieved_leasts, .inl (cJ, 5000, .inr (.inl a0_sieved_leasts))), (q_a0_sieved_greatests, .inl (cJ, 5000, .inr (.inl a0_sieved_greatests))), (q_a0_sieved_rests, .inl (cJ, 5000, .inr (.inl a0_sieved_rests))), (h_a0_sieved_squared, .inr (0, [.ref q_a0_sieved_squared_words])), (q_a0_sieved_squared_words, .inl (cJ, 79, .inr (.inl a0_sieved_squared_words)))]) [0, 1, 2, 3, 4, 5, 6] (by decide) rfl
      refine W.widen (k := mcP) (n := msP) (by first | omega | exact Nat.le_of_ble_eq_true rfl) (by first | omega | exact Nat.le_of_ble_eq_true rfl) ?_
      exact W.iret (v := (-1 : Int32)) hx hb hr (fun t ht hW => ⟨⟨_, (a0_sieved_from, a0_sieved_many, a0_sieved_primeCount, a0_sieved_gap, a0_sieved_twins, a0_sieved_squareFree, a0_sieved_leasts, a0_sieved_greatests, a0_sieved_rests, a0_sieved_squared_words, none), rfl, h, by rw [ht]; exact hP9, hD9⟩, hS.F ht⟩) hS.2.2 dX8_span_32
    · replace h := h.2 c_2
      refine lv_lload_n hx hb dX8_span_12 rfl (lv_at hl 1 rfl) ?_
      refine lv_lconst (v := (1 : Int64)) hx hb dX8_span_13 (by decide) ?_
      refine W.lcmp hx hb dX8_span_14 ?_
      refine lv_if_lt (tgt := 31) hx hb dX8_span_15 (by decide) (fun c_3 => ?_) (fun c_3 => ?_)
      · replace c_3 := (lg_cmp_lt _ _).mp c_3
        replace h := h.1 c_3
        refine lv_iconst (v := (-1 : Int32)) hx hb dX8_span_31 (by decide) ?_
        have hP9 := hP.sub (ws' := [(h_a0, .inr (7, [.null, .ref h_a0_sieved, w_a0_parting, w_a0_primeSums, w_a0_progression, w_a0_rows])), (h_a0_sieved, .inr (6, [.ref q_a0_sieved_leasts, .ref q_a0_sieved_greatests, .ref q_a0_sieved_rests, .ref h_a0_sieved_squared, .long a0_sieved_from, .int a0_sieved_many, .int a0_sieved_primeCount, .int a0_sieved_gap, .int a0_sieved_twins, .int a0_sieved_squareFree])), (q_a0_sieved_leasts, .inl (cJ, 5000, .inr (.inl a0_sieved_leasts))), (q_a0_sieved_greatests, .inl (cJ, 5000, .inr (.inl a0_sieved_greatests))), (q_a0_sieved_rests, .inl (cJ, 5000, .inr (.inl a0_sieved_rests))), (h_a0_sieved_squared, .inr (0, [.ref q_a0_sieved_squared_words])), (q_a0_sieved_squared_words, .inl (cJ, 79, .inr (.inl a0_sieved_squared_words)))]) [0, 1, 2, 3, 4, 5, 6] rfl
        have hD9 := hD.sub (ws' := [(h_a0, .inr (7, [.null, .ref h_a0_sieved, w_a0_parting, w_a0_primeSums, w_a0_progression, w_a0_rows])), (h_a0_sieved, .inr (6, [.ref q_a0_sieved_leasts, .ref q_a0_sieved_greatests, .ref q_a0_sieved_rests, .ref h_a0_sieved_squared, .long a0_sieved_from, .int a0_sieved_many, .int a0_sieved_primeCount, .int a0_sieved_gap, .int a0_sieved_twins, .int a0_sieved_squareFree])), (q_a0_sieved_leasts, .inl (cJ, 5000, .inr (.inl a0_sieved_leasts))), (q_a0_sieved_greatests, .inl (cJ, 5000, .inr (.inl a0_sieved_greatests))), (q_a0_sieved_rests, .inl (cJ, 5000, .inr (.inl a0_sieved_rests))), (h_a0_sieved_squared, .inr (0, [.ref q_a0_sieved_squared_words])), (q_a0_sieved_squared_words, .inl (cJ, 79, .inr (.inl a0_sieved_squared_words)))]) [0, 1, 2, 3, 4, 5, 6] (by decide) rfl
        refine W.widen (k := mcP) (n := msP) (by first | omega | exact Nat.le_of_ble_eq_true rfl) (by first | omega | exact Nat.le_of_ble_eq_true rfl) ?_
        exact W.iret (v := (-1 : Int32)) hx hb hr (fun t ht hW => ⟨⟨_, (a0_sieved_from, a0_sieved_many, a0_sieved_primeCount, a0_sieved_gap, a0_sieved_twins, a0_sieved_squareFree, a0_sieved_leasts, a0_sieved_greatests, a0_sieved_rests, a0_sieved_squared_words, none), rfl, h, by rw [ht]; exact hP9, hD9⟩, hS.F ht⟩) hS.2.2 dX8_span_32
      · replace c_3 := lc_nlt c_3
        replace h := h.2 c_3
        refine lv_lload_n hx hb dX8_span_18 rfl (lv_at hl 1 rfl) ?_
        refine lv_ldc2 hx hb hown hw_0 dX8_span_19 ?_
        refine lv_iload_n hx hb dX8_span_22 rfl (lv_at hl 2 rfl) ?_
        refine lv_i2l hx hb dX8_span_23 rfl ?_
        refine lv_lsub hx hb dX8_span_24 ?_
        refine lv_lconst (v := (1 : Int64)) hx hb dX8_span_25 (by decide) ?_
        refine lv_ladd hx hb dX8_span_26 ?_
        refine W.lcmp hx hb dX8_span_27 ?_
        refine lv_if_le (tgt := 33) hx hb dX8_span_28 (by decide) (fun c_4 => ?_) (fun c_4 => ?_)
        · replace c_4 := (lg_cmp_le _ _).mp c_4
          replace h := h.1 c_4
          refine lv_aload_n hx hb dX8_span_33 rfl (lv_at hl 0 rfl) ?_
          refine va_get (D := (dC, dI)) (ci := 7) (v := .ref h_a0_sieved) (C := RX8) (T := TX8) (N := 6) hx hb hts hin_X8 hown hK hP 0 rfl rfl 1 (by decide) hw_1 (fun _ h9 => h9) rfl dX8_span_34 ?_
          refine lv_ifnonnull (tgt := 51) hx hb dX8_span_37 (by decide) ?_
          refine lv_aload_n hx hb dX8_span_51 rfl (lv_at hl 0 rfl) ?_
          refine va_get (D := (dC, dI)) (ci := 7) (v := .ref h_a0_sieved) (C := RX8) (T := TX8) (N := 6) hx hb hts hin_X8 hown hK hP 0 rfl rfl 1 (by decide) hw_1 (fun _ h9 => h9) rfl dX8_span_52 ?_
          refine lv_lload_n hx hb dX8_span_55 rfl (lv_at hl 1 rfl) ?_
          refine lv_iload_n hx hb dX8_span_56 rfl (lv_at hl 2 rfl) ?_
          refine lv_aload_n hx hb dX8_span_57 rfl (lv_at hl 0 rfl) ?_
          have hPc := hP.sub (ws' := [(h_a0, .inr (7, [.null, .ref h_a0_sieved, w_a0_parting, w_a0_primeSums, w_a0_progression, w_a0_rows]))]) [0] rfl
          have hDc := hD.sub (ws' := [(h_a0, .inr (7, [.null, .ref h_a0_sieved, w_a0_parting, w_a0_primeSums, w_a0_progression, w_a0_rows]))]) [0] (by decide) rfl
          have hFc := va_free (wc := [(h_a0, .inr (7, [.null, .ref h_a0_sieved, w_a0_parting, w_a0_primeSums, w_a0_progression, w_a0_rows]))]) hD hS hA [0] rfl
          obtain ⟨hm_7, hm_8, h⟩ := h
          refine va_callr (va_runV (As := []) (rest := [.int p2, .long p1, .ref h_a0_sieved]) ⟨hx, hb, hml, hown, hts⟩ (c_X8_knownPrimes_c0 l dC dI cI cJ cZ _ h_a0 (.ref h_a0_sieved) (w_a0_parting) (w_a0_primeSums) (w_a0_progression) (w_a0_rows) _ h) (cwV 0 hts gX8_span_X8_knownPrimes rfl rfl rfl (by decide +kernel) ⟨Nat.le_of_ble_eq_true rfl, Nat.le_of_ble_eq_true rfl⟩) ⟨pre_fb, va_recv hK hPc (ci := 7) (q0 := 0) rfl rfl, pre_of hPc hDc hK hN⟩ rfl rfl hl.1 rfl (lv_room (Nat.le_of_ble_eq_true rfl)) dX8_span_58 ⟨hm_7, hm_8⟩) hS (fun q _ h => hFc q h) hFc (fun u ra t H1 locs ht hvm h hB hz1 hk1 hS => ?_)
          obtain ⟨q_9, q_10, o_5, o_6⟩ := u
          obtain ⟨hra, hP1, hD1⟩ := hB
          try dsimp only at hra
          subst ra
          rw [ht] at hP1
          try dsimp only at h
          obtain ⟨hP, hD⟩ := va_join (wr := [(h_a0_sieved, .inr (6, [.ref q_a0_sieved_leasts, .ref q_a0_sieved_greatests, .ref q_a0_sieved_rests, .ref h_a0_sieved_squared, .long a0_sieved_from, .int a0_sieved_many, .int a0_sieved_primeCount, .int a0_sieved_gap, .int a0_sieved_twins, .int a0_sieved_squareFree])), (q_a0_sieved_leasts, .inl (cJ, 5000, .inr (.inl a0_sieved_leasts))), (q_a0_sieved_greatests, .inl (cJ, 5000, .inr (.inl a0_sieved_greatests))), (q_a0_sieved_rests, .inl (cJ, 5000, .inr (.inl a0_sieved_rests))), (h_a0_sieved_squared, .inr (0, [.ref q_a0_sieved_squared_words])), (q_a0_sieved_squared_words, .inl (cJ, 79, .inr (.inl a0_sieved_squared_words)))]) (w1 := [(h_a0, .inr (7, [.ref q_9, .ref h_a0_sieved, w_a0_parting, w_a0_primeSums, w_a0_progression, w_a0_rows])), (q_9, .inr (3, [.ref q_10, .int o_6])), (q_10, .inl (cI, 9592, .inl o_5))]) hP hD [0] [1, 2, 3, 4, 5, 6] rfl rfl (by decide) (by decide) hk1 hFc hP1 hD1
          generalize H1 = H at hP hS ⊢
          have hP : va_P (dC, dI) vwCl [(h_a0_sieved, .inr (6, [.ref q_a0_sieved_leasts, .ref q_a0_sieved_greatests, .ref q_a0_sieved_rests, .ref h_a0_sieved_squared, .long a0_sieved_from, .int a0_sieved_many, .int a0_sieved_primeCount, .int a0_sieved_gap, .int a0_sieved_twins, .int a0_sieved_squareFree])), (q_a0_sieved_leasts, .inl (cJ, 5000, .inr (.inl a0_sieved_leasts))), (q_a0_sieved_greatests, .inl (cJ, 5000, .inr (.inl a0_sieved_greatests))), (q_a0_sieved_rests, .inl (cJ, 5000, .inr (.inl a0_sieved_rests))), (h_a0_sieved_squared, .inr (0, [.ref q_a0_sieved_squared_words])), (q_a0_sieved_squared_words, .inl (cJ, 79, .inr (.inl a0_sieved_squared_words))), (h_a0, .inr (7, [.ref q_9, .ref h_a0_sieved, w_a0_parting, w_a0_primeSums, w_a0_progression, w_a0_rows])), (q_9, .inr (3, [.ref q_10, .int o_6])), (q_10, .inl (cI, 9592, .inl o_5))] H := hP
          have hD : va_D A [(h_a0_sieved, .inr (6, [.ref q_a0_sieved_leasts, .ref q_a0_sieved_greatests, .ref q_a0_sieved_rests, .ref h_a0_sieved_squared, .long a0_sieved_from, .int a0_sieved_many, .int a0_sieved_primeCount, .int a0_sieved_gap, .int a0_sieved_twins, .int a0_sieved_squareFree])), (q_a0_sieved_leasts, .inl (cJ, 5000, .inr (.inl a0_sieved_leasts))), (q_a0_sieved_greatests, .inl (cJ, 5000, .inr (.inl a0_sieved_greatests))), (q_a0_sieved_rests, .inl (cJ, 5000, .inr (.inl a0_sieved_rests))), (h_a0_sieved_squared, .inr (0, [.ref q_a0_sieved_squared_words])), (q_a0_sieved_squared_words, .inl (cJ, 79, .inr (.inl a0_sieved_squared_words))), (h_a0, .inr (7, [.ref q_9, .ref h_a0_sieved, w_a0_parting, w_a0_primeSums, w_a0_progression, w_a0_rows])), (q_9, .inr (3, [.ref q_10, .int o_6])), (q_10, .inl (cI, 9592, .inl o_5))] := hD
          refine W.widen (k := 4) (n := 11158) (by omega) (by omega) ?_
          have hPc := hP.sub (ws' := [(h_a0_sieved, .inr (6, [.ref q_a0_sieved_leasts, .ref q_a0_sieved_greatests, .ref q_a0_sieved_rests, .ref h_a0_sieved_squared, .long a0_sieved_from, .int a0_sieved_many, .int a0_sieved_primeCount, .int a0_sieved_gap, .int a0_sieved_twins, .int a0_sieved_squareFree])), (q_a0_sieved_leasts, .inl (cJ, 5000, .inr (.inl a0_sieved_leasts))), (q_a0_sieved_greatests, .inl (cJ, 5000, .inr (.inl a0_sieved_greatests))), (q_a0_sieved_rests, .inl (cJ, 5000, .inr (.inl a0_sieved_rests))), (h_a0_sieved_squared, .inr (0, [.ref q_a0_sieved_squared_words])), (q_a0_sieved_squared_words, .inl (cJ, 79, .inr (.inl a0_sieved_squared_words))), (q_9, .inr (3, [.ref q_10, .int o_6])), (q_10, .inl (cI, 9592, .inl o_5))]) [0, 1, 2, 3, 4, 5, 7, 8] rfl
          have hDc := hD.sub (ws' := [(h_a0_sieved, .inr (6, [.ref q_a0_sieved_leasts, .ref q_a0_sieved_greatests, .ref q_a0_sieved_rests, .ref h_a0_sieved_squared, .long a0_sieved_from, .int a0_sieved_many, .int a0_sieved_primeCount, .int a0_sieved_gap, .int a0_sieved_twins, .int a0_sieved_squareFree])), (q_a0_sieved_leasts, .inl (cJ, 5000, .inr (.inl a0_sieved_leasts))), (q_a0_sieved_greatests, .inl (cJ, 5000, .inr (.inl a0_sieved_greatests))), (q_a0_sieved_rests, .inl (cJ, 5000, .inr (.inl a0_sieved_rests))), (h_a0_sieved_squared, .inr (0, [.ref q_a0_sieved_squared_words])), (q_a0_sieved_squared_words, .inl (cJ, 79, .inr (.inl a0_sieved_squared_words))), (q_9, .inr (3, [.ref q_10, .int o_6])), (q_10, .inl (cI, 9592, .inl o_5))]) [0, 1, 2, 3, 4, 5, 7, 8] (by decide) rfl
          have hFc := va_free (wc := [(h_a0_sieved, .inr (6, [.ref q_a0_sieved_leasts, .ref q_a0_sieved_greatests, .ref q_a0_sieved_rests, .ref h_a0_sieved_squared, .long a0_sieved_from, .int a0_sieved_many, .int a0_sieved_primeCount, .int a0_sieved_gap, .int a0_sieved_twins, .int a0_sieved_squareFree])), (q_a0_sieved_leasts, .inl (cJ, 5000, .inr (.inl a0_sieved_leasts))), (q_a0_sieved_greatests, .inl (cJ, 5000, .inr (.inl a0_sieved_greatests))), (q_a0_sieved_rests, .inl (cJ, 5000, .inr (.inl a0_sieved_rests))), (h_a0_sieved_squared, .inr (0, [.ref q_a0_sieved_squared_words])), (q_a0_sieved_squared_words, .inl (cJ, 79, .inr (.inl a0_sieved_squared_words))), (q_9, .inr (3, [.ref q_10, .int o_6])), (q_10, .inl (cI, 9592, .inl o_5))]) hD hS hA [0, 1, 2, 3, 4, 5, 7, 8] rfl
          refine va_callv (va_runV (As := [.long p1, .int p2, .ref q_9]) (rest := []) ⟨hx, hb, hml, hown, hts⟩ (c_X6_sieve l dC dI cI cJ cZ _ h_a0_sieved a0_sieved_leasts q_a0_sieved_leasts a0_sieved_greatests q_a0_sieved_greatests a0_sieved_rests q_a0_sieved_rests h_a0_sieved_squared a0_sieved_squared_words q_a0_sieved_squared_words a0_sieved_from a0_sieved_many a0_sieved_primeCount a0_sieved_gap a0_sieved_twins a0_sieved_squareFree q_9 o_5 q_10 o_6 p1 p2 _ h) (cwV 3 hts gX8_span_X6_sieve rfl rfl rfl (by decide +kernel) ⟨Nat.le_of_ble_eq_true rfl, Nat.le_of_ble_eq_true rfl⟩) ⟨pre_fb, va_recv hK hPc (ci := 6) (q0 := 0) rfl rfl, pre_of hPc hDc hK hN⟩ rfl rfl hl.1 rfl (lv_room (Nat.le_of_ble_eq_true rfl)) dX8_span_61 ⟨by show _ ≤ mcP; omega, by show _ ≤ msP; omega⟩) hS (fun q _ h => hFc q h) hFc (fun u t H1 locs ht hvm h hB hz1 hk1 hS => ?_)
          obtain ⟨o_11, o_12, o_13, o_14, o_15, o_16, o_17, o_18, o_19, o_20⟩ := u
          obtain ⟨hP1, hD1⟩ := hB
          rw [ht] at hP1
          try dsimp only at h
          obtain ⟨hP, hD⟩ := va_join (wr := [(h_a0, .inr (7, [.ref q_9, .ref h_a0_sieved, w_a0_parting, w_a0_primeSums, w_a0_progression, w_a0_rows]))]) (w1 := [(h_a0_sieved, .inr (6, [.ref q_a0_sieved_leasts, .ref q_a0_sieved_greatests, .ref q_a0_sieved_rests, .ref h_a0_sieved_squared, .long o_11, .int o_12, .int o_13, .int o_14, .int o_15, .int o_16])), (q_a0_sieved_leasts, .inl (cJ, 5000, .inr (.inl o_17))), (q_a0_sieved_greatests, .inl (cJ, 5000, .inr (.inl o_18))), (q_a0_sieved_rests, .inl (cJ, 5000, .inr (.inl o_19))), (h_a0_sieved_squared, .inr (0, [.ref q_a0_sieved_squared_words])), (q_a0_sieved_squared_words, .inl (cJ, 79, .inr (.inl o_20))), (q_9, .inr (3, [.ref q_10, .int o_6])), (q_10, .inl (cI, 9592, .inl o_5))]) hP hD [0, 1, 2, 3, 4, 5, 7, 8] [6] rfl rfl (by decide) (by decide) hk1 hFc hP1 hD1
          generalize H1 = H at hP hS ⊢
          have hP : va_P (dC, dI) vwCl [(h_a0, .inr (7, [.ref q_9, .ref h_a0_sieved, w_a0_parting, w_a0_primeSums, w_a0_progression, w_a0_rows])), (h_a0_sieved, .inr (6, [.ref q_a0_sieved_leasts, .ref q_a0_sieved_greatests, .ref q_a0_sieved_rests, .ref h_a0_sieved_squared, .long o_11, .int o_12, .int o_13, .int o_14, .int o_15, .int o_16])), (q_a0_sieved_leasts, .inl (cJ, 5000, .inr (.inl o_17))), (q_a0_sieved_greatests, .inl (cJ, 5000, .inr (.inl o_18))), (q_a0_sieved_rests, .inl (cJ, 5000, .inr (.inl o_19))), (h_a0_sieved_squared, .inr (0, [.ref q_a0_sieved_squared_words])), (q_a0_sieved_squared_words, .inl (cJ, 79, .inr (.inl o_20))), (q_9, .inr (3, [.ref q_10, .int o_6])), (q_10, .inl (cI, 9592, .inl o_5))] H := hP
          have hD : va_D A [(h_a0, .inr (7, [.ref q_9, .ref h_a0_sieved, w_a0_parting, w_a0_primeSums, w_a0_progression, w_a0_rows])), (h_a0_sieved, .inr (6, [.ref q_a0_sieved_leasts, .ref q_a0_sieved_greatests, .ref q_a0_sieved_rests, .ref h_a0_sieved_squared, .long o_11, .int o_12, .int o_13, .int o_14, .int o_15, .int o_16])), (q_a0_sieved_leasts, .inl (cJ, 5000, .inr (.inl o_17))), (q_a0_sieved_greatests, .inl (cJ, 5000, .inr (.inl o_18))), (q_a0_sieved_rests, .inl (cJ, 5000, .inr (.inl o_19))), (h_a0_sieved_squared, .inr (0, [.ref q_a0_sieved_squared_words])), (q_a0_sieved_squared_words, .inl (cJ, 79, .inr (.inl o_20))), (q_9, .inr (3, [.ref q_10, .int o_6])), (q_10, .inl (cI, 9592, .inl o_5))] := hD
          refine lv_aload_n hx hb dX8_span_64 rfl (lv_at hl 0 rfl) ?_
          refine va_get (D := (dC, dI)) (ci := 7) (v := .ref h_a0_sieved) (C := RX8) (T := TX8) (N := 6) hx hb hts hin_X8 hown hK hP 0 rfl rfl 1 (by decide) hw_1 (fun _ h9 => h9) rfl dX8_span_65 ?_
          refine va_getN (D := (dC, dI)) (ci := 6) (v := .int o_13) (C := RX6) (T := TX6) (N := 10) hx hb hts hin_X6 hown hK hP 1 rfl rfl 6 (by decide) (nw_1 hN) (fun _ h9 => h9) rfl dX8_span_68 ?_
          have hP9 := hP.sub (ws' := [(h_a0, .inr (7, [.ref q_9, .ref h_a0_sieved, w_a0_parting, w_a0_primeSums, w_a0_progression, w_a0_rows])), (h_a0_sieved, .inr (6, [.ref q_a0_sieved_leasts, .ref q_a0_sieved_greatests, .ref q_a0_sieved_rests, .ref h_a0_sieved_squared, .long o_11, .int o_12, .int o_13, .int o_14, .int o_15, .int o_16])), (q_a0_sieved_leasts, .inl (cJ, 5000, .inr (.inl o_17))), (q_a0_sieved_greatests, .inl (cJ, 5000, .inr (.inl o_18))), (q_a0_sieved_rests, .inl (cJ, 5000, .inr (.inl o_19))), (h_a0_sieved_squared, .inr (0, [.ref q_a0_sieved_squared_words])), (q_a0_sieved_squared_words, .inl (cJ, 79, .inr (.inl o_20))), (q_9, .inr (3, [.ref q_10, .int o_6])), (q_10, .inl (cI, 9592, .inl o_5))]) [0, 1, 2, 3, 4, 5, 6, 7, 8] rfl
          have hD9 := hD.sub (ws' := [(h_a0, .inr (7, [.ref q_9, .ref h_a0_sieved, w_a0_parting, w_a0_primeSums, w_a0_progression, w_a0_rows])), (h_a0_sieved, .inr (6, [.ref q_a0_sieved_leasts, .ref q_a0_sieved_greatests, .ref q_a0_sieved_rests, .ref h_a0_sieved_squared, .long o_11, .int o_12, .int o_13, .int o_14, .int o_15, .int o_16])), (q_a0_sieved_leasts, .inl (cJ, 5000, .inr (.inl o_17))), (q_a0_sieved_greatests, .inl (cJ, 5000, .inr (.inl o_18))), (q_a0_sieved_rests, .inl (cJ, 5000, .inr (.inl o_19))), (h_a0_sieved_squared, .inr (0, [.ref q_a0_sieved_squared_words])), (q_a0_sieved_squared_words, .inl (cJ, 79, .inr (.inl o_20))), (q_9, .inr (3, [.ref q_10, .int o_6])), (q_10, .inl (cI, 9592, .inl o_5))]) [0, 1, 2, 3, 4, 5, 6, 7, 8] (by decide) rfl
          refine W.widen (k := mcP) (n := msP) (by first | omega | exact Nat.le_of_ble_eq_true rfl) (by first | omega | exact Nat.le_of_ble_eq_true rfl) ?_
          exact W.iret (v := o_13) hx hb hr (fun t ht hW => ⟨⟨_, (o_11, o_12, o_13, o_14, o_15, o_16, o_17, o_18, o_19, o_20, some ((q_9, q_10), (o_5, o_6))), rfl, h, by rw [ht]; exact hP9, hD9⟩, hS.F ht⟩) hS.2.2 dX8_span_71
        · replace c_4 := lc_nle c_4
          replace h := h.2 c_4
          refine lv_iconst (v := (-1 : Int32)) hx hb dX8_span_31 (by decide) ?_
          have hP9 := hP.sub (ws' := [(h_a0, .inr (7, [.null, .ref h_a0_sieved, w_a0_parting, w_a0_primeSums, w_a0_progression, w_a0_rows])), (h_a0_sieved, .inr (6, [.ref q_a0_sieved_leasts, .ref q_a0_sieved_greatests, .ref q_a0_sieved_rests, .ref h_a0_sieved_squared, .long a0_sieved_from, .int a0_sieved_many, .int a0_sieved_primeCount, .int a0_sieved_gap, .int a0_sieved_twins, .int a0_sieved_squareFree])), (q_a0_sieved_leasts, .inl (cJ, 5000, .inr (.inl a0_sieved_leasts))), (q_a0_sieved_greatests, .inl (cJ, 5000, .inr (.inl a0_sieved_greatests))), (q_a0_sieved_rests, .inl (cJ, 5000, .inr (.inl a0_sieved_rests))), (h_a0_sieved_squared, .inr (0, [.ref q_a0_sieved_squared_words])), (q_a0_sieved_squared_words, .inl (cJ, 79, .inr (.inl a0_sieved_squared_words)))]) [0, 1, 2, 3, 4, 5, 6] rfl
          have hD9 := hD.sub (ws' := [(h_a0, .inr (7, [.null, .ref h_a0_sieved, w_a0_parting, w_a0_primeSums, w_a0_progression, w_a0_rows])), (h_a0_sieved, .inr (6, [.ref q_a0_sieved_leasts, .ref q_a0_sieved_greatests, .ref q_a0_sieved_rests, .ref h_a0_sieved_squared, .long a0_sieved_from, .int a0_sieved_many, .int a0_sieved_primeCount, .int a0_sieved_gap, .int a0_sieved_twins, .int a0_sieved_squareFree])), (q_a0_sieved_leasts, .inl (cJ, 5000, .inr (.inl a0_sieved_leasts))), (q_a0_sieved_greatests, .inl (cJ, 5000, .inr (.inl a0_sieved_greatests))), (q_a0_sieved_rests, .inl (cJ, 5000, .inr (.inl a0_sieved_rests))), (h_a0_sieved_squared, .inr (0, [.ref q_a0_sieved_squared_words])), (q_a0_sieved_squared_words, .inl (cJ, 79, .inr (.inl a0_sieved_squared_words)))]) [0, 1, 2, 3, 4, 5, 6] (by decide) rfl
          refine W.widen (k := mcP) (n := msP) (by first | omega | exact Nat.le_of_ble_eq_true rfl) (by first | omega | exact Nat.le_of_ble_eq_true rfl) ?_
          exact W.iret (v := (-1 : Int32)) hx hb hr (fun t ht hW => ⟨⟨_, (a0_sieved_from, a0_sieved_many, a0_sieved_primeCount, a0_sieved_gap, a0_sieved_twins, a0_sieved_squareFree, a0_sieved_leasts, a0_sieved_greatests, a0_sieved_rests, a0_sieved_squared_words, none), rfl, h, by rw [ht]; exact hP9, hD9⟩, hS.F ht⟩) hS.2.2 dX8_span_32
def wp_X8_span_c10 (mcP msP : Nat) (a0_primes_table : Nat → Int32) (a0_primes_many : Int32) (p1 : Int64) (p2 : Int32) (Q : Int32 → Option ((Nat → Int64) × (Nat → Int64) × (Nat → Int64) × (Nat → Int64) × Int64 × Int32 × Int32 × Int32 × Int32 × Int32) → Prop) : Prop :=
  ((p2 < (1 : Int32) → Q (-1 : Int32) none) ∧ (¬ p2 < (1 : Int32) → (((5000 : Int32) < p2 → Q (-1 : Int32) none) ∧ (¬ (5000 : Int32) < p2 → ((p1 < (1 : Int64) → Q (-1 : Int32) none) ∧ (¬ p1 < (1 : Int64) → ((p1 ≤ (((10000000000 : Int64) - p2.toInt64) + (1 : Int64)) → (1 ≤ mcP ∧ 10 ≤ msP ∧ (6 ≤ mcP ∧ 15090 ≤ msP ∧ wp_X6_init (fun o_8 o_9 o_10 o_11 o_12 o_13 o_14 o_15 o_16 o_17 => wp_X8_knownPrimes_c1 (wp_X6_sieve o_8 o_9 o_10 o_11 o_12 o_13 o_14 o_15 o_16 o_17 a0_primes_table a0_primes_many p1 p2 (fun o_25 o_26 o_27 o_28 o_29 o_30 o_31 o_32 o_33 o_34 => Q o_27 (some (o_31, o_32, o_33, o_34, o_25, o_26, o_27, o_28, o_29, o_30)))))))) ∧ (¬ p1 ≤ (((10000000000 : Int64) - p2.toInt64) + (1 : Int64)) → Q (-1 : Int32) none))))))))
abbrev rm_X8_span_c10 (mcP msP : Nat) : Room := { frames := 5, cells := mcP, slots := msP, locals := 111 }
abbrev qc_X8_span_c10 (dC : Nat → ClassId) (dI : Nat → Nat → Nat) (cI cJ cZ : ClassId) (h_a0 : Nat) (h_a0_primes : Nat) (a0_primes_table : Nat → Int32) (q_a0_primes_table : Nat) (a0_primes_many : Int32) (w_a0_parting : Value) (w_a0_primeSums : Value) (w_a0_progression : Value) (w_a0_rows : Value) (Q : Int32 → Option ((Nat → Int64) × (Nat → Int64) × (Nat → Int64) × (Nat → Int64) × Int64 × Int32 × Int32 × Int32 × Int32 × Int32) → Prop) (A : Nat → Prop) : Array Value → State → Outcome → State → Prop := va_Qi (fun (r : Int32) (u : Option ((Nat × Nat × Nat × Nat × Nat × Nat) × ((Nat → Int64) × (Nat → Int64) × (Nat → Int64) × (Nat → Int64) × Int64 × Int32 × Int32 × Int32 × Int32 × Int32))) => Q r (u.map Prod.snd)) (post_ dC dI A (fun (u : Option ((Nat × Nat × Nat × Nat × Nat × Nat) × ((Nat → Int64) × (Nat → Int64) × (Nat → Int64) × (Nat → Int64) × Int64 × Int32 × Int32 × Int32 × Int32 × Int32))) => ([(h_a0, .inr (7, [.ref h_a0_primes, (match u with | none => Value.null | some w => Value.ref w.1.1), w_a0_parting, w_a0_primeSums, w_a0_progression, w_a0_rows])), (h_a0_primes, .inr (3, [.ref q_a0_primes_table, .int a0_primes_many])), (q_a0_primes_table, .inl (cI, 9592, .inl a0_primes_table))] : va_W) ++ (match u with | none => ([] : va_W) | some w => [(w.1.1, .inr (6, [.ref w.1.2.1, .ref w.1.2.2.1, .ref w.1.2.2.2.1, .ref w.1.2.2.2.2.1, .long w.2.2.2.2.2.1, .int w.2.2.2.2.2.2.1, .int w.2.2.2.2.2.2.2.1, .int w.2.2.2.2.2.2.2.2.1, .int w.2.2.2.2.2.2.2.2.2.1, .int w.2.2.2.2.2.2.2.2.2.2])), (w.1.2.1, .inl (cJ, 5000, .inr (.inl (w.2.1)))), (w.1.2.2.1, .inl (cJ, 5000, .inr (.inl (w.2.2.1)))), (w.1.2.2.2.1, .inl (cJ, 5000, .inr (.inl (w.2.2.2.1)))), (w.1.2.2.2.2.1, .inr (0, [.ref w.1.2.2.2.2.2])), (w.1.2.2.2.2.2, .inl (cJ, 79, .inr (.inl (w.2.2.2.2.1))))]))) A
set_option maxHeartbeats 4000000 in
set_option maxRecDepth 100000 in
theorem c_X8_span_c10 (l : Launch) (dC : Nat → ClassId) (dI : Nat → Nat → Nat) (cI cJ cZ : ClassId) (sz : Nat) (mcP msP : Nat) (h_a0 : Nat) (h_a0_primes : Nat) (a0_primes_table : Nat → Int32) (q_a0_primes_table : Nat) (a0_primes_many : Int32) (w_a0_parting : Value) (w_a0_primeSums : Value) (w_a0_progression : Value) (w_a0_rows : Value) (p1 : Int64) (p2 : Int32) (Q : Int32 → Option ((Nat → Int64) × (Nat → Int64) × (Nat → Int64) × (Nat → Int64) × Int64 × Int32 × Int32 × Int32 × Int32 × Int32) → Prop) (hQ : wp_X8_span_c10 mcP msP a0_primes_table a0_primes_many p1 p2 Q) : Met l yX8_span wsX8_span (rm_X8_span_c10 mcP msP) (pre_ dC dI cI cJ cZ [.ref h_a0, .long p1, .int p2] [(h_a0, .inr (7, [.ref h_a0_primes, .null, w_a0_parting, w_a0_primeSums, w_a0_progression, w_a0_rows])), (h_a0_primes, .inr (3, [.ref q_a0_primes_table, .int a0_primes_many])), (q_a0_primes_table, .inl (cI, 9592, .inl a0_primes_table))] sz) (qc_X8_span_c10 dC dI cI cJ cZ h_a0 h_a0_primes a0_primes_table q_a0_primes_table a0_primes_many w_a0_parting w_a0_primeSums w_a0_progression w_a0_rows Q (va_A [(h_a0, .inr (7, [.ref h_a0_primes, .null, w_a0_parting, w_a0_primeSums, w_a0_progression, w_a0_rows])), (h_a0_primes, .inr (3, [.ref q_a0_primes_table, .int a0_primes_many])), (q_a0_primes_table, .inl (cI, 9592, .inl a0_primes_table))] sz)) mcP msP (va_A [(h_a0, .inr (7, [.ref h_a0_primes, .null, w_a0_parting, w_a0_primeSums, w_a0_progression, w_a0_rows])), (h_a0_primes, .inr (3, [.ref q_a0_primes_table, .int a0_primes_many])), (q_a0_primes_table, .inl (cI, 9592, .inl a0_primes_table))] sz) := by
  refine Met.ofW (cc := cX8_span) (maxL := 4) (ret := (some .int)) (by decide) rfl ?_
  intro p e s m args below meth c s₁ B hml hv
  obtain ⟨rfl, hsz, hP, hK, hN, hD0⟩ := hv
  have hx := B.exec
  have hb := B.bytes
  have hr := B.returns
  have hts := atoms_spec (ws := wsX8_span) B.pre
  have hown : s.vm.findClass RX8 = some m.cls := findClass_of_methodNamed B.named
  subst hsz
  have hD := hD0.self (sz := s.heap.size)
  generalize hAe : va_A [(h_a0, .inr (7, [.ref h_a0_primes, .null, w_a0_parting, w_a0_primeSums, w_a0_progression, w_a0_rows])), (h_a0_primes, .inr (3, [.ref q_a0_primes_table, .int a0_primes_many])), (q_a0_primes_table, .inl (cI, 9592, .inl a0_primes_table))] s.heap.size = A at hD ⊢
  have hA : ∀ q : Nat, s.heap.size ≤ q → A q := fun q h => by rw [← hAe]; exact Or.inr h
  have hS : va_S A s.heap s.heap [] := va_S.rf
  have hl := lv_entry ([.ref h_a0, .long p1, .int p2]) (n := 4) (Nat.le_of_ble_eq_true rfl)
  rw [lg_entry_eq]
  generalize (lg_sl ([.ref h_a0, .long p1, .int p2]) ++ List.replicate (4 - (lg_sl ([.ref h_a0, .long p1, .int p2])).length) Slot.unset).toArray = ls at hl ⊢
  have hl : lv_has ls 4 [(0, .ref h_a0), (1, .long p1), (3, .int p2)] := hl
  have h := hQ
  unfold wp_X8_span_c10 at h
  have hw_0 := hts (.constantLong RX8 9 (10000000000)) (by decide +kernel)
  have hw_1 := hts (.fieldLink RX8 11 "NumberSieves" "sieved" "LNumberSieves$Span;") (by decide +kernel)
  have hin_X8 : ∀ w ∈ wsX80, w ∈ wsX8_span := by decide +kernel
  have hin_X6 : ∀ w ∈ wsX60, w ∈ wsX8_span := by decide +kernel
  have hw_4 := hts (.classLink RX8 15 RX6) (by decide +kernel)
  have hw_5 := hts (.instantiable RX6 10) (by decide +kernel)
  have hw_6 := hts (.initialized RX6) (by decide +kernel)
  have hw_7 := hts (.methodLink RX8 17 yX6_init) (by decide +kernel)
  have hw_8 := hts (.instanceMethod yX6_init) (by decide +kernel)
  refine lv_iload_n hx hb dX8_span_0 rfl (lv_at hl 2 rfl) ?_
  refine lv_iconst (v := (1 : Int32)) hx hb dX8_span_1 (by decide) ?_
  refine lv_icmp_lt (tgt := 31) hx hb dX8_span_2 (by decide) (fun c_1 => ?_) (fun c_1 => ?_)
  · replace h := h.1 c_1
    refine lv_iconst (v := (-1 : Int32)) hx hb dX8_span_31 (by decide) ?_
    have hP9 := hP.sub (ws' := [(h_a0, .inr (7, [.ref h_a0_primes, .null, w_a0_parting, w_a0_primeSums, w_a0_progression, w_a0_rows])), (h_a0_primes, .inr (3, [.ref q_a0_primes_table, .int a0_primes_many])), (q_a0_primes_table, .inl (cI, 9592, .inl a0_primes_table))]) [0, 1, 2] rfl
    have hD9 := hD.sub (ws' := [(h_a0, .inr (7, [.ref h_a0_primes, .null, w_a0_parting, w_a0_primeSums, w_a0_progression, w_a0_rows])), (h_a0_primes, .inr (3, [.ref q_a0_primes_table, .int a0_primes_many])), (q_a0_primes_table, .inl (cI, 9592, .inl a0_primes_table))]) [0, 1, 2] (by decide) rfl
    refine W.widen (k := mcP) (n := msP) (by first | omega | exact Nat.le_of_ble_eq_true rfl) (by first | omega | exact Nat.le_of_ble_eq_true rfl) ?_
    exact W.iret (v := (-1 : Int32)) hx hb hr (fun t ht hW => ⟨⟨_, none, rfl, h, by rw [ht]; exact hP9, hD9⟩, hS.F ht⟩) hS.2.2 dX8_span_32
  · replace h := h.2 c_1
    refine lv_iload_n hx hb dX8_span_5 rfl (lv_at hl 2 rfl) ?_
    refine lv_sipush (v := (5000 : Int32)) hx hb dX8_span_6 (by decide) ?_
    refine lv_icmp_gt (tgt := 31) hx hb dX8_span_9 (by decide) (fun c_2 => ?_) (fun c_2 => ?_)
    · replace h := h.1 c_2
      refine lv_iconst (v := (-1 : Int32)) hx hb dX8_span_31 (by decide) ?_
      have hP9 := hP.sub (ws' := [(h_a0, .inr (7, [.ref h_a0_primes, .null, w_a0_parting, w_a0_primeSums, w_a0_progression, w_a0_rows])), (h_a0_primes, .inr (3, [.ref q_a0_primes_table, .int a0_primes_many])), (q_a0_primes_table, .inl (cI, 9592, .inl a0_primes_table))]) [0, 1, 2] rfl
      have hD9 := hD.sub (ws' := [(h_a0, .inr (7, [.ref h_a0_primes, .null, w_a0_parting, w_a0_primeSums, w_a0_progression, w_a0_rows])), (h_a0_primes, .inr (3, [.ref q_a0_primes_table, .int a0_primes_many])), (q_a0_primes_table, .inl (cI, 9592, .inl a0_primes_table))]) [0, 1, 2] (by decide) rfl
      refine W.widen (k := mcP) (n := msP) (by first | omega | exact Nat.le_of_ble_eq_true rfl) (by first | omega | exact Nat.le_of_ble_eq_true rfl) ?_
      exact W.iret (v := (-1 : Int32)) hx hb hr (fun t ht hW => ⟨⟨_, none, rfl, h, by rw [ht]; exact hP9, hD9⟩, hS.F ht⟩) hS.2.2 dX8_span_32
    · replace h := h.2 c_2
      refine lv_lload_n hx hb dX8_span_12 rfl (lv_at hl 1 rfl) ?_
      refine lv_lconst (v := (1 : Int64)) hx hb dX8_span_13 (by decide) ?_
      refine W.lcmp hx hb dX8_span_14 ?_
      refine lv_if_lt (tgt := 31) hx hb dX8_span_15 (by decide) (fun c_3 => ?_) (fun c_3 => ?_)
      · replace c_3 := (lg_cmp_lt _ _).mp c_3
        replace h := h.1 c_3
        refine lv_iconst (v := (-1 : Int32)) hx hb dX8_span_31 (by decide) ?_
        have hP9 := hP.sub (ws' := [(h_a0, .inr (7, [.ref h_a0_primes, .null, w_a0_parting, w_a0_primeSums, w_a0_progression, w_a0_rows])), (h_a0_primes, .inr (3, [.ref q_a0_primes_table, .int a0_primes_many])), (q_a0_primes_table, .inl (cI, 9592, .inl a0_primes_table))]) [0, 1, 2] rfl
        have hD9 := hD.sub (ws' := [(h_a0, .inr (7, [.ref h_a0_primes, .null, w_a0_parting, w_a0_primeSums, w_a0_progression, w_a0_rows])), (h_a0_primes, .inr (3, [.ref q_a0_primes_table, .int a0_primes_many])), (q_a0_primes_table, .inl (cI, 9592, .inl a0_primes_table))]) [0, 1, 2] (by decide) rfl
        refine W.widen (k := mcP) (n := msP) (by first | omega | exact Nat.le_of_ble_eq_true rfl) (by first | omega | exact Nat.le_of_ble_eq_true rfl) ?_
        exact W.iret (v := (-1 : Int32)) hx hb hr (fun t ht hW => ⟨⟨_, none, rfl, h, by rw [ht]; exact hP9, hD9⟩, hS.F ht⟩) hS.2.2 dX8_span_32
      · replace c_3 := lc_nlt c_3
        replace h := h.2 c_3
        refine lv_lload_n hx hb dX8_span_18 rfl (lv_at hl 1 rfl) ?_
        refine lv_ldc2 hx hb hown hw_0 dX8_span_19 ?_
        refine lv_iload_n hx hb dX8_span_22 rfl (lv_at hl 2 rfl) ?_
        refine lv_i2l hx hb dX8_span_23 rfl ?_
        refine lv_lsub hx hb dX8_span_24 ?_
        refine lv_lconst (v := (1 : Int64)) hx hb dX8_span_25 (by decide) ?_
        refine lv_ladd hx hb dX8_span_26 ?_
        refine W.lcmp hx hb dX8_span_27 ?_
        refine lv_if_le (tgt := 33) hx hb dX8_span_28 (by decide) (fun c_4 => ?_) (fun c_4 => ?_)
        · replace c_4 := (lg_cmp_le _ _).mp c_4
          replace h := h.1 c_4
          refine lv_aload_n hx hb dX8_span_33 rfl (lv_at hl 0 rfl) ?_
          refine va_get (D := (dC, dI)) (ci := 7) (v := .null) (C := RX8) (T := TX8) (N := 6) hx hb hts hin_X8 hown hK hP 0 rfl rfl 1 (by decide) hw_1 (fun _ h9 => h9) rfl dX8_span_34 ?_
          refine lv_ifnonnullN hx hb dX8_span_37 ?_
          refine lv_aload_n hx hb dX8_span_40 rfl (lv_at hl 0 rfl) ?_
          obtain ⟨hm_6, hm_7, h⟩ := h
          refine va_new (ci := 6) (fs := [.null, .null, .null, .null, .long (0 : Int64), .int (0 : Int32), .int (0 : Int32), .int (0 : Int32), .int (0 : Int32), .int (0 : Int32)]) (C := RX6) (T := TX6) (N := 10) hx hb hts hin_X6 tyX6 tyX6_ok hown hw_4 hw_5 hw_6 hK hP hD hS hA rfl (by decide +kernel) hm_6 hm_7 dX8_span_41 (fun q_5 H hP hD hS => ?_)
          have hP : va_P (dC, dI) vwCl [(h_a0, .inr (7, [.ref h_a0_primes, .null, w_a0_parting, w_a0_primeSums, w_a0_progression, w_a0_rows])), (h_a0_primes, .inr (3, [.ref q_a0_primes_table, .int a0_primes_many])), (q_a0_primes_table, .inl (cI, 9592, .inl a0_primes_table)), (q_5, .inr (6, [.null, .null, .null, .null, .long (0 : Int64), .int (0 : Int32), .int (0 : Int32), .int (0 : Int32), .int (0 : Int32), .int (0 : Int32)]))] H := hP
          have hD : va_D A [(h_a0, .inr (7, [.ref h_a0_primes, .null, w_a0_parting, w_a0_primeSums, w_a0_progression, w_a0_rows])), (h_a0_primes, .inr (3, [.ref q_a0_primes_table, .int a0_primes_many])), (q_a0_primes_table, .inl (cI, 9592, .inl a0_primes_table)), (q_5, .inr (6, [.null, .null, .null, .null, .long (0 : Int64), .int (0 : Int32), .int (0 : Int32), .int (0 : Int32), .int (0 : Int32), .int (0 : Int32)]))] := hD
          refine W.widen (k := 1) (n := 10) (by omega) (by omega) ?_
          refine lv_dup hx hb dX8_span_44 rfl ?_
          have hPc := hP.sub (ws' := [(q_5, .inr (6, [.null, .null, .null, .null, .long (0 : Int64), .int (0 : Int32), .int (0 : Int32), .int (0 : Int32), .int (0 : Int32), .int (0 : Int32)]))]) [3] rfl
          have hDc := hD.sub (ws' := [(q_5, .inr (6, [.null, .null, .null, .null, .long (0 : Int64), .int (0 : Int32), .int (0 : Int32), .int (0 : Int32), .int (0 : Int32), .int (0 : Int32)]))]) [3] (by decide) rfl
          have hFc := va_free (wc := [(q_5, .inr (6, [.null, .null, .null, .null, .long (0 : Int64), .int (0 : Int32), .int (0 : Int32), .int (0 : Int32), .int (0 : Int32), .int (0 : Int32)]))]) hD hS hA [3] rfl
          obtain ⟨hm_18, hm_19, h⟩ := h
          refine va_callv (va_runI (As := []) (rest := [.ref q_5, .ref h_a0]) ⟨hx, hb, hml, hown, hts⟩ (c_X6_init l dC dI cI cJ cZ _ q_5 _ h) (cwI 0 hts gX8_span_X6_init rfl rfl rfl hw_6 hw_7 hw_8 rfl (by decide +kernel) ⟨Nat.le_of_ble_eq_true rfl, Nat.le_of_ble_eq_true rfl⟩) ⟨pre_fb, pre_of hPc hDc hK hN⟩ rfl rfl hl.1 rfl (lv_room (Nat.le_of_ble_eq_true rfl)) dX8_span_45 ⟨hm_18, hm_19⟩) hS (fun q _ h => hFc q h) hFc (fun u t H1 locs ht hvm h hB hz1 hk1 hS => ?_)
          obtain ⟨q_20, q_21, q_22, q_23, q_24, o_8, o_9, o_10, o_11, o_12, o_13, o_14, o_15, o_16, o_17⟩ := u
          obtain ⟨hP1, hD1⟩ := hB
          rw [ht] at hP1
          try dsimp only at h
          obtain ⟨hP, hD⟩ := va_join (wr := [(h_a0, .inr (7, [.ref h_a0_primes, .null, w_a0_parting, w_a0_primeSums, w_a0_progression, w_a0_rows])), (h_a0_primes, .inr (3, [.ref q_a0_primes_table, .int a0_primes_many])), (q_a0_primes_table, .inl (cI, 9592, .inl a0_primes_table))]) (w1 := [(q_5, .inr (6, [.ref q_20, .ref q_21, .ref q_22, .ref q_23, .long o_12, .int o_13, .int o_14, .int o_15, .int o_16, .int o_17])), (q_20, .inl (cJ, 5000, .inr (.inl o_8))), (q_21, .inl (cJ, 5000, .inr (.inl o_9))), (q_22, .inl (cJ, 5000, .inr (.inl o_10))), (q_23, .inr (0, [.ref q_24])), (q_24, .inl (cJ, 79, .inr (.inl o_11)))]) hP hD [3] [0, 1, 2] rfl rfl (by decide) (by decide) hk1 hFc hP1 hD1
          generalize H1 = H at hP hS ⊢
          have hP : va_P (dC, dI) vwCl [(h_a0, .inr (7, [.ref h_a0_primes, .null, w_a0_parting, w_a0_primeSums, w_a0_progression, w_a0_rows])), (h_a0_primes, .inr (3, [.ref q_a0_primes_table, .int a0_primes_many])), (q_a0_primes_table, .inl (cI, 9592, .inl a0_primes_table)), (q_5, .inr (6, [.ref q_20, .ref q_21, .ref q_22, .ref q_23, .long o_12, .int o_13, .int o_14, .int o_15, .int o_16, .int o_17])), (q_20, .inl (cJ, 5000, .inr (.inl o_8))), (q_21, .inl (cJ, 5000, .inr (.inl o_9))), (q_22, .inl (cJ, 5000, .inr (.inl o_10))), (q_23, .inr (0, [.ref q_24])), (q_24, .inl (cJ, 79, .inr (.inl o_11)))] H := hP
          have hD : va_D A [(h_a0, .inr (7, [.ref h_a0_primes, .null, w_a0_parting, w_a0_primeSums, w_a0_progression, w_a0_rows])), (h_a0_primes, .inr (3, [.ref q_a0_primes_table, .int a0_primes_many])), (q_a0_primes_table, .inl (cI, 9592, .inl a0_primes_table)), (q_5, .inr (6, [.ref q_20, .ref q_21, .ref q_22, .ref q_23, .long o_12, .int o_13, .int o_14, .int o_15, .int o_16, .int o_17])), (q_20, .inl (cJ, 5000, .inr (.inl o_8))), (q_21, .inl (cJ, 5000, .inr (.inl o_9))), (q_22, .inl (cJ, 5000, .inr (.inl o_10))), (q_23, .inr (0, [.ref q_24])), (q_24, .inl (cJ, 79, .inr (.inl o_11)))] := hD
          refine W.widen (k := 6) (n := 15090) (by omega) (by omega) ?_
          refine va_put (D := (dC, dI)) (ci := 7) (v := .ref q_5) (ty := .object "NumberSieves$Span") (C := RX8) (T := TX8) (N := 6) hx hb hts hin_X8 tyX8 tyX8_ok nmX8 hown hK hP hD hS 0 rfl rfl 1 (by decide) hw_1 (fun _ h9 => h9) rfl (by decide +kernel) rfl rfl (Nat.le_of_ble_eq_true rfl) dX8_span_48 (fun H locs hP hD hS => ?_)
          have hP : va_P (dC, dI) vwCl [(h_a0, .inr (7, [.ref h_a0_primes, .ref q_5, w_a0_parting, w_a0_primeSums, w_a0_progression, w_a0_rows])), (h_a0_primes, .inr (3, [.ref q_a0_primes_table, .int a0_primes_many])), (q_a0_primes_table, .inl (cI, 9592, .inl a0_primes_table)), (q_5, .inr (6, [.ref q_20, .ref q_21, .ref q_22, .ref q_23, .long o_12, .int o_13, .int o_14, .int o_15, .int o_16, .int o_17])), (q_20, .inl (cJ, 5000, .inr (.inl o_8))), (q_21, .inl (cJ, 5000, .inr (.inl o_9))), (q_22, .inl (cJ, 5000, .inr (.inl o_10))), (q_23, .inr (0, [.ref q_24])), (q_24, .inl (cJ, 79, .inr (.inl o_11)))] H := hP
          have hD : va_D A [(h_a0, .inr (7, [.ref h_a0_primes, .ref q_5, w_a0_parting, w_a0_primeSums, w_a0_progression, w_a0_rows])), (h_a0_primes, .inr (3, [.ref q_a0_primes_table, .int a0_primes_many])), (q_a0_primes_table, .inl (cI, 9592, .inl a0_primes_table)), (q_5, .inr (6, [.ref q_20, .ref q_21, .ref q_22, .ref q_23, .long o_12, .int o_13, .int o_14, .int o_15, .int o_16, .int o_17])), (q_20, .inl (cJ, 5000, .inr (.inl o_8))), (q_21, .inl (cJ, 5000, .inr (.inl o_9))), (q_22, .inl (cJ, 5000, .inr (.inl o_10))), (q_23, .inr (0, [.ref q_24])), (q_24, .inl (cJ, 79, .inr (.inl o_11)))] := hD
          refine lv_aload_n hx hb dX8_span_51 rfl (lv_at hl 0 rfl) ?_
          refine va_get (D := (dC, dI)) (ci := 7) (v := .ref q_5) (C := RX8) (T := TX8) (N := 6) hx hb hts hin_X8 hown hK hP 0 rfl rfl 1 (by decide) hw_1 (fun _ h9 => h9) rfl dX8_span_52 ?_
          refine lv_lload_n hx hb dX8_span_55 rfl (lv_at hl 1 rfl) ?_
          refine lv_iload_n hx hb dX8_span_56 rfl (lv_at hl 2 rfl) ?_
          refine lv_aload_n hx hb dX8_span_57 rfl (lv_at hl 0 rfl) ?_
          have hPc := hP.sub (ws' := [(h_a0, .inr (7, [.ref h_a0_primes, .ref q_5, w_a0_parting, w_a0_primeSums, w_a0_progression, w_a0_rows])), (h_a0_primes, .inr (3, [.ref q_a0_primes_table, .int a0_primes_many])), (q_a0_primes_table, .inl (cI, 9592, .inl a0_primes_table))]) [0, 1, 2] rfl
          have hDc := hD.sub (ws' := [(h_a0, .inr (7, [.ref h_a0_primes, .ref q_5, w_a0_parting, w_a0_primeSums, w_a0_progression, w_a0_rows])), (h_a0_primes, .inr (3, [.ref q_a0_primes_table, .int a0_primes_many])), (q_a0_primes_table, .inl (cI, 9592, .inl a0_primes_table))]) [0, 1, 2] (by decide) rfl
          have hFc := va_free (wc := [(h_a0, .inr (7, [.ref h_a0_primes, .ref q_5, w_a0_parting, w_a0_primeSums, w_a0_progression, w_a0_rows])), (h_a0_primes, .inr (3, [.ref q_a0_primes_table, .int a0_primes_many])), (q_a0_primes_table, .inl (cI, 9592, .inl a0_primes_table))]) hD hS hA [0, 1, 2] rfl
          refine va_callr (va_runV (As := []) (rest := [.int p2, .long p1, .ref q_5]) ⟨hx, hb, hml, hown, hts⟩ (c_X8_knownPrimes_c1 l dC dI cI cJ cZ _ h_a0 h_a0_primes a0_primes_table q_a0_primes_table a0_primes_many (.ref q_5) (w_a0_parting) (w_a0_primeSums) (w_a0_progression) (w_a0_rows) _ h) (cwV 0 hts gX8_span_X8_knownPrimes rfl rfl rfl (by decide +kernel) ⟨Nat.le_of_ble_eq_true rfl, Nat.le_of_ble_eq_true rfl⟩) ⟨pre_fb, va_recv hK hPc (ci := 7) (q0 := 0) rfl rfl, pre_of hPc hDc hK hN⟩ rfl rfl hl.1 rfl (lv_room (Nat.le_of_ble_eq_true rfl)) dX8_span_58 ⟨by show _ ≤ mcP; omega, by show _ ≤ msP; omega⟩) hS (fun q _ h => hFc q h) hFc (fun u ra t H1 locs ht hvm h hB hz1 hk1 hS => ?_)
          obtain ⟨hra, hP1, hD1⟩ := hB
          try dsimp only at hra
          subst ra
          rw [ht] at hP1
          try dsimp only at h
          obtain ⟨hP, hD⟩ := va_join (wr := [(q_5, .inr (6, [.ref q_20, .ref q_21, .ref q_22, .ref q_23, .long o_12, .int o_13, .int o_14, .int o_15, .int o_16, .int o_17])), (q_20, .inl (cJ, 5000, .inr (.inl o_8))), (q_21, .inl (cJ, 5000, .inr (.inl o_9))), (q_22, .inl (cJ, 5000, .inr (.inl o_10))), (q_23, .inr (0, [.ref q_24])), (q_24, .inl (cJ, 79, .inr (.inl o_11)))]) (w1 := [(h_a0, .inr (7, [.ref h_a0_primes, .ref q_5, w_a0_parting, w_a0_primeSums, w_a0_progression, w_a0_rows])), (h_a0_primes, .inr (3, [.ref q_a0_primes_table, .int a0_primes_many])), (q_a0_primes_table, .inl (cI, 9592, .inl a0_primes_table))]) hP hD [0, 1, 2] [3, 4, 5, 6, 7, 8] rfl rfl (by decide) (by decide) hk1 hFc hP1 hD1
          generalize H1 = H at hP hS ⊢
          have hP : va_P (dC, dI) vwCl [(q_5, .inr (6, [.ref q_20, .ref q_21, .ref q_22, .ref q_23, .long o_12, .int o_13, .int o_14, .int o_15, .int o_16, .int o_17])), (q_20, .inl (cJ, 5000, .inr (.inl o_8))), (q_21, .inl (cJ, 5000, .inr (.inl o_9))), (q_22, .inl (cJ, 5000, .inr (.inl o_10))), (q_23, .inr (0, [.ref q_24])), (q_24, .inl (cJ, 79, .inr (.inl o_11))), (h_a0, .inr (7, [.ref h_a0_primes, .ref q_5, w_a0_parting, w_a0_primeSums, w_a0_progression, w_a0_rows])), (h_a0_primes, .inr (3, [.ref q_a0_primes_table, .int a0_primes_many])), (q_a0_primes_table, .inl (cI, 9592, .inl a0_primes_table))] H := hP
          have hD : va_D A [(q_5, .inr (6, [.ref q_20, .ref q_21, .ref q_22, .ref q_23, .long o_12, .int o_13, .int o_14, .int o_15, .int o_16, .int o_17])), (q_20, .inl (cJ, 5000, .inr (.inl o_8))), (q_21, .inl (cJ, 5000, .inr (.inl o_9))), (q_22, .inl (cJ, 5000, .inr (.inl o_10))), (q_23, .inr (0, [.ref q_24])), (q_24, .inl (cJ, 79, .inr (.inl o_11))), (h_a0, .inr (7, [.ref h_a0_primes, .ref q_5, w_a0_parting, w_a0_primeSums, w_a0_progression, w_a0_rows])), (h_a0_primes, .inr (3, [.ref q_a0_primes_table, .int a0_primes_many])), (q_a0_primes_table, .inl (cI, 9592, .inl a0_primes_table))] := hD
          have hPc := hP.sub (ws' := [(q_5, .inr (6, [.ref q_20, .ref q_21, .ref q_22, .ref q_23, .long o_12, .int o_13, .int o_14, .int o_15, .int o_16, .int o_17])), (q_20, .inl (cJ, 5000, .inr (.inl o_8))), (q_21, .inl (cJ, 5000, .inr (.inl o_9))), (q_22, .inl (cJ, 5000, .inr (.inl o_10))), (q_23, .inr (0, [.ref q_24])), (q_24, .inl (cJ, 79, .inr (.inl o_11))), (h_a0_primes, .inr (3, [.ref q_a0_primes_table, .int a0_primes_many])), (q_a0_primes_table, .inl (cI, 9592, .inl a0_primes_table))]) [0, 1, 2, 3, 4, 5, 7, 8] rfl
          have hDc := hD.sub (ws' := [(q_5, .inr (6, [.ref q_20, .ref q_21, .ref q_22, .ref q_23, .long o_12, .int o_13, .int o_14, .int o_15, .int o_16, .int o_17])), (q_20, .inl (cJ, 5000, .inr (.inl o_8))), (q_21, .inl (cJ, 5000, .inr (.inl o_9))), (q_22, .inl (cJ, 5000, .inr (.inl o_10))), (q_23, .inr (0, [.ref q_24])), (q_24, .inl (cJ, 79, .inr (.inl o_11))), (h_a0_primes, .inr (3, [.ref q_a0_primes_table, .int a0_primes_many])), (q_a0_primes_table, .inl (cI, 9592, .inl a0_primes_table))]) [0, 1, 2, 3, 4, 5, 7, 8] (by decide) rfl
          have hFc := va_free (wc := [(q_5, .inr (6, [.ref q_20, .ref q_21, .ref q_22, .ref q_23, .long o_12, .int o_13, .int o_14, .int o_15, .int o_16, .int o_17])), (q_20, .inl (cJ, 5000, .inr (.inl o_8))), (q_21, .inl (cJ, 5000, .inr (.inl o_9))), (q_22, .inl (cJ, 5000, .inr (.inl o_10))), (q_23, .inr (0, [.ref q_24])), (q_24, .inl (cJ, 79, .inr (.inl o_11))), (h_a0_primes, .inr (3, [.ref q_a0_primes_table, .int a0_primes_many])), (q_a0_primes_table, .inl (cI, 9592, .inl a0_primes_table))]) hD hS hA [0, 1, 2, 3, 4, 5, 7, 8] rfl
          refine va_callv (va_runV (As := [.long p1, .int p2, .ref h_a0_primes]) (rest := []) ⟨hx, hb, hml, hown, hts⟩ (c_X6_sieve l dC dI cI cJ cZ _ q_5 o_8 q_20 o_9 q_21 o_10 q_22 q_23 o_11 q_24 o_12 o_13 o_14 o_15 o_16 o_17 h_a0_primes a0_primes_table q_a0_primes_table a0_primes_many p1 p2 _ h) (cwV 3 hts gX8_span_X6_sieve rfl rfl rfl (by decide +kernel) ⟨Nat.le_of_ble_eq_true rfl, Nat.le_of_ble_eq_true rfl⟩) ⟨pre_fb, va_recv hK hPc (ci := 6) (q0 := 0) rfl rfl, pre_of hPc hDc hK hN⟩ rfl rfl hl.1 rfl (lv_room (Nat.le_of_ble_eq_true rfl)) dX8_span_61 ⟨by show _ ≤ mcP; omega, by show _ ≤ msP; omega⟩) hS (fun q _ h => hFc q h) hFc (fun u t H1 locs ht hvm h hB hz1 hk1 hS => ?_)
          obtain ⟨o_25, o_26, o_27, o_28, o_29, o_30, o_31, o_32, o_33, o_34⟩ := u
          obtain ⟨hP1, hD1⟩ := hB
          rw [ht] at hP1
          try dsimp only at h
          obtain ⟨hP, hD⟩ := va_join (wr := [(h_a0, .inr (7, [.ref h_a0_primes, .ref q_5, w_a0_parting, w_a0_primeSums, w_a0_progression, w_a0_rows]))]) (w1 := [(q_5, .inr (6, [.ref q_20, .ref q_21, .ref q_22, .ref q_23, .long o_25, .int o_26, .int o_27, .int o_28, .int o_29, .int o_30])), (q_20, .inl (cJ, 5000, .inr (.inl o_31))), (q_21, .inl (cJ, 5000, .inr (.inl o_32))), (q_22, .inl (cJ, 5000, .inr (.inl o_33))), (q_23, .inr (0, [.ref q_24])), (q_24, .inl (cJ, 79, .inr (.inl o_34))), (h_a0_primes, .inr (3, [.ref q_a0_primes_table, .int a0_primes_many])), (q_a0_primes_table, .inl (cI, 9592, .inl a0_primes_table))]) hP hD [0, 1, 2, 3, 4, 5, 7, 8] [6] rfl rfl (by decide) (by decide) hk1 hFc hP1 hD1
          generalize H1 = H at hP hS ⊢
          have hP : va_P (dC, dI) vwCl [(h_a0, .inr (7, [.ref h_a0_primes, .ref q_5, w_a0_parting, w_a0_primeSums, w_a0_progression, w_a0_rows])), (q_5, .inr (6, [.ref q_20, .ref q_21, .ref q_22, .ref q_23, .long o_25, .int o_26, .int o_27, .int o_28, .int o_29, .int o_30])), (q_20, .inl (cJ, 5000, .inr (.inl o_31))), (q_21, .inl (cJ, 5000, .inr (.inl o_32))), (q_22, .inl (cJ, 5000, .inr (.inl o_33))), (q_23, .inr (0, [.ref q_24])), (q_24, .inl (cJ, 79, .inr (.inl o_34))), (h_a0_primes, .inr (3, [.ref q_a0_primes_table, .int a0_primes_many])), (q_a0_primes_table, .inl (cI, 9592, .inl a0_primes_table))] H := hP
          have hD : va_D A [(h_a0, .inr (7, [.ref h_a0_primes, .ref q_5, w_a0_parting, w_a0_primeSums, w_a0_progression, w_a0_rows])), (q_5, .inr (6, [.ref q_20, .ref q_21, .ref q_22, .ref q_23, .long o_25, .int o_26, .int o_27, .int o_28, .int o_29, .int o_30])), (q_20, .inl (cJ, 5000, .inr (.inl o_31))), (q_21, .inl (cJ, 5000, .inr (.inl o_32))), (q_22, .inl (cJ, 5000, .inr (.inl o_33))), (q_23, .inr (0, [.ref q_24])), (q_24, .inl (cJ, 79, .inr (.inl o_34))), (h_a0_primes, .inr (3, [.ref q_a0_primes_table, .int a0_primes_many])), (q_a0_primes_table, .inl (cI, 9592, .inl a0_primes_table))] := hD
          refine lv_aload_n hx hb dX8_span_64 rfl (lv_at hl 0 rfl) ?_
          refine va_get (D := (dC, dI)) (ci := 7) (v := .ref q_5) (C := RX8) (T := TX8) (N := 6) hx hb hts hin_X8 hown hK hP 0 rfl rfl 1 (by decide) hw_1 (fun _ h9 => h9) rfl dX8_span_65 ?_
          refine va_getN (D := (dC, dI)) (ci := 6) (v := .int o_27) (C := RX6) (T := TX6) (N := 10) hx hb hts hin_X6 hown hK hP 1 rfl rfl 6 (by decide) (nw_1 hN) (fun _ h9 => h9) rfl dX8_span_68 ?_
          have hP9 := hP.sub (ws' := [(h_a0, .inr (7, [.ref h_a0_primes, .ref q_5, w_a0_parting, w_a0_primeSums, w_a0_progression, w_a0_rows])), (h_a0_primes, .inr (3, [.ref q_a0_primes_table, .int a0_primes_many])), (q_a0_primes_table, .inl (cI, 9592, .inl a0_primes_table)), (q_5, .inr (6, [.ref q_20, .ref q_21, .ref q_22, .ref q_23, .long o_25, .int o_26, .int o_27, .int o_28, .int o_29, .int o_30])), (q_20, .inl (cJ, 5000, .inr (.inl o_31))), (q_21, .inl (cJ, 5000, .inr (.inl o_32))), (q_22, .inl (cJ, 5000, .inr (.inl o_33))), (q_23, .inr (0, [.ref q_24])), (q_24, .inl (cJ, 79, .inr (.inl o_34)))]) [0, 7, 8, 1, 2, 3, 4, 5, 6] rfl
          have hD9 := hD.sub (ws' := [(h_a0, .inr (7, [.ref h_a0_primes, .ref q_5, w_a0_parting, w_a0_primeSums, w_a0_progression, w_a0_rows])), (h_a0_primes, .inr (3, [.ref q_a0_primes_table, .int a0_primes_many])), (q_a0_primes_table, .inl (cI, 9592, .inl a0_primes_table)), (q_5, .inr (6, [.ref q_20, .ref q_21, .ref q_22, .ref q_23, .long o_25, .int o_26, .int o_27, .int o_28, .int o_29, .int o_30])), (q_20, .inl (cJ, 5000, .inr (.inl o_31))), (q_21, .inl (cJ, 5000, .inr (.inl o_32))), (q_22, .inl (cJ, 5000, .inr (.inl o_33))), (q_23, .inr (0, [.ref q_24])), (q_24, .inl (cJ, 79, .inr (.inl o_34)))]) [0, 7, 8, 1, 2, 3, 4, 5, 6] (by decide) rfl
          refine W.widen (k := mcP) (n := msP) (by first | omega | exact Nat.le_of_ble_eq_true rfl) (by first | omega | exact Nat.le_of_ble_eq_true rfl) ?_
          exact W.iret (v := o_27) hx hb hr (fun t ht hW => ⟨⟨_, some ((q_5, q_20, q_21, q_22, q_23, q_24), (o_31, o_32, o_33, o_34, o_25, o_26, o_27, o_28, o_29, o_30)), rfl, h, by rw [ht]; exact hP9, hD9⟩, hS.F ht⟩) hS.2.2 dX8_span_71
        · replace c_4 := lc_nle c_4
          replace h := h.2 c_4
          refine lv_iconst (v := (-1 : Int32)) hx hb dX8_span_31 (by decide) ?_
          have hP9 := hP.sub (ws' := [(h_a0, .inr (7, [.ref h_a0_primes, .null, w_a0_parting, w_a0_primeSums, w_a0_progression, w_a0_rows])), (h_a0_primes, .inr (3, [.ref q_a0_primes_table, .int a0_primes_many])), (q_a0_primes_table, .inl (cI, 9592, .inl a0_primes_table))]) [0, 1, 2] rfl
          have hD9 := hD.sub (ws' := [(h_a0, .inr (7, [.ref h_a0_primes, .null, w_a0_parting, w_a0_primeSums, w_a0_progression, w_a0_rows])), (h_a0_primes, .inr (3, [.ref q_a0_primes_table, .int a0_primes_many])), (q_a0_primes_table, .inl (cI, 9592, .inl a0_primes_table))]) [0, 1, 2] (by decide) rfl
          refine W.widen (k := mcP) (n := msP) (by first | omega | exact Nat.le_of_ble_eq_true rfl) (by first | omega | exact Nat.le_of_ble_eq_true rfl) ?_
          exact W.iret (v := (-1 : Int32)) hx hb hr (fun t ht hW => ⟨⟨_, none, rfl, h, by rw [ht]; exact hP9, hD9⟩, hS.F ht⟩) hS.2.2 dX8_span_32
def wp_X8_span_c11 (a0_primes_table : Nat → Int32) (a0_primes_many : Int32) (a0_sieved_leasts : Nat → Int64) (a0_sieved_greatests : Nat → Int64) (a0_sieved_rests : Nat → Int64) (a0_sieved_squared_words : Nat → Int64) (a0_sieved_from : Int64) (a0_sieved_many : Int32) (a0_sieved_primeCount : Int32) (a0_sieved_gap : Int32) (a0_sieved_twins : Int32) (a0_sieved_squareFree : Int32) (p1 : Int64) (p2 : Int32) (Q : Int32 → Int64 → Int32 → Int32 → Int32 → Int32 → Int32 → (Nat → Int64) → (Nat → Int64) → (Nat → Int64) → (Nat → Int64) → Prop) : Prop :=
  ((p2 < (1 : Int32) → Q (-1 : Int32) a0_sieved_from a0_sieved_many a0_sieved_primeCount a0_sieved_gap a0_sieved_twins a0_sieved_squareFree a0_sieved_leasts a0_sieved_greatests a0_sieved_rests a0_sieved_squared_words) ∧ (¬ p2 < (1 : Int32) → (((5000 : Int32) < p2 → Q (-1 : Int32) a0_sieved_from a0_sieved_many a0_sieved_primeCount a0_sieved_gap a0_sieved_twins a0_sieved_squareFree a0_sieved_leasts a0_sieved_greatests a0_sieved_rests a0_sieved_squared_words) ∧ (¬ (5000 : Int32) < p2 → ((p1 < (1 : Int64) → Q (-1 : Int32) a0_sieved_from a0_sieved_many a0_sieved_primeCount a0_sieved_gap a0_sieved_twins a0_sieved_squareFree a0_sieved_leasts a0_sieved_greatests a0_sieved_rests a0_sieved_squared_words) ∧ (¬ p1 < (1 : Int64) → ((p1 ≤ (((10000000000 : Int64) - p2.toInt64) + (1 : Int64)) → wp_X8_knownPrimes_c1 (wp_X6_sieve a0_sieved_leasts a0_sieved_greatests a0_sieved_rests a0_sieved_squared_words a0_sieved_from a0_sieved_many a0_sieved_primeCount a0_sieved_gap a0_sieved_twins a0_sieved_squareFree a0_primes_table a0_primes_many p1 p2 (fun o_5 o_6 o_7 o_8 o_9 o_10 o_11 o_12 o_13 o_14 => Q o_7 o_5 o_6 o_7 o_8 o_9 o_10 o_11 o_12 o_13 o_14))) ∧ (¬ p1 ≤ (((10000000000 : Int64) - p2.toInt64) + (1 : Int64)) → Q (-1 : Int32) a0_sieved_from a0_sieved_many a0_sieved_primeCount a0_sieved_gap a0_sieved_twins a0_sieved_squareFree a0_sieved_leasts a0_sieved_greatests a0_sieved_rests a0_sieved_squared_words))))))))
abbrev rm_X8_span_c11 : Room := { frames := 5, cells := 0, slots := 0, locals := 111 }
abbrev qc_X8_span_c11 (dC : Nat → ClassId) (dI : Nat → Nat → Nat) (cI cJ cZ : ClassId) (h_a0 : Nat) (h_a0_primes : Nat) (a0_primes_table : Nat → Int32) (q_a0_primes_table : Nat) (a0_primes_many : Int32) (h_a0_sieved : Nat) (a0_sieved_leasts : Nat → Int64) (q_a0_sieved_leasts : Nat) (a0_sieved_greatests : Nat → Int64) (q_a0_sieved_greatests : Nat) (a0_sieved_rests : Nat → Int64) (q_a0_sieved_rests : Nat) (h_a0_sieved_squared : Nat) (a0_sieved_squared_words : Nat → Int64) (q_a0_sieved_squared_words : Nat) (a0_sieved_from : Int64) (a0_sieved_many : Int32) (a0_sieved_primeCount : Int32) (a0_sieved_gap : Int32) (a0_sieved_twins : Int32) (a0_sieved_squareFree : Int32) (w_a0_parting : Value) (w_a0_primeSums : Value) (w_a0_progression : Value) (w_a0_rows : Value) (Q : Int32 → Int64 → Int32 → Int32 → Int32 → Int32 → Int32 → (Nat → Int64) → (Nat → Int64) → (Nat → Int64) → (Nat → Int64) → Prop) (A : Nat → Prop) : Array Value → State → Outcome → State → Prop := va_Qi (fun (r : Int32) (u : Int64 × Int32 × Int32 × Int32 × Int32 × Int32 × (Nat → Int64) × (Nat → Int64) × (Nat → Int64) × (Nat → Int64)) => Q r u.1 u.2.1 u.2.2.1 u.2.2.2.1 u.2.2.2.2.1 u.2.2.2.2.2.1 u.2.2.2.2.2.2.1 u.2.2.2.2.2.2.2.1 u.2.2.2.2.2.2.2.2.1 u.2.2.2.2.2.2.2.2.2) (post_ dC dI A (fun (u : Int64 × Int32 × Int32 × Int32 × Int32 × Int32 × (Nat → Int64) × (Nat → Int64) × (Nat → Int64) × (Nat → Int64)) => ([(h_a0, .inr (7, [.ref h_a0_primes, .ref h_a0_sieved, w_a0_parting, w_a0_primeSums, w_a0_progression, w_a0_rows])), (h_a0_primes, .inr (3, [.ref q_a0_primes_table, .int a0_primes_many])), (q_a0_primes_table, .inl (cI, 9592, .inl a0_primes_table)), (h_a0_sieved, .inr (6, [.ref q_a0_sieved_leasts, .ref q_a0_sieved_greatests, .ref q_a0_sieved_rests, .ref h_a0_sieved_squared, .long u.1, .int u.2.1, .int u.2.2.1, .int u.2.2.2.1, .int u.2.2.2.2.1, .int u.2.2.2.2.2.1])), (q_a0_sieved_leasts, .inl (cJ, 5000, .inr (.inl (u.2.2.2.2.2.2.1)))), (q_a0_sieved_greatests, .inl (cJ, 5000, .inr (.inl (u.2.2.2.2.2.2.2.1)))), (q_a0_sieved_rests, .inl (cJ, 5000, .inr (.inl (u.2.2.2.2.2.2.2.2.1)))), (h_a0_sieved_squared, .inr (0, [.ref q_a0_sieved_squared_words])), (q_a0_sieved_squared_words, .inl (cJ, 79, .inr (.inl (u.2.2.2.2.2.2.2.2.2))))] : va_W))) A
set_option maxHeartbeats 4000000 in
set_option maxRecDepth 100000 in
theorem c_X8_span_c11 (l : Launch) (dC : Nat → ClassId) (dI : Nat → Nat → Nat) (cI cJ cZ : ClassId) (sz : Nat) (h_a0 : Nat) (h_a0_primes : Nat) (a0_primes_table : Nat → Int32) (q_a0_primes_table : Nat) (a0_primes_many : Int32) (h_a0_sieved : Nat) (a0_sieved_leasts : Nat → Int64) (q_a0_sieved_leasts : Nat) (a0_sieved_greatests : Nat → Int64) (q_a0_sieved_greatests : Nat) (a0_sieved_rests : Nat → Int64) (q_a0_sieved_rests : Nat) (h_a0_sieved_squared : Nat) (a0_sieved_squared_words : Nat → Int64) (q_a0_sieved_squared_words : Nat) (a0_sieved_from : Int64) (a0_sieved_many : Int32) (a0_sieved_primeCount : Int32) (a0_sieved_gap : Int32) (a0_sieved_twins : Int32) (a0_sieved_squareFree : Int32) (w_a0_parting : Value) (w_a0_primeSums : Value) (w_a0_progression : Value) (w_a0_rows : Value) (p1 : Int64) (p2 : Int32) (Q : Int32 → Int64 → Int32 → Int32 → Int32 → Int32 → Int32 → (Nat → Int64) → (Nat → Int64) → (Nat → Int64) → (Nat → Int64) → Prop) (hQ : wp_X8_span_c11 a0_primes_table a0_primes_many a0_sieved_leasts a0_sieved_greatests a0_sieved_rests a0_sieved_squared_words a0_sieved_from a0_sieved_many a0_sieved_primeCount a0_sieved_gap a0_sieved_twins a0_sieved_squareFree p1 p2 Q) : Met l yX8_span wsX8_span rm_X8_span_c11 (pre_ dC dI cI cJ cZ [.ref h_a0, .long p1, .int p2] [(h_a0, .inr (7, [.ref h_a0_primes, .ref h_a0_sieved, w_a0_parting, w_a0_primeSums, w_a0_progression, w_a0_rows])), (h_a0_primes, .inr (3, [.ref q_a0_primes_table, .int a0_primes_many])), (q_a0_primes_table, .inl (cI, 9592, .inl a0_primes_table)), (h_a0_sieved, .inr (6, [.ref q_a0_sieved_leasts, .ref q_a0_sieved_greatests, .ref q_a0_sieved_rests, .ref h_a0_sieved_squared, .long a0_sieved_from, .int a0_sieved_many, .int a0_sieved_primeCount, .int a0_sieved_gap, .int a0_sieved_twins, .int a0_sieved_squareFree])), (q_a0_sieved_leasts, .inl (cJ, 5000, .inr (.inl a0_sieved_leasts))), (q_a0_sieved_greatests, .inl (cJ, 5000, .inr (.inl a0_sieved_greatests))), (q_a0_sieved_rests, .inl (cJ, 5000, .inr (.inl a0_sieved_rests))), (h_a0_sieved_squared, .inr (0, [.ref q_a0_sieved_squared_words])), (q_a0_sieved_squared_words, .inl (cJ, 79, .inr (.inl a0_sieved_squared_words)))] sz) (qc_X8_span_c11 dC dI cI cJ cZ h_a0 h_a0_primes a0_primes_table q_a0_primes_table a0_primes_many h_a0_sieved a0_sieved_leasts q_a0_sieved_leasts a0_sieved_greatests q_a0_sieved_greatests a0_sieved_rests q_a0_sieved_rests h_a0_sieved_squared a0_sieved_squared_words q_a0_sieved_squared_words a0_sieved_from a0_sieved_many a0_sieved_primeCount a0_sieved_gap a0_sieved_twins a0_sieved_squareFree w_a0_parting w_a0_primeSums w_a0_progression w_a0_rows Q (va_A [(h_a0, .inr (7, [.ref h_a0_primes, .ref h_a0_sieved, w_a0_parting, w_a0_primeSums, w_a0_progression, w_a0_rows])), (h_a0_primes, .inr (3, [.ref q_a0_primes_table, .int a0_primes_many])), (q_a0_primes_table, .inl (cI, 9592, .inl a0_primes_table)), (h_a0_sieved, .inr (6, [.ref q_a0_sieved_leasts, .ref q_a0_sieved_greatests, .ref q_a0_sieved_rests, .ref h_a0_sieved_squared, .long a0_sieved_from, .int a0_sieved_many, .int a0_sieved_primeCount, .int a0_sieved_gap, .int a0_sieved_twins, .int a0_sieved_squareFree])), (q_a0_sieved_leasts, .inl (cJ, 5000, .inr (.inl a0_sieved_leasts))), (q_a0_sieved_greatests, .inl (cJ, 5000, .inr (.inl a0_sieved_greatests))), (q_a0_sieved_rests, .inl (cJ, 5000, .inr (.inl a0_sieved_rests))), (h_a0_sieved_squared, .inr (0, [.ref q_a0_sieved_squared_words])), (q_a0_sieved_squared_words, .inl (cJ, 79, .inr (.inl a0_sieved_squared_words)))] sz)) 0 0 (va_A [(h_a0, .inr (7, [.ref h_a0_primes, .ref h_a0_sieved, w_a0_parting, w_a0_primeSums, w_a0_progression, w_a0_rows])), (h_a0_primes, .inr (3, [.ref q_a0_primes_table, .int a0_primes_many])), (q_a0_primes_table, .inl (cI, 9592, .inl a0_primes_table)), (h_a0_sieved, .inr (6, [.ref q_a0_sieved_leasts, .ref q_a0_sieved_greatests, .ref q_a0_sieved_rests, .ref h_a0_sieved_squared, .long a0_sieved_from, .int a0_sieved_many, .int a0_sieved_primeCount, .int a0_sieved_gap, .int a0_sieved_twins, .int a0_sieved_squareFree])), (q_a0_sieved_leasts, .inl (cJ, 5000, .inr (.inl a0_sieved_leasts))), (q_a0_sieved_greatests, .inl (cJ, 5000, .inr (.inl a0_sieved_greatests))), (q_a0_sieved_rests, .inl (cJ, 5000, .inr (.inl a0_sieved_rests))), (h_a0_sieved_squared, .inr (0, [.ref q_a0_sieved_squared_words])), (q_a0_sieved_squared_words, .inl (cJ, 79, .inr (.inl a0_sieved_squared_words)))] sz) := by
  refine Met.ofW (cc := cX8_span) (maxL := 4) (ret := (some .int)) (by decide) rfl ?_
  intro p e s m args below meth c s₁ B hml hv
  obtain ⟨rfl, hsz, hP, hK, hN, hD0⟩ := hv
  have hx := B.exec
  have hb := B.bytes
  have hr := B.returns
  have hts := atoms_spec (ws := wsX8_span) B.pre
  have hown : s.vm.findClass RX8 = some m.cls := findClass_of_methodNamed B.named
  subst hsz
  have hD := hD0.self (sz := s.heap.size)
  generalize hAe : va_A [(h_a0, .inr (7, [.ref h_a0_primes, .ref h_a0_sieved, w_a0_parting, w_a0_primeSums, w_a0_progression, w_a0_rows])), (h_a0_primes, .inr (3, [.ref q_a0_primes_table, .int a0_primes_many])), (q_a0_primes_table, .inl (cI, 9592, .inl a0_primes_table)), (h_a0_sieved, .inr (6, [.ref q_a0_sieved_leasts, .ref q_a0_sieved_greatests, .ref q_a0_sieved_rests, .ref h_a0_sieved_squared, .long a0_sieved_from, .int a0_sieved_many, .int a0_sieved_primeCount, .int a0_sieved_gap, .int a0_sieved_twins, .int a0_sieved_squareFree])), (q_a0_sieved_leasts, .inl (cJ, 5000, .inr (.inl a0_sieved_leasts))), (q_a0_sieved_greatests, .inl (cJ, 5000, .inr (.inl a0_sieved_greatests))), (q_a0_sieved_rests, .inl (cJ, 5000, .inr (.inl a0_sieved_rests))), (h_a0_sieved_squared, .inr (0, [.ref q_a0_sieved_squared_words])), (q_a0_sieved_squared_words, .inl (cJ, 79, .inr (.inl a0_sieved_squared_words)))] s.heap.size = A at hD ⊢
  have hA : ∀ q : Nat, s.heap.size ≤ q → A q := fun q h => by rw [← hAe]; exact Or.inr h
  have hS : va_S A s.heap s.heap [] := va_S.rf
  have hl := lv_entry ([.ref h_a0, .long p1, .int p2]) (n := 4) (Nat.le_of_ble_eq_true rfl)
  rw [lg_entry_eq]
  generalize (lg_sl ([.ref h_a0, .long p1, .int p2]) ++ List.replicate (4 - (lg_sl ([.ref h_a0, .long p1, .int p2])).length) Slot.unset).toArray = ls at hl ⊢
  have hl : lv_has ls 4 [(0, .ref h_a0), (1, .long p1), (3, .int p2)] := hl
  have h := hQ
  unfold wp_X8_span_c11 at h
  have hw_0 := hts (.constantLong RX8 9 (10000000000)) (by decide +kernel)
  have hw_1 := hts (.fieldLink RX8 11 "NumberSieves" "sieved" "LNumberSieves$Span;") (by decide +kernel)
  have hin_X8 : ∀ w ∈ wsX80, w ∈ wsX8_span := by decide +kernel
  have hin_X6 : ∀ w ∈ wsX60, w ∈ wsX8_span := by decide +kernel
  refine lv_iload_n hx hb dX8_span_0 rfl (lv_at hl 2 rfl) ?_
  refine lv_iconst (v := (1 : Int32)) hx hb dX8_span_1 (by decide) ?_
  refine lv_icmp_lt (tgt := 31) hx hb dX8_span_2 (by decide) (fun c_1 => ?_) (fun c_1 => ?_)
  · replace h := h.1 c_1
    refine lv_iconst (v := (-1 : Int32)) hx hb dX8_span_31 (by decide) ?_
    have hP9 := hP.sub (ws' := [(h_a0, .inr (7, [.ref h_a0_primes, .ref h_a0_sieved, w_a0_parting, w_a0_primeSums, w_a0_progression, w_a0_rows])), (h_a0_primes, .inr (3, [.ref q_a0_primes_table, .int a0_primes_many])), (q_a0_primes_table, .inl (cI, 9592, .inl a0_primes_table)), (h_a0_sieved, .inr (6, [.ref q_a0_sieved_leasts, .ref q_a0_sieved_greatests, .ref q_a0_sieved_rests, .ref h_a0_sieved_squared, .long a0_sieved_from, .int a0_sieved_many, .int a0_sieved_primeCount, .int a0_sieved_gap, .int a0_sieved_twins, .int a0_sieved_squareFree])), (q_a0_sieved_leasts, .inl (cJ, 5000, .inr (.inl a0_sieved_leasts))), (q_a0_sieved_greatests, .inl (cJ, 5000, .inr (.inl a0_sieved_greatests))), (q_a0_sieved_rests, .inl (cJ, 5000, .inr (.inl a0_sieved_rests))), (h_a0_sieved_squared, .inr (0, [.ref q_a0_sieved_squared_words])), (q_a0_sieved_squared_words, .inl (cJ, 79, .inr (.inl a0_sieved_squared_words)))]) [0, 1, 2, 3, 4, 5, 6, 7, 8] rfl
    have hD9 := hD.sub (ws' := [(h_a0, .inr (7, [.ref h_a0_primes, .ref h_a0_sieved, w_a0_parting, w_a0_primeSums, w_a0_progression, w_a0_rows])), (h_a0_primes, .inr (3, [.ref q_a0_primes_table, .int a0_primes_many])), (q_a0_primes_table, .inl (cI, 9592, .inl a0_primes_table)), (h_a0_sieved, .inr (6, [.ref q_a0_sieved_leasts, .ref q_a0_sieved_greatests, .ref q_a0_sieved_rests, .ref h_a0_sieved_squared, .long a0_sieved_from, .int a0_sieved_many, .int a0_sieved_primeCount, .int a0_sieved_gap, .int a0_sieved_twins, .int a0_sieved_squareFree])), (q_a0_sieved_leasts, .inl (cJ, 5000, .inr (.inl a0_sieved_leasts))), (q_a0_sieved_greatests, .inl (cJ, 5000, .inr (.inl a0_sieved_greatests))), (q_a0_sieved_rests, .inl (cJ, 5000, .inr (.inl a0_sieved_rests))), (h_a0_sieved_squared, .inr (0, [.ref q_a0_sieved_squared_words])), (q_a0_sieved_squared_words, .inl (cJ, 79, .inr (.inl a0_sieved_squared_words)))]) [0, 1, 2, 3, 4, 5, 6, 7, 8] (by decide) rfl
    exact W.iret (v := (-1 : Int32)) hx hb hr (fun t ht hW => ⟨⟨_, (a0_sieved_from, a0_sieved_many, a0_sieved_primeCount, a0_sieved_gap, a0_sieved_twins, a0_sieved_squareFree, a0_sieved_leasts, a0_sieved_greatests, a0_sieved_rests, a0_sieved_squared_words), rfl, h, by rw [ht]; exact hP9, hD9⟩, hS.F ht⟩) hS.2.2 dX8_span_32
  · replace h := h.2 c_1
    refine lv_iload_n hx hb dX8_span_5 rfl (lv_at hl 2 rfl) ?_
    refine lv_sipush (v := (5000 : Int32)) hx hb dX8_span_6 (by decide) ?_
    refine lv_icmp_gt (tgt := 31) hx hb dX8_span_9 (by decide) (fun c_2 => ?_) (fun c_2 => ?_)
    · replace h := h.1 c_2
      refine lv_iconst (v := (-1 : Int32)) hx hb dX8_span_31 (by decide) ?_
      have hP9 := hP.sub (ws' := [(h_a0, .inr (7, [.ref h_a0_primes, .ref h_a0_sieved, w_a0_parting, w_a0_primeSums, w_a0_progression, w_a0_rows])), (h_a0_primes, .inr (3, [.ref q_a0_primes_table, .int a0_primes_many])), (q_a0_primes_table, .inl (cI, 9592, .inl a0_primes_table)), (h_a0_sieved, .inr (6, [.ref q_a0_sieved_leasts, .ref q_a0_sieved_greatests, .ref q_a0_sieved_rests, .ref h_a0_sieved_squared, .long a0_sieved_from, .int a0_sieved_many, .int a0_sieved_primeCount, .int a0_sieved_gap, .int a0_sieved_twins, .int a0_sieved_squareFree])), (q_a0_sieved_leasts, .inl (cJ, 5000, .inr (.inl a0_sieved_leasts))), (q_a0_sieved_greatests, .inl (cJ, 5000, .inr (.inl a0_sieved_greatests))), (q_a0_sieved_rests, .inl (cJ, 5000, .inr (.inl a0_sieved_rests))), (h_a0_sieved_squared, .inr (0, [.ref q_a0_sieved_squared_words])), (q_a0_sieved_squared_words, .inl (cJ, 79, .inr (.inl a0_sieved_squared_words)))]) [0, 1, 2, 3, 4, 5, 6, 7, 8] rfl
      have hD9 := hD.sub (ws' := [(h_a0, .inr (7, [.ref h_a0_primes, .ref h_a0_sieved, w_a0_parting, w_a0_primeSums, w_a0_progression, w_a0_rows])), (h_a0_primes, .inr (3, [.ref q_a0_primes_table, .int a0_primes_many])), (q_a0_primes_table, .inl (cI, 9592, .inl a0_primes_table)), (h_a0_sieved, .inr (6, [.ref q_a0_sieved_leasts, .ref q_a0_sieved_greatests, .ref q_a0_sieved_rests, .ref h_a0_sieved_squared, .long a0_sieved_from, .int a0_sieved_many, .int a0_sieved_primeCount, .int a0_sieved_gap, .int a0_sieved_twins, .int a0_sieved_squareFree])), (q_a0_sieved_leasts, .inl (cJ, 5000, .inr (.inl a0_sieved_leasts))), (q_a0_sieved_greatests, .inl (cJ, 5000, .inr (.inl a0_sieved_greatests))), (q_a0_sieved_rests, .inl (cJ, 5000, .inr (.inl a0_sieved_rests))), (h_a0_sieved_squared, .inr (0, [.ref q_a0_sieved_squared_words])), (q_a0_sieved_squared_words, .inl (cJ, 79, .inr (.inl a0_sieved_squared_words)))]) [0, 1, 2, 3, 4, 5, 6, 7, 8] (by decide) rfl
      exact W.iret (v := (-1 : Int32)) hx hb hr (fun t ht hW => ⟨⟨_, (a0_sieved_from, a0_sieved_many, a0_sieved_primeCount, a0_sieved_gap, a0_sieved_twins, a0_sieved_squareFree, a0_sieved_leasts, a0_sieved_greatests, a0_sieved_rests, a0_sieved_squared_words), rfl, h, by rw [ht]; exact hP9, hD9⟩, hS.F ht⟩) hS.2.2 dX8_span_32
    · replace h := h.2 c_2
      refine lv_lload_n hx hb dX8_span_12 rfl (lv_at hl 1 rfl) ?_
      refine lv_lconst (v := (1 : Int64)) hx hb dX8_span_13 (by decide) ?_
      refine W.lcmp hx hb dX8_span_14 ?_
      refine lv_if_lt (tgt := 31) hx hb dX8_span_15 (by decide) (fun c_3 => ?_) (fun c_3 => ?_)
      · replace c_3 := (lg_cmp_lt _ _).mp c_3
        replace h := h.1 c_3
        refine lv_iconst (v := (-1 : Int32)) hx hb dX8_span_31 (by decide) ?_
        have hP9 := hP.sub (ws' := [(h_a0, .inr (7, [.ref h_a0_primes, .ref h_a0_sieved, w_a0_parting, w_a0_primeSums, w_a0_progression, w_a0_rows])), (h_a0_primes, .inr (3, [.ref q_a0_primes_table, .int a0_primes_many])), (q_a0_primes_table, .inl (cI, 9592, .inl a0_primes_table)), (h_a0_sieved, .inr (6, [.ref q_a0_sieved_leasts, .ref q_a0_sieved_greatests, .ref q_a0_sieved_rests, .ref h_a0_sieved_squared, .long a0_sieved_from, .int a0_sieved_many, .int a0_sieved_primeCount, .int a0_sieved_gap, .int a0_sieved_twins, .int a0_sieved_squareFree])), (q_a0_sieved_leasts, .inl (cJ, 5000, .inr (.inl a0_sieved_leasts))), (q_a0_sieved_greatests, .inl (cJ, 5000, .inr (.inl a0_sieved_greatests))), (q_a0_sieved_rests, .inl (cJ, 5000, .inr (.inl a0_sieved_rests))), (h_a0_sieved_squared, .inr (0, [.ref q_a0_sieved_squared_words])), (q_a0_sieved_squared_words, .inl (cJ, 79, .inr (.inl a0_sieved_squared_words)))]) [0, 1, 2, 3, 4, 5, 6, 7, 8] rfl
        have hD9 := hD.sub (ws' := [(h_a0, .inr (7, [.ref h_a0_primes, .ref h_a0_sieved, w_a0_parting, w_a0_primeSums, w_a0_progression, w_a0_rows])), (h_a0_primes, .inr (3, [.ref q_a0_primes_table, .int a0_primes_many])), (q_a0_primes_table, .inl (cI, 9592, .inl a0_primes_table)), (h_a0_sieved, .inr (6, [.ref q_a0_sieved_leasts, .ref q_a0_sieved_greatests, .ref q_a0_sieved_rests, .ref h_a0_sieved_squared, .long a0_sieved_from, .int a0_sieved_many, .int a0_sieved_primeCount, .int a0_sieved_gap, .int a0_sieved_twins, .int a0_sieved_squareFree])), (q_a0_sieved_leasts, .inl (cJ, 5000, .inr (.inl a0_sieved_leasts))), (q_a0_sieved_greatests, .inl (cJ, 5000, .inr (.inl a0_sieved_greatests))), (q_a0_sieved_rests, .inl (cJ, 5000, .inr (.inl a0_sieved_rests))), (h_a0_sieved_squared, .inr (0, [.ref q_a0_sieved_squared_words])), (q_a0_sieved_squared_words, .inl (cJ, 79, .inr (.inl a0_sieved_squared_words)))]) [0, 1, 2, 3, 4, 5, 6, 7, 8] (by decide) rfl
        exact W.iret (v := (-1 : Int32)) hx hb hr (fun t ht hW => ⟨⟨_, (a0_sieved_from, a0_sieved_many, a0_sieved_primeCount, a0_sieved_gap, a0_sieved_twins, a0_sieved_squareFree, a0_sieved_leasts, a0_sieved_greatests, a0_sieved_rests, a0_sieved_squared_words), rfl, h, by rw [ht]; exact hP9, hD9⟩, hS.F ht⟩) hS.2.2 dX8_span_32
      · replace c_3 := lc_nlt c_3
        replace h := h.2 c_3
        refine lv_lload_n hx hb dX8_span_18 rfl (lv_at hl 1 rfl) ?_
        refine lv_ldc2 hx hb hown hw_0 dX8_span_19 ?_
        refine lv_iload_n hx hb dX8_span_22 rfl (lv_at hl 2 rfl) ?_
        refine lv_i2l hx hb dX8_span_23 rfl ?_
        refine lv_lsub hx hb dX8_span_24 ?_
        refine lv_lconst (v := (1 : Int64)) hx hb dX8_span_25 (by decide) ?_
        refine lv_ladd hx hb dX8_span_26 ?_
        refine W.lcmp hx hb dX8_span_27 ?_
        refine lv_if_le (tgt := 33) hx hb dX8_span_28 (by decide) (fun c_4 => ?_) (fun c_4 => ?_)
        · replace c_4 := (lg_cmp_le _ _).mp c_4
          replace h := h.1 c_4
          refine lv_aload_n hx hb dX8_span_33 rfl (lv_at hl 0 rfl) ?_
          refine va_get (D := (dC, dI)) (ci := 7) (v := .ref h_a0_sieved) (C := RX8) (T := TX8) (N := 6) hx hb hts hin_X8 hown hK hP 0 rfl rfl 1 (by decide) hw_1 (fun _ h9 => h9) rfl dX8_span_34 ?_
          refine lv_ifnonnull (tgt := 51) hx hb dX8_span_37 (by decide) ?_
          refine lv_aload_n hx hb dX8_span_51 rfl (lv_at hl 0 rfl) ?_
          refine va_get (D := (dC, dI)) (ci := 7) (v := .ref h_a0_sieved) (C := RX8) (T := TX8) (N := 6) hx hb hts hin_X8 hown hK hP 0 rfl rfl 1 (by decide) hw_1 (fun _ h9 => h9) rfl dX8_span_52 ?_
          refine lv_lload_n hx hb dX8_span_55 rfl (lv_at hl 1 rfl) ?_
          refine lv_iload_n hx hb dX8_span_56 rfl (lv_at hl 2 rfl) ?_
          refine lv_aload_n hx hb dX8_span_57 rfl (lv_at hl 0 rfl) ?_
          have hPc := hP.sub (ws' := [(h_a0, .inr (7, [.ref h_a0_primes, .ref h_a0_sieved, w_a0_parting, w_a0_primeSums, w_a0_progression, w_a0_rows])), (h_a0_primes, .inr (3, [.ref q_a0_primes_table, .int a0_primes_many])), (q_a0_primes_table, .inl (cI, 9592, .inl a0_primes_table))]) [0, 1, 2] rfl
          have hDc := hD.sub (ws' := [(h_a0, .inr (7, [.ref h_a0_primes, .ref h_a0_sieved, w_a0_parting, w_a0_primeSums, w_a0_progression, w_a0_rows])), (h_a0_primes, .inr (3, [.ref q_a0_primes_table, .int a0_primes_many])), (q_a0_primes_table, .inl (cI, 9592, .inl a0_primes_table))]) [0, 1, 2] (by decide) rfl
          have hFc := va_free (wc := [(h_a0, .inr (7, [.ref h_a0_primes, .ref h_a0_sieved, w_a0_parting, w_a0_primeSums, w_a0_progression, w_a0_rows])), (h_a0_primes, .inr (3, [.ref q_a0_primes_table, .int a0_primes_many])), (q_a0_primes_table, .inl (cI, 9592, .inl a0_primes_table))]) hD hS hA [0, 1, 2] rfl
          refine va_callr (va_runV (As := []) (rest := [.int p2, .long p1, .ref h_a0_sieved]) ⟨hx, hb, hml, hown, hts⟩ (c_X8_knownPrimes_c1 l dC dI cI cJ cZ _ h_a0 h_a0_primes a0_primes_table q_a0_primes_table a0_primes_many (.ref h_a0_sieved) (w_a0_parting) (w_a0_primeSums) (w_a0_progression) (w_a0_rows) _ h) (cwV 0 hts gX8_span_X8_knownPrimes rfl rfl rfl (by decide +kernel) ⟨Nat.le_of_ble_eq_true rfl, Nat.le_of_ble_eq_true rfl⟩) ⟨pre_fb, va_recv hK hPc (ci := 7) (q0 := 0) rfl rfl, pre_of hPc hDc hK hN⟩ rfl rfl hl.1 rfl (lv_room (Nat.le_of_ble_eq_true rfl)) dX8_span_58 ⟨by first | exact Nat.le_of_ble_eq_true rfl | exact Nat.le_refl _, by first | exact Nat.le_of_ble_eq_true rfl | exact Nat.le_refl _⟩) hS (fun q _ h => hFc q h) hFc (fun u ra t H1 locs ht hvm h hB hz1 hk1 hS => ?_)
          obtain ⟨hra, hP1, hD1⟩ := hB
          try dsimp only at hra
          subst ra
          rw [ht] at hP1
          try dsimp only at h
          obtain ⟨hP, hD⟩ := va_join (wr := [(h_a0_sieved, .inr (6, [.ref q_a0_sieved_leasts, .ref q_a0_sieved_greatests, .ref q_a0_sieved_rests, .ref h_a0_sieved_squared, .long a0_sieved_from, .int a0_sieved_many, .int a0_sieved_primeCount, .int a0_sieved_gap, .int a0_sieved_twins, .int a0_sieved_squareFree])), (q_a0_sieved_leasts, .inl (cJ, 5000, .inr (.inl a0_sieved_leasts))), (q_a0_sieved_greatests, .inl (cJ, 5000, .inr (.inl a0_sieved_greatests))), (q_a0_sieved_rests, .inl (cJ, 5000, .inr (.inl a0_sieved_rests))), (h_a0_sieved_squared, .inr (0, [.ref q_a0_sieved_squared_words])), (q_a0_sieved_squared_words, .inl (cJ, 79, .inr (.inl a0_sieved_squared_words)))]) (w1 := [(h_a0, .inr (7, [.ref h_a0_primes, .ref h_a0_sieved, w_a0_parting, w_a0_primeSums, w_a0_progression, w_a0_rows])), (h_a0_primes, .inr (3, [.ref q_a0_primes_table, .int a0_primes_many])), (q_a0_primes_table, .inl (cI, 9592, .inl a0_primes_table))]) hP hD [0, 1, 2] [3, 4, 5, 6, 7, 8] rfl rfl (by decide) (by decide) hk1 hFc hP1 hD1
          generalize H1 = H at hP hS ⊢
          have hP : va_P (dC, dI) vwCl [(h_a0_sieved, .inr (6, [.ref q_a0_sieved_leasts, .ref q_a0_sieved_greatests, .ref q_a0_sieved_rests, .ref h_a0_sieved_squared, .long a0_sieved_from, .int a0_sieved_many, .int a0_sieved_primeCount, .int a0_sieved_gap, .int a0_sieved_twins, .int a0_sieved_squareFree])), (q_a0_sieved_leasts, .inl (cJ, 5000, .inr (.inl a0_sieved_leasts))), (q_a0_sieved_greatests, .inl (cJ, 5000, .inr (.inl a0_sieved_greatests))), (q_a0_sieved_rests, .inl (cJ, 5000, .inr (.inl a0_sieved_rests))), (h_a0_sieved_squared, .inr (0, [.ref q_a0_sieved_squared_words])), (q_a0_sieved_squared_words, .inl (cJ, 79, .inr (.inl a0_sieved_squared_words))), (h_a0, .inr (7, [.ref h_a0_primes, .ref h_a0_sieved, w_a0_parting, w_a0_primeSums, w_a0_progression, w_a0_rows])), (h_a0_primes, .inr (3, [.ref q_a0_primes_table, .int a0_primes_many])), (q_a0_primes_table, .inl (cI, 9592, .inl a0_primes_table))] H := hP
          have hD : va_D A [(h_a0_sieved, .inr (6, [.ref q_a0_sieved_leasts, .ref q_a0_sieved_greatests, .ref q_a0_sieved_rests, .ref h_a0_sieved_squared, .long a0_sieved_from, .int a0_sieved_many, .int a0_sieved_primeCount, .int a0_sieved_gap, .int a0_sieved_twins, .int a0_sieved_squareFree])), (q_a0_sieved_leasts, .inl (cJ, 5000, .inr (.inl a0_sieved_leasts))), (q_a0_sieved_greatests, .inl (cJ, 5000, .inr (.inl a0_sieved_greatests))), (q_a0_sieved_rests, .inl (cJ, 5000, .inr (.inl a0_sieved_rests))), (h_a0_sieved_squared, .inr (0, [.ref q_a0_sieved_squared_words])), (q_a0_sieved_squared_words, .inl (cJ, 79, .inr (.inl a0_sieved_squared_words))), (h_a0, .inr (7, [.ref h_a0_primes, .ref h_a0_sieved, w_a0_parting, w_a0_primeSums, w_a0_progression, w_a0_rows])), (h_a0_primes, .inr (3, [.ref q_a0_primes_table, .int a0_primes_many])), (q_a0_primes_table, .inl (cI, 9592, .inl a0_primes_table))] := hD
          have hPc := hP.sub (ws' := [(h_a0_sieved, .inr (6, [.ref q_a0_sieved_leasts, .ref q_a0_sieved_greatests, .ref q_a0_sieved_rests, .ref h_a0_sieved_squared, .long a0_sieved_from, .int a0_sieved_many, .int a0_sieved_primeCount, .int a0_sieved_gap, .int a0_sieved_twins, .int a0_sieved_squareFree])), (q_a0_sieved_leasts, .inl (cJ, 5000, .inr (.inl a0_sieved_leasts))), (q_a0_sieved_greatests, .inl (cJ, 5000, .inr (.inl a0_sieved_greatests))), (q_a0_sieved_rests, .inl (cJ, 5000, .inr (.inl a0_sieved_rests))), (h_a0_sieved_squared, .inr (0, [.ref q_a0_sieved_squared_words])), (q_a0_sieved_squared_words, .inl (cJ, 79, .inr (.inl a0_sieved_squared_words))), (h_a0_primes, .inr (3, [.ref q_a0_primes_table, .int a0_primes_many])), (q_a0_primes_table, .inl (cI, 9592, .inl a0_primes_table))]) [0, 1, 2, 3, 4, 5, 7, 8] rfl
          have hDc := hD.sub (ws' := [(h_a0_sieved, .inr (6, [.ref q_a0_sieved_leasts, .ref q_a0_sieved_greatests, .ref q_a0_sieved_rests, .ref h_a0_sieved_squared, .long a0_sieved_from, .int a0_sieved_many, .int a0_sieved_primeCount, .int a0_sieved_gap, .int a0_sieved_twins, .int a0_sieved_squareFree])), (q_a0_sieved_leasts, .inl (cJ, 5000, .inr (.inl a0_sieved_leasts))), (q_a0_sieved_greatests, .inl (cJ, 5000, .inr (.inl a0_sieved_greatests))), (q_a0_sieved_rests, .inl (cJ, 5000, .inr (.inl a0_sieved_rests))), (h_a0_sieved_squared, .inr (0, [.ref q_a0_sieved_squared_words])), (q_a0_sieved_squared_words, .inl (cJ, 79, .inr (.inl a0_sieved_squared_words))), (h_a0_primes, .inr (3, [.ref q_a0_primes_table, .int a0_primes_many])), (q_a0_primes_table, .inl (cI, 9592, .inl a0_primes_table))]) [0, 1, 2, 3, 4, 5, 7, 8] (by decide) rfl
          have hFc := va_free (wc := [(h_a0_sieved, .inr (6, [.ref q_a0_sieved_leasts, .ref q_a0_sieved_greatests, .ref q_a0_sieved_rests, .ref h_a0_sieved_squared, .long a0_sieved_from, .int a0_sieved_many, .int a0_sieved_primeCount, .int a0_sieved_gap, .int a0_sieved_twins, .int a0_sieved_squareFree])), (q_a0_sieved_leasts, .inl (cJ, 5000, .inr (.inl a0_sieved_leasts))), (q_a0_sieved_greatests, .inl (cJ, 5000, .inr (.inl a0_sieved_greatests))), (q_a0_sieved_rests, .inl (cJ, 5000, .inr (.inl a0_sieved_rests))), (h_a0_sieved_squared, .inr (0, [.ref q_a0_sieved_squared_words])), (q_a0_sieved_squared_words, .inl (cJ, 79, .inr (.inl a0_sieved_squared_words))), (h_a0_primes, .inr (3, [.ref q_a0_primes_table, .int a0_primes_many])), (q_a0_primes_table, .inl (cI, 9592, .inl a0_primes_table))]) hD hS hA [0, 1, 2, 3, 4, 5, 7, 8] rfl
          refine va_callv (va_runV (As := [.long p1, .int p2, .ref h_a0_primes]) (rest := []) ⟨hx, hb, hml, hown, hts⟩ (c_X6_sieve l dC dI cI cJ cZ _ h_a0_sieved a0_sieved_leasts q_a0_sieved_leasts a0_sieved_greatests q_a0_sieved_greatests a0_sieved_rests q_a0_sieved_rests h_a0_sieved_squared a0_sieved_squared_words q_a0_sieved_squared_words a0_sieved_from a0_sieved_many a0_sieved_primeCount a0_sieved_gap a0_sieved_twins a0_sieved_squareFree h_a0_primes a0_primes_table q_a0_primes_table a0_primes_many p1 p2 _ h) (cwV 3 hts gX8_span_X6_sieve rfl rfl rfl (by decide +kernel) ⟨Nat.le_of_ble_eq_true rfl, Nat.le_of_ble_eq_true rfl⟩) ⟨pre_fb, va_recv hK hPc (ci := 6) (q0 := 0) rfl rfl, pre_of hPc hDc hK hN⟩ rfl rfl hl.1 rfl (lv_room (Nat.le_of_ble_eq_true rfl)) dX8_span_61 ⟨by first | exact Nat.le_of_ble_eq_true rfl | exact Nat.le_refl _, by first | exact Nat.le_of_ble_eq_true rfl | exact Nat.le_refl _⟩) hS (fun q _ h => hFc q h) hFc (fun u t H1 locs ht hvm h hB hz1 hk1 hS => ?_)
          obtain ⟨o_5, o_6, o_7, o_8, o_9, o_10, o_11, o_12, o_13, o_14⟩ := u
          obtain ⟨hP1, hD1⟩ := hB
          rw [ht] at hP1
          try dsimp only at h
          obtain ⟨hP, hD⟩ := va_join (wr := [(h_a0, .inr (7, [.ref h_a0_primes, .ref h_a0_sieved, w_a0_parting, w_a0_primeSums, w_a0_progression, w_a0_rows]))]) (w1 := [(h_a0_sieved, .inr (6, [.ref q_a0_sieved_leasts, .ref q_a0_sieved_greatests, .ref q_a0_sieved_rests, .ref h_a0_sieved_squared, .long o_5, .int o_6, .int o_7, .int o_8, .int o_9, .int o_10])), (q_a0_sieved_leasts, .inl (cJ, 5000, .inr (.inl o_11))), (q_a0_sieved_greatests, .inl (cJ, 5000, .inr (.inl o_12))), (q_a0_sieved_rests, .inl (cJ, 5000, .inr (.inl o_13))), (h_a0_sieved_squared, .inr (0, [.ref q_a0_sieved_squared_words])), (q_a0_sieved_squared_words, .inl (cJ, 79, .inr (.inl o_14))), (h_a0_primes, .inr (3, [.ref q_a0_primes_table, .int a0_primes_many])), (q_a0_primes_table, .inl (cI, 9592, .inl a0_primes_table))]) hP hD [0, 1, 2, 3, 4, 5, 7, 8] [6] rfl rfl (by decide) (by decide) hk1 hFc hP1 hD1
          generalize H1 = H at hP hS ⊢
          have hP : va_P (dC, dI) vwCl [(h_a0, .inr (7, [.ref h_a0_primes, .ref h_a0_sieved, w_a0_parting, w_a0_primeSums, w_a0_progression, w_a0_rows])), (h_a0_sieved, .inr (6, [.ref q_a0_sieved_leasts, .ref q_a0_sieved_greatests, .ref q_a0_sieved_rests, .ref h_a0_sieved_squared, .long o_5, .int o_6, .int o_7, .int o_8, .int o_9, .int o_10])), (q_a0_sieved_leasts, .inl (cJ, 5000, .inr (.inl o_11))), (q_a0_sieved_greatests, .inl (cJ, 5000, .inr (.inl o_12))), (q_a0_sieved_rests, .inl (cJ, 5000, .inr (.inl o_13))), (h_a0_sieved_squared, .inr (0, [.ref q_a0_sieved_squared_words])), (q_a0_sieved_squared_words, .inl (cJ, 79, .inr (.inl o_14))), (h_a0_primes, .inr (3, [.ref q_a0_primes_table, .int a0_primes_many])), (q_a0_primes_table, .inl (cI, 9592, .inl a0_primes_table))] H := hP
          have hD : va_D A [(h_a0, .inr (7, [.ref h_a0_primes, .ref h_a0_sieved, w_a0_parting, w_a0_primeSums, w_a0_progression, w_a0_rows])), (h_a0_sieved, .inr (6, [.ref q_a0_sieved_leasts, .ref q_a0_sieved_greatests, .ref q_a0_sieved_rests, .ref h_a0_sieved_squared, .long o_5, .int o_6, .int o_7, .int o_8, .int o_9, .int o_10])), (q_a0_sieved_leasts, .inl (cJ, 5000, .inr (.inl o_11))), (q_a0_sieved_greatests, .inl (cJ, 5000, .inr (.inl o_12))), (q_a0_sieved_rests, .inl (cJ, 5000, .inr (.inl o_13))), (h_a0_sieved_squared, .inr (0, [.ref q_a0_sieved_squared_words])), (q_a0_sieved_squared_words, .inl (cJ, 79, .inr (.inl o_14))), (h_a0_primes, .inr (3, [.ref q_a0_primes_table, .int a0_primes_many])), (q_a0_primes_table, .inl (cI, 9592, .inl a0_primes_table))] := hD
          refine lv_aload_n hx hb dX8_span_64 rfl (lv_at hl 0 rfl) ?_
          refine va_get (D := (dC, dI)) (ci := 7) (v := .ref h_a0_sieved) (C := RX8) (T := TX8) (N := 6) hx hb hts hin_X8 hown hK hP 0 rfl rfl 1 (by decide) hw_1 (fun _ h9 => h9) rfl dX8_span_65 ?_
          refine va_getN (D := (dC, dI)) (ci := 6) (v := .int o_7) (C := RX6) (T := TX6) (N := 10) hx hb hts hin_X6 hown hK hP 1 rfl rfl 6 (by decide) (nw_1 hN) (fun _ h9 => h9) rfl dX8_span_68 ?_
          have hP9 := hP.sub (ws' := [(h_a0, .inr (7, [.ref h_a0_primes, .ref h_a0_sieved, w_a0_parting, w_a0_primeSums, w_a0_progression, w_a0_rows])), (h_a0_primes, .inr (3, [.ref q_a0_primes_table, .int a0_primes_many])), (q_a0_primes_table, .inl (cI, 9592, .inl a0_primes_table)), (h_a0_sieved, .inr (6, [.ref q_a0_sieved_leasts, .ref q_a0_sieved_greatests, .ref q_a0_sieved_rests, .ref h_a0_sieved_squared, .long o_5, .int o_6, .int o_7, .int o_8, .int o_9, .int o_10])), (q_a0_sieved_leasts, .inl (cJ, 5000, .inr (.inl o_11))), (q_a0_sieved_greatests, .inl (cJ, 5000, .inr (.inl o_12))), (q_a0_sieved_rests, .inl (cJ, 5000, .inr (.inl o_13))), (h_a0_sieved_squared, .inr (0, [.ref q_a0_sieved_squared_words])), (q_a0_sieved_squared_words, .inl (cJ, 79, .inr (.inl o_14)))]) [0, 7, 8, 1, 2, 3, 4, 5, 6] rfl
          have hD9 := hD.sub (ws' := [(h_a0, .inr (7, [.ref h_a0_primes, .ref h_a0_sieved, w_a0_parting, w_a0_primeSums, w_a0_progression, w_a0_rows])), (h_a0_primes, .inr (3, [.ref q_a0_primes_table, .int a0_primes_many])), (q_a0_primes_table, .inl (cI, 9592, .inl a0_primes_table)), (h_a0_sieved, .inr (6, [.ref q_a0_sieved_leasts, .ref q_a0_sieved_greatests, .ref q_a0_sieved_rests, .ref h_a0_sieved_squared, .long o_5, .int o_6, .int o_7, .int o_8, .int o_9, .int o_10])), (q_a0_sieved_leasts, .inl (cJ, 5000, .inr (.inl o_11))), (q_a0_sieved_greatests, .inl (cJ, 5000, .inr (.inl o_12))), (q_a0_sieved_rests, .inl (cJ, 5000, .inr (.inl o_13))), (h_a0_sieved_squared, .inr (0, [.ref q_a0_sieved_squared_words])), (q_a0_sieved_squared_words, .inl (cJ, 79, .inr (.inl o_14)))]) [0, 7, 8, 1, 2, 3, 4, 5, 6] (by decide) rfl
          exact W.iret (v := o_7) hx hb hr (fun t ht hW => ⟨⟨_, (o_5, o_6, o_7, o_8, o_9, o_10, o_11, o_12, o_13, o_14), rfl, h, by rw [ht]; exact hP9, hD9⟩, hS.F ht⟩) hS.2.2 dX8_span_71
        · replace c_4 := lc_nle c_4
          replace h := h.2 c_4
          refine lv_iconst (v := (-1 : Int32)) hx hb dX8_span_31 (by decide) ?_
          have hP9 := hP.sub (ws' := [(h_a0, .inr (7, [.ref h_a0_primes, .ref h_a0_sieved, w_a0_parting, w_a0_primeSums, w_a0_progression, w_a0_rows])), (h_a0_primes, .inr (3, [.ref q_a0_primes_table, .int a0_primes_many])), (q_a0_primes_table, .inl (cI, 9592, .inl a0_primes_table)), (h_a0_sieved, .inr (6, [.ref q_a0_sieved_leasts, .ref q_a0_sieved_greatests, .ref q_a0_sieved_rests, .ref h_a0_sieved_squared, .long a0_sieved_from, .int a0_sieved_many, .int a0_sieved_primeCount, .int a0_sieved_gap, .int a0_sieved_twins, .int a0_sieved_squareFree])), (q_a0_sieved_leasts, .inl (cJ, 5000, .inr (.inl a0_sieved_leasts))), (q_a0_sieved_greatests, .inl (cJ, 5000, .inr (.inl a0_sieved_greatests))), (q_a0_sieved_rests, .inl (cJ, 5000, .inr (.inl a0_sieved_rests))), (h_a0_sieved_squared, .inr (0, [.ref q_a0_sieved_squared_words])), (q_a0_sieved_squared_words, .inl (cJ, 79, .inr (.inl a0_sieved_squared_words)))]) [0, 1, 2, 3, 4, 5, 6, 7, 8] rfl
          have hD9 := hD.sub (ws' := [(h_a0, .inr (7, [.ref h_a0_primes, .ref h_a0_sieved, w_a0_parting, w_a0_primeSums, w_a0_progression, w_a0_rows])), (h_a0_primes, .inr (3, [.ref q_a0_primes_table, .int a0_primes_many])), (q_a0_primes_table, .inl (cI, 9592, .inl a0_primes_table)), (h_a0_sieved, .inr (6, [.ref q_a0_sieved_leasts, .ref q_a0_sieved_greatests, .ref q_a0_sieved_rests, .ref h_a0_sieved_squared, .long a0_sieved_from, .int a0_sieved_many, .int a0_sieved_primeCount, .int a0_sieved_gap, .int a0_sieved_twins, .int a0_sieved_squareFree])), (q_a0_sieved_leasts, .inl (cJ, 5000, .inr (.inl a0_sieved_leasts))), (q_a0_sieved_greatests, .inl (cJ, 5000, .inr (.inl a0_sieved_greatests))), (q_a0_sieved_rests, .inl (cJ, 5000, .inr (.inl a0_sieved_rests))), (h_a0_sieved_squared, .inr (0, [.ref q_a0_sieved_squared_words])), (q_a0_sieved_squared_words, .inl (cJ, 79, .inr (.inl a0_sieved_squared_words)))]) [0, 1, 2, 3, 4, 5, 6, 7, 8] (by decide) rfl
          exact W.iret (v := (-1 : Int32)) hx hb hr (fun t ht hW => ⟨⟨_, (a0_sieved_from, a0_sieved_many, a0_sieved_primeCount, a0_sieved_gap, a0_sieved_twins, a0_sieved_squareFree, a0_sieved_leasts, a0_sieved_greatests, a0_sieved_rests, a0_sieved_squared_words), rfl, h, by rw [ht]; exact hP9, hD9⟩, hS.F ht⟩) hS.2.2 dX8_span_32
def wp_X8_count_c0 (mcP msP : Nat)  (p1 : Int32) (Q : Int32 → Option ((Nat → Int64) × (Nat → Int64)) → Prop) : Prop :=
  ((p1 < (0 : Int32) → Q (-1 : Int32) none) ∧ (¬ p1 < (0 : Int32) → ((p1 ≤ (2000000 : Int32) → (3 ≤ mcP ∧ 2832 ≤ msP ∧ wp_X8_knownSums_c0 (fun o_3 o_4 => wp_X2_total o_3 o_4 p1 (0 : Int32) (fun r_10 o_11 o_12 => Q (r_10.toInt32) (some (o_11, o_12)))))) ∧ (¬ p1 ≤ (2000000 : Int32) → Q (-1 : Int32) none))))
abbrev rm_X8_count_c0 (mcP msP : Nat) : Room := { frames := 3, cells := mcP, slots := msP, locals := 78 }
abbrev qc_X8_count_c0 (dC : Nat → ClassId) (dI : Nat → Nat → Nat) (cI cJ cZ : ClassId) (h_a0 : Nat) (w_a0_primes : Value) (w_a0_sieved : Value) (w_a0_parting : Value) (w_a0_progression : Value) (w_a0_rows : Value) (Q : Int32 → Option ((Nat → Int64) × (Nat → Int64)) → Prop) (A : Nat → Prop) : Array Value → State → Outcome → State → Prop := va_Qi (fun (r : Int32) (u : Option ((Nat × Nat × Nat) × ((Nat → Int64) × (Nat → Int64)))) => Q r (u.map Prod.snd)) (post_ dC dI A (fun (u : Option ((Nat × Nat × Nat) × ((Nat → Int64) × (Nat → Int64)))) => ([(h_a0, .inr (7, [w_a0_primes, w_a0_sieved, w_a0_parting, (match u with | none => Value.null | some w => Value.ref w.1.1), w_a0_progression, w_a0_rows]))] : va_W) ++ (match u with | none => ([] : va_W) | some w => [(w.1.1, .inr (2, [.ref w.1.2.1, .ref w.1.2.2])), (w.1.2.1, .inl (cJ, 1415, .inr (.inl (w.2.1)))), (w.1.2.2, .inl (cJ, 1415, .inr (.inl (w.2.2))))]))) A
set_option maxHeartbeats 4000000 in
set_option maxRecDepth 100000 in
theorem c_X8_count_c0 (l : Launch) (dC : Nat → ClassId) (dI : Nat → Nat → Nat) (cI cJ cZ : ClassId) (sz : Nat) (mcP msP : Nat) (h_a0 : Nat) (w_a0_primes : Value) (w_a0_sieved : Value) (w_a0_parting : Value) (w_a0_progression : Value) (w_a0_rows : Value) (p1 : Int32) (Q : Int32 → Option ((Nat → Int64) × (Nat → Int64)) → Prop) (hQ : wp_X8_count_c0 mcP msP p1 Q) : Met l yX8_count wsX8_count (rm_X8_count_c0 mcP msP) (pre_ dC dI cI cJ cZ [.ref h_a0, .int p1] [(h_a0, .inr (7, [w_a0_primes, w_a0_sieved, w_a0_parting, .null, w_a0_progression, w_a0_rows]))] sz) (qc_X8_count_c0 dC dI cI cJ cZ h_a0 w_a0_primes w_a0_sieved w_a0_parting w_a0_progression w_a0_rows Q (va_A [(h_a0, .inr (7, [w_a0_primes, w_a0_sieved, w_a0_parting, .null, w_a0_progression, w_a0_rows]))] sz)) mcP msP (va_A [(h_a0, .inr (7, [w_a0_primes, w_a0_sieved, w_a0_parting, .null, w_a0_progression, w_a0_rows]))] sz) := by
  refine Met.ofW (cc := cX8_count) (maxL := 2) (ret := (some .int)) (by decide) rfl ?_
  intro p e s m args below meth c s₁ B hml hv
  obtain ⟨rfl, hsz, hP, hK, hN, hD0⟩ := hv
  have hx := B.exec
  have hb := B.bytes
  have hr := B.returns
  have hts := atoms_spec (ws := wsX8_count) B.pre
  have hown : s.vm.findClass RX8 = some m.cls := findClass_of_methodNamed B.named
  subst hsz
  have hD := hD0.self (sz := s.heap.size)
  generalize hAe : va_A [(h_a0, .inr (7, [w_a0_primes, w_a0_sieved, w_a0_parting, .null, w_a0_progression, w_a0_rows]))] s.heap.size = A at hD ⊢
  have hA : ∀ q : Nat, s.heap.size ≤ q → A q := fun q h => by rw [← hAe]; exact Or.inr h
  have hS : va_S A s.heap s.heap [] := va_S.rf
  have hl := lv_entry ([.ref h_a0, .int p1]) (n := 2) (Nat.le_of_ble_eq_true rfl)
  rw [lg_entry_eq]
  generalize (lg_sl ([.ref h_a0, .int p1]) ++ List.replicate (2 - (lg_sl ([.ref h_a0, .int p1])).length) Slot.unset).toArray = ls at hl ⊢
  have hl : lv_has ls 2 [(0, .ref h_a0), (1, .int p1)] := hl
  have h := hQ
  unfold wp_X8_count_c0 at h
  have hw_0 := hts (.constant RX8 114 (2000000)) (by decide +kernel)
  refine lv_iload_n hx hb dX8_count_0 rfl (lv_at hl 1 rfl) ?_
  refine lv_if_lt (tgt := 10) hx hb dX8_count_1 (by decide) (fun c_1 => ?_) (fun c_1 => ?_)
  · replace h := h.1 c_1
    refine lv_iconst (v := (-1 : Int32)) hx hb dX8_count_10 (by decide) ?_
    have hP9 := hP.sub (ws' := [(h_a0, .inr (7, [w_a0_primes, w_a0_sieved, w_a0_parting, .null, w_a0_progression, w_a0_rows]))]) [0] rfl
    have hD9 := hD.sub (ws' := [(h_a0, .inr (7, [w_a0_primes, w_a0_sieved, w_a0_parting, .null, w_a0_progression, w_a0_rows]))]) [0] (by decide) rfl
    refine W.widen (k := mcP) (n := msP) (by first | omega | exact Nat.le_of_ble_eq_true rfl) (by first | omega | exact Nat.le_of_ble_eq_true rfl) ?_
    exact W.iret (v := (-1 : Int32)) hx hb hr (fun t ht hW => ⟨⟨_, none, rfl, h, by rw [ht]; exact hP9, hD9⟩, hS.F ht⟩) hS.2.2 dX8_count_11
  · replace h := h.2 c_1
    refine lv_iload_n hx hb dX8_count_4 rfl (lv_at hl 1 rfl) ?_
    refine lv_ldc hx hb hown hw_0 dX8_count_5 ?_
    refine lv_icmp_le (tgt := 12) hx hb dX8_count_7 (by decide) (fun c_2 => ?_) (fun c_2 => ?_)
    · replace h := h.1 c_2
      refine lv_aload_n hx hb dX8_count_12 rfl (lv_at hl 0 rfl) ?_
      have hPc := hP.sub (ws' := [(h_a0, .inr (7, [w_a0_primes, w_a0_sieved, w_a0_parting, .null, w_a0_progression, w_a0_rows]))]) [0] rfl
      have hDc := hD.sub (ws' := [(h_a0, .inr (7, [w_a0_primes, w_a0_sieved, w_a0_parting, .null, w_a0_progression, w_a0_rows]))]) [0] (by decide) rfl
      have hFc := va_free (wc := [(h_a0, .inr (7, [w_a0_primes, w_a0_sieved, w_a0_parting, .null, w_a0_progression, w_a0_rows]))]) hD hS hA [0] rfl
      obtain ⟨hm_5, hm_6, h⟩ := h
      refine va_callr (va_runV (As := []) (rest := []) ⟨hx, hb, hml, hown, hts⟩ (c_X8_knownSums_c0 l dC dI cI cJ cZ _ h_a0 (w_a0_primes) (w_a0_sieved) (w_a0_parting) (w_a0_progression) (w_a0_rows) _ h) (cwV 0 hts gX8_count_X8_knownSums rfl rfl rfl (by decide +kernel) ⟨Nat.le_of_ble_eq_true rfl, Nat.le_of_ble_eq_true rfl⟩) ⟨pre_fb, va_recv hK hPc (ci := 7) (q0 := 0) rfl rfl, pre_of hPc hDc hK hN⟩ rfl rfl hl.1 rfl (lv_room (Nat.le_of_ble_eq_true rfl)) dX8_count_13 ⟨hm_5, hm_6⟩) hS (fun q _ h => hFc q h) hFc (fun u ra t H1 locs ht hvm h hB hz1 hk1 hS => ?_)
      obtain ⟨q_7, q_8, q_9, o_3, o_4⟩ := u
      obtain ⟨hra, hP1, hD1⟩ := hB
      try dsimp only at hra
      subst ra
      rw [ht] at hP1
      try dsimp only at h
      obtain ⟨hP, hD⟩ := va_join (wr := []) (w1 := [(h_a0, .inr (7, [w_a0_primes, w_a0_sieved, w_a0_parting, .ref q_7, w_a0_progression, w_a0_rows])), (q_7, .inr (2, [.ref q_8, .ref q_9])), (q_8, .inl (cJ, 1415, .inr (.inl o_3))), (q_9, .inl (cJ, 1415, .inr (.inl o_4)))]) hP hD [0] [] rfl rfl (by decide) (by decide) hk1 hFc hP1 hD1
      generalize H1 = H at hP hS ⊢
      have hP : va_P (dC, dI) vwCl [(h_a0, .inr (7, [w_a0_primes, w_a0_sieved, w_a0_parting, .ref q_7, w_a0_progression, w_a0_rows])), (q_7, .inr (2, [.ref q_8, .ref q_9])), (q_8, .inl (cJ, 1415, .inr (.inl o_3))), (q_9, .inl (cJ, 1415, .inr (.inl o_4)))] H := hP
      have hD : va_D A [(h_a0, .inr (7, [w_a0_primes, w_a0_sieved, w_a0_parting, .ref q_7, w_a0_progression, w_a0_rows])), (q_7, .inr (2, [.ref q_8, .ref q_9])), (q_8, .inl (cJ, 1415, .inr (.inl o_3))), (q_9, .inl (cJ, 1415, .inr (.inl o_4)))] := hD
      refine W.widen (k := 3) (n := 2832) (by omega) (by omega) ?_
      refine lv_iload_n hx hb dX8_count_16 rfl (lv_at hl 1 rfl) ?_
      refine lv_iconst (v := (0 : Int32)) hx hb dX8_count_17 (by decide) ?_
      have hPc := hP.sub (ws' := [(q_7, .inr (2, [.ref q_8, .ref q_9])), (q_8, .inl (cJ, 1415, .inr (.inl o_3))), (q_9, .inl (cJ, 1415, .inr (.inl o_4)))]) [1, 2, 3] rfl
      have hDc := hD.sub (ws' := [(q_7, .inr (2, [.ref q_8, .ref q_9])), (q_8, .inl (cJ, 1415, .inr (.inl o_3))), (q_9, .inl (cJ, 1415, .inr (.inl o_4)))]) [1, 2, 3] (by decide) rfl
      have hFc := va_free (wc := [(q_7, .inr (2, [.ref q_8, .ref q_9])), (q_8, .inl (cJ, 1415, .inr (.inl o_3))), (q_9, .inl (cJ, 1415, .inr (.inl o_4)))]) hD hS hA [1, 2, 3] rfl
      refine va_calll (va_runV (As := [.int p1, .int (0 : Int32)]) (rest := []) ⟨hx, hb, hml, hown, hts⟩ (c_X2_total l dC dI cI cJ cZ _ q_7 o_3 q_8 o_4 q_9 p1 (0 : Int32) _ h) (cwV 2 hts gX8_count_X2_total rfl rfl rfl (by decide +kernel) ⟨Nat.le_of_ble_eq_true rfl, Nat.le_of_ble_eq_true rfl⟩) ⟨pre_fb, va_recv hK hPc (ci := 2) (q0 := 0) rfl rfl, pre_of hPc hDc hK hN⟩ rfl rfl hl.1 rfl (lv_room (Nat.le_of_ble_eq_true rfl)) dX8_count_18 ⟨by show _ ≤ mcP; omega, by show _ ≤ msP; omega⟩) hS (fun q _ h => hFc q h) hFc (fun r_10 u t H1 locs ht hvm h hB hz1 hk1 hS => ?_)
      obtain ⟨o_11, o_12⟩ := u
      obtain ⟨hP1, hD1⟩ := hB
      rw [ht] at hP1
      try dsimp only at h
      obtain ⟨hP, hD⟩ := va_join (wr := [(h_a0, .inr (7, [w_a0_primes, w_a0_sieved, w_a0_parting, .ref q_7, w_a0_progression, w_a0_rows]))]) (w1 := [(q_7, .inr (2, [.ref q_8, .ref q_9])), (q_8, .inl (cJ, 1415, .inr (.inl o_11))), (q_9, .inl (cJ, 1415, .inr (.inl o_12)))]) hP hD [1, 2, 3] [0] rfl rfl (by decide) (by decide) hk1 hFc hP1 hD1
      generalize H1 = H at hP hS ⊢
      have hP : va_P (dC, dI) vwCl [(h_a0, .inr (7, [w_a0_primes, w_a0_sieved, w_a0_parting, .ref q_7, w_a0_progression, w_a0_rows])), (q_7, .inr (2, [.ref q_8, .ref q_9])), (q_8, .inl (cJ, 1415, .inr (.inl o_11))), (q_9, .inl (cJ, 1415, .inr (.inl o_12)))] H := hP
      have hD : va_D A [(h_a0, .inr (7, [w_a0_primes, w_a0_sieved, w_a0_parting, .ref q_7, w_a0_progression, w_a0_rows])), (q_7, .inr (2, [.ref q_8, .ref q_9])), (q_8, .inl (cJ, 1415, .inr (.inl o_11))), (q_9, .inl (cJ, 1415, .inr (.inl o_12)))] := hD
      refine lv_l2i hx hb dX8_count_21 rfl ?_
      have hP9 := hP.sub (ws' := [(h_a0, .inr (7, [w_a0_primes, w_a0_sieved, w_a0_parting, .ref q_7, w_a0_progression, w_a0_rows])), (q_7, .inr (2, [.ref q_8, .ref q_9])), (q_8, .inl (cJ, 1415, .inr (.inl o_11))), (q_9, .inl (cJ, 1415, .inr (.inl o_12)))]) [0, 1, 2, 3] rfl
      have hD9 := hD.sub (ws' := [(h_a0, .inr (7, [w_a0_primes, w_a0_sieved, w_a0_parting, .ref q_7, w_a0_progression, w_a0_rows])), (q_7, .inr (2, [.ref q_8, .ref q_9])), (q_8, .inl (cJ, 1415, .inr (.inl o_11))), (q_9, .inl (cJ, 1415, .inr (.inl o_12)))]) [0, 1, 2, 3] (by decide) rfl
      refine W.widen (k := mcP) (n := msP) (by first | omega | exact Nat.le_of_ble_eq_true rfl) (by first | omega | exact Nat.le_of_ble_eq_true rfl) ?_
      exact W.iret (v := r_10.toInt32) hx hb hr (fun t ht hW => ⟨⟨_, some ((q_7, q_8, q_9), (o_11, o_12)), rfl, h, by rw [ht]; exact hP9, hD9⟩, hS.F ht⟩) hS.2.2 dX8_count_22
    · replace h := h.2 c_2
      refine lv_iconst (v := (-1 : Int32)) hx hb dX8_count_10 (by decide) ?_
      have hP9 := hP.sub (ws' := [(h_a0, .inr (7, [w_a0_primes, w_a0_sieved, w_a0_parting, .null, w_a0_progression, w_a0_rows]))]) [0] rfl
      have hD9 := hD.sub (ws' := [(h_a0, .inr (7, [w_a0_primes, w_a0_sieved, w_a0_parting, .null, w_a0_progression, w_a0_rows]))]) [0] (by decide) rfl
      refine W.widen (k := mcP) (n := msP) (by first | omega | exact Nat.le_of_ble_eq_true rfl) (by first | omega | exact Nat.le_of_ble_eq_true rfl) ?_
      exact W.iret (v := (-1 : Int32)) hx hb hr (fun t ht hW => ⟨⟨_, none, rfl, h, by rw [ht]; exact hP9, hD9⟩, hS.F ht⟩) hS.2.2 dX8_count_11
def wp_X8_count_c1 (a0_primeSums_low : Nat → Int64) (a0_primeSums_high : Nat → Int64) (p1 : Int32) (Q : Int32 → (Nat → Int64) → (Nat → Int64) → Prop) : Prop :=
  ((p1 < (0 : Int32) → Q (-1 : Int32) a0_primeSums_low a0_primeSums_high) ∧ (¬ p1 < (0 : Int32) → ((p1 ≤ (2000000 : Int32) → wp_X8_knownSums_c1 (wp_X2_total a0_primeSums_low a0_primeSums_high p1 (0 : Int32) (fun r_3 o_4 o_5 => Q (r_3.toInt32) o_4 o_5))) ∧ (¬ p1 ≤ (2000000 : Int32) → Q (-1 : Int32) a0_primeSums_low a0_primeSums_high))))
abbrev rm_X8_count_c1 : Room := { frames := 3, cells := 0, slots := 0, locals := 78 }
abbrev qc_X8_count_c1 (dC : Nat → ClassId) (dI : Nat → Nat → Nat) (cI cJ cZ : ClassId) (h_a0 : Nat) (w_a0_primes : Value) (w_a0_sieved : Value) (w_a0_parting : Value) (h_a0_primeSums : Nat) (a0_primeSums_low : Nat → Int64) (q_a0_primeSums_low : Nat) (a0_primeSums_high : Nat → Int64) (q_a0_primeSums_high : Nat) (w_a0_progression : Value) (w_a0_rows : Value) (Q : Int32 → (Nat → Int64) → (Nat → Int64) → Prop) (A : Nat → Prop) : Array Value → State → Outcome → State → Prop := va_Qi (fun (r : Int32) (u : (Nat → Int64) × (Nat → Int64)) => Q r u.1 u.2) (post_ dC dI A (fun (u : (Nat → Int64) × (Nat → Int64)) => ([(h_a0, .inr (7, [w_a0_primes, w_a0_sieved, w_a0_parting, .ref h_a0_primeSums, w_a0_progression, w_a0_rows])), (h_a0_primeSums, .inr (2, [.ref q_a0_primeSums_low, .ref q_a0_primeSums_high])), (q_a0_primeSums_low, .inl (cJ, 1415, .inr (.inl (u.1)))), (q_a0_primeSums_high, .inl (cJ, 1415, .inr (.inl (u.2))))] : va_W))) A
set_option maxHeartbeats 4000000 in
set_option maxRecDepth 100000 in
theorem c_X8_count_c1 (l : Launch) (dC : Nat → ClassId) (dI : Nat → Nat → Nat) (cI cJ cZ : ClassId) (sz : Nat) (h_a0 : Nat) (w_a0_primes : Value) (w_a0_sieved : Value) (w_a0_parting : Value) (h_a0_primeSums : Nat) (a0_primeSums_low : Nat → Int64) (q_a0_primeSums_low : Nat) (a0_primeSums_high : Nat → Int64) (q_a0_primeSums_high : Nat) (w_a0_progression : Value) (w_a0_rows : Value) (p1 : Int32) (Q : Int32 → (Nat → Int64) → (Nat → Int64) → Prop) (hQ : wp_X8_count_c1 a0_primeSums_low a0_primeSums_high p1 Q) : Met l yX8_count wsX8_count rm_X8_count_c1 (pre_ dC dI cI cJ cZ [.ref h_a0, .int p1] [(h_a0, .inr (7, [w_a0_primes, w_a0_sieved, w_a0_parting, .ref h_a0_primeSums, w_a0_progression, w_a0_rows])), (h_a0_primeSums, .inr (2, [.ref q_a0_primeSums_low, .ref q_a0_primeSums_high])), (q_a0_primeSums_low, .inl (cJ, 1415, .inr (.inl a0_primeSums_low))), (q_a0_primeSums_high, .inl (cJ, 1415, .inr (.inl a0_primeSums_high)))] sz) (qc_X8_count_c1 dC dI cI cJ cZ h_a0 w_a0_primes w_a0_sieved w_a0_parting h_a0_primeSums a0_primeSums_low q_a0_primeSums_low a0_primeSums_high q_a0_primeSums_high w_a0_progression w_a0_rows Q (va_A [(h_a0, .inr (7, [w_a0_primes, w_a0_sieved, w_a0_parting, .ref h_a0_primeSums, w_a0_progression, w_a0_rows])), (h_a0_primeSums, .inr (2, [.ref q_a0_primeSums_low, .ref q_a0_primeSums_high])), (q_a0_primeSums_low, .inl (cJ, 1415, .inr (.inl a0_primeSums_low))), (q_a0_primeSums_high, .inl (cJ, 1415, .inr (.inl a0_primeSums_high)))] sz)) 0 0 (va_A [(h_a0, .inr (7, [w_a0_primes, w_a0_sieved, w_a0_parting, .ref h_a0_primeSums, w_a0_progression, w_a0_rows])), (h_a0_primeSums, .inr (2, [.ref q_a0_primeSums_low, .ref q_a0_primeSums_high])), (q_a0_primeSums_low, .inl (cJ, 1415, .inr (.inl a0_primeSums_low))), (q_a0_primeSums_high, .inl (cJ, 1415, .inr (.inl a0_primeSums_high)))] sz) := by
  refine Met.ofW (cc := cX8_count) (maxL := 2) (ret := (some .int)) (by decide) rfl ?_
  intro p e s m args below meth c s₁ B hml hv
  obtain ⟨rfl, hsz, hP, hK, hN, hD0⟩ := hv
  have hx := B.exec
  have hb := B.bytes
  have hr := B.returns
  have hts := atoms_spec (ws := wsX8_count) B.pre
  have hown : s.vm.findClass RX8 = some m.cls := findClass_of_methodNamed B.named
  subst hsz
  have hD := hD0.self (sz := s.heap.size)
  generalize hAe : va_A [(h_a0, .inr (7, [w_a0_primes, w_a0_sieved, w_a0_parting, .ref h_a0_primeSums, w_a0_progression, w_a0_rows])), (h_a0_primeSums, .inr (2, [.ref q_a0_primeSums_low, .ref q_a0_primeSums_high])), (q_a0_primeSums_low, .inl (cJ, 1415, .inr (.inl a0_primeSums_low))), (q_a0_primeSums_high, .inl (cJ, 1415, .inr (.inl a0_primeSums_high)))] s.heap.size = A at hD ⊢
  have hA : ∀ q : Nat, s.heap.size ≤ q → A q := fun q h => by rw [← hAe]; exact Or.inr h
  have hS : va_S A s.heap s.heap [] := va_S.rf
  have hl := lv_entry ([.ref h_a0, .int p1]) (n := 2) (Nat.le_of_ble_eq_true rfl)
  rw [lg_entry_eq]
  generalize (lg_sl ([.ref h_a0, .int p1]) ++ List.replicate (2 - (lg_sl ([.ref h_a0, .int p1])).length) Slot.unset).toArray = ls at hl ⊢
  have hl : lv_has ls 2 [(0, .ref h_a0), (1, .int p1)] := hl
  have h := hQ
  unfold wp_X8_count_c1 at h
  have hw_0 := hts (.constant RX8 114 (2000000)) (by decide +kernel)
  refine lv_iload_n hx hb dX8_count_0 rfl (lv_at hl 1 rfl) ?_
  refine lv_if_lt (tgt := 10) hx hb dX8_count_1 (by decide) (fun c_1 => ?_) (fun c_1 => ?_)
  · replace h := h.1 c_1
    refine lv_iconst (v := (-1 : Int32)) hx hb dX8_count_10 (by decide) ?_
    have hP9 := hP.sub (ws' := [(h_a0, .inr (7, [w_a0_primes, w_a0_sieved, w_a0_parting, .ref h_a0_primeSums, w_a0_progression, w_a0_rows])), (h_a0_primeSums, .inr (2, [.ref q_a0_primeSums_low, .ref q_a0_primeSums_high])), (q_a0_primeSums_low, .inl (cJ, 1415, .inr (.inl a0_primeSums_low))), (q_a0_primeSums_high, .inl (cJ, 1415, .inr (.inl a0_primeSums_high)))]) [0, 1, 2, 3] rfl
    have hD9 := hD.sub (ws' := [(h_a0, .inr (7, [w_a0_primes, w_a0_sieved, w_a0_parting, .ref h_a0_primeSums, w_a0_progression, w_a0_rows])), (h_a0_primeSums, .inr (2, [.ref q_a0_primeSums_low, .ref q_a0_primeSums_high])), (q_a0_primeSums_low, .inl (cJ, 1415, .inr (.inl a0_primeSums_low))), (q_a0_primeSums_high, .inl (cJ, 1415, .inr (.inl a0_primeSums_high)))]) [0, 1, 2, 3] (by decide) rfl
    exact W.iret (v := (-1 : Int32)) hx hb hr (fun t ht hW => ⟨⟨_, (a0_primeSums_low, a0_primeSums_high), rfl, h, by rw [ht]; exact hP9, hD9⟩, hS.F ht⟩) hS.2.2 dX8_count_11
  · replace h := h.2 c_1
    refine lv_iload_n hx hb dX8_count_4 rfl (lv_at hl 1 rfl) ?_
    refine lv_ldc hx hb hown hw_0 dX8_count_5 ?_
    refine lv_icmp_le (tgt := 12) hx hb dX8_count_7 (by decide) (fun c_2 => ?_) (fun c_2 => ?_)
    · replace h := h.1 c_2
      refine lv_aload_n hx hb dX8_count_12 rfl (lv_at hl 0 rfl) ?_
      have hPc := hP.sub (ws' := [(h_a0, .inr (7, [w_a0_primes, w_a0_sieved, w_a0_parting, .ref h_a0_primeSums, w_a0_progression, w_a0_rows])), (h_a0_primeSums, .inr (2, [.ref q_a0_primeSums_low, .ref q_a0_primeSums_high])), (q_a0_primeSums_low, .inl (cJ, 1415, .inr (.inl a0_primeSums_low))), (q_a0_primeSums_high, .inl (cJ, 1415, .inr (.inl a0_primeSums_high)))]) [0, 1, 2, 3] rfl
      have hDc := hD.sub (ws' := [(h_a0, .inr (7, [w_a0_primes, w_a0_sieved, w_a0_parting, .ref h_a0_primeSums, w_a0_progression, w_a0_rows])), (h_a0_primeSums, .inr (2, [.ref q_a0_primeSums_low, .ref q_a0_primeSums_high])), (q_a0_primeSums_low, .inl (cJ, 1415, .inr (.inl a0_primeSums_low))), (q_a0_primeSums_high, .inl (cJ, 1415, .inr (.inl a0_primeSums_high)))]) [0, 1, 2, 3] (by decide) rfl
      have hFc := va_free (wc := [(h_a0, .inr (7, [w_a0_primes, w_a0_sieved, w_a0_parting, .ref h_a0_primeSums, w_a0_progression, w_a0_rows])), (h_a0_primeSums, .inr (2, [.ref q_a0_primeSums_low, .ref q_a0_primeSums_high])), (q_a0_primeSums_low, .inl (cJ, 1415, .inr (.inl a0_primeSums_low))), (q_a0_primeSums_high, .inl (cJ, 1415, .inr (.inl a0_primeSums_high)))]) hD hS hA [0, 1, 2, 3] rfl
      refine va_callr (va_runV (As := []) (rest := []) ⟨hx, hb, hml, hown, hts⟩ (c_X8_knownSums_c1 l dC dI cI cJ cZ _ h_a0 (w_a0_primes) (w_a0_sieved) (w_a0_parting) h_a0_primeSums a0_primeSums_low q_a0_primeSums_low a0_primeSums_high q_a0_primeSums_high (w_a0_progression) (w_a0_rows) _ h) (cwV 0 hts gX8_count_X8_knownSums rfl rfl rfl (by decide +kernel) ⟨Nat.le_of_ble_eq_true rfl, Nat.le_of_ble_eq_true rfl⟩) ⟨pre_fb, va_recv hK hPc (ci := 7) (q0 := 0) rfl rfl, pre_of hPc hDc hK hN⟩ rfl rfl hl.1 rfl (lv_room (Nat.le_of_ble_eq_true rfl)) dX8_count_13 ⟨by first | exact Nat.le_of_ble_eq_true rfl | exact Nat.le_refl _, by first | exact Nat.le_of_ble_eq_true rfl | exact Nat.le_refl _⟩) hS (fun q _ h => hFc q h) hFc (fun u ra t H1 locs ht hvm h hB hz1 hk1 hS => ?_)
      obtain ⟨hra, hP1, hD1⟩ := hB
      try dsimp only at hra
      subst ra
      rw [ht] at hP1
      try dsimp only at h
      obtain ⟨hP, hD⟩ := va_join (wr := []) (w1 := [(h_a0, .inr (7, [w_a0_primes, w_a0_sieved, w_a0_parting, .ref h_a0_primeSums, w_a0_progression, w_a0_rows])), (h_a0_primeSums, .inr (2, [.ref q_a0_primeSums_low, .ref q_a0_primeSums_high])), (q_a0_primeSums_low, .inl (cJ, 1415, .inr (.inl a0_primeSums_low))), (q_a0_primeSums_high, .inl (cJ, 1415, .inr (.inl a0_primeSums_high)))]) hP hD [0, 1, 2, 3] [] rfl rfl (by decide) (by decide) hk1 hFc hP1 hD1
      generalize H1 = H at hP hS ⊢
      have hP : va_P (dC, dI) vwCl [(h_a0, .inr (7, [w_a0_primes, w_a0_sieved, w_a0_parting, .ref h_a0_primeSums, w_a0_progression, w_a0_rows])), (h_a0_primeSums, .inr (2, [.ref q_a0_primeSums_low, .ref q_a0_primeSums_high])), (q_a0_primeSums_low, .inl (cJ, 1415, .inr (.inl a0_primeSums_low))), (q_a0_primeSums_high, .inl (cJ, 1415, .inr (.inl a0_primeSums_high)))] H := hP
      have hD : va_D A [(h_a0, .inr (7, [w_a0_primes, w_a0_sieved, w_a0_parting, .ref h_a0_primeSums, w_a0_progression, w_a0_rows])), (h_a0_primeSums, .inr (2, [.ref q_a0_primeSums_low, .ref q_a0_primeSums_high])), (q_a0_primeSums_low, .inl (cJ, 1415, .inr (.inl a0_primeSums_low))), (q_a0_primeSums_high, .inl (cJ, 1415, .inr (.inl a0_primeSums_high)))] := hD
      refine lv_iload_n hx hb dX8_count_16 rfl (lv_at hl 1 rfl) ?_
      refine lv_iconst (v := (0 : Int32)) hx hb dX8_count_17 (by decide) ?_
      have hPc := hP.sub (ws' := [(h_a0_primeSums, .inr (2, [.ref q_a0_primeSums_low, .ref q_a0_primeSums_high])), (q_a0_primeSums_low, .inl (cJ, 1415, .inr (.inl a0_primeSums_low))), (q_a0_primeSums_high, .inl (cJ, 1415, .inr (.inl a0_primeSums_high)))]) [1, 2, 3] rfl
      have hDc := hD.sub (ws' := [(h_a0_primeSums, .inr (2, [.ref q_a0_primeSums_low, .ref q_a0_primeSums_high])), (q_a0_primeSums_low, .inl (cJ, 1415, .inr (.inl a0_primeSums_low))), (q_a0_primeSums_high, .inl (cJ, 1415, .inr (.inl a0_primeSums_high)))]) [1, 2, 3] (by decide) rfl
      have hFc := va_free (wc := [(h_a0_primeSums, .inr (2, [.ref q_a0_primeSums_low, .ref q_a0_primeSums_high])), (q_a0_primeSums_low, .inl (cJ, 1415, .inr (.inl a0_primeSums_low))), (q_a0_primeSums_high, .inl (cJ, 1415, .inr (.inl a0_primeSums_high)))]) hD hS hA [1, 2, 3] rfl
      refine va_calll (va_runV (As := [.int p1, .int (0 : Int32)]) (rest := []) ⟨hx, hb, hml, hown, hts⟩ (c_X2_total l dC dI cI cJ cZ _ h_a0_primeSums a0_primeSums_low q_a0_primeSums_low a0_primeSums_high q_a0_primeSums_high p1 (0 : Int32) _ h) (cwV 2 hts gX8_count_X2_total rfl rfl rfl (by decide +kernel) ⟨Nat.le_of_ble_eq_true rfl, Nat.le_of_ble_eq_true rfl⟩) ⟨pre_fb, va_recv hK hPc (ci := 2) (q0 := 0) rfl rfl, pre_of hPc hDc hK hN⟩ rfl rfl hl.1 rfl (lv_room (Nat.le_of_ble_eq_true rfl)) dX8_count_18 ⟨by first | exact Nat.le_of_ble_eq_true rfl | exact Nat.le_refl _, by first | exact Nat.le_of_ble_eq_true rfl | exact Nat.le_refl _⟩) hS (fun q _ h => hFc q h) hFc (fun r_3 u t H1 locs ht hvm h hB hz1 hk1 hS => ?_)
      obtain ⟨o_4, o_5⟩ := u
      obtain ⟨hP1, hD1⟩ := hB
      rw [ht] at hP1
      try dsimp only at h
      obtain ⟨hP, hD⟩ := va_join (wr := [(h_a0, .inr (7, [w_a0_primes, w_a0_sieved, w_a0_parting, .ref h_a0_primeSums, w_a0_progression, w_a0_rows]))]) (w1 := [(h_a0_primeSums, .inr (2, [.ref q_a0_primeSums_low, .ref q_a0_primeSums_high])), (q_a0_primeSums_low, .inl (cJ, 1415, .inr (.inl o_4))), (q_a0_primeSums_high, .inl (cJ, 1415, .inr (.inl o_5)))]) hP hD [1, 2, 3] [0] rfl rfl (by decide) (by decide) hk1 hFc hP1 hD1
      generalize H1 = H at hP hS ⊢
      have hP : va_P (dC, dI) vwCl [(h_a0, .inr (7, [w_a0_primes, w_a0_sieved, w_a0_parting, .ref h_a0_primeSums, w_a0_progression, w_a0_rows])), (h_a0_primeSums, .inr (2, [.ref q_a0_primeSums_low, .ref q_a0_primeSums_high])), (q_a0_primeSums_low, .inl (cJ, 1415, .inr (.inl o_4))), (q_a0_primeSums_high, .inl (cJ, 1415, .inr (.inl o_5)))] H := hP
      have hD : va_D A [(h_a0, .inr (7, [w_a0_primes, w_a0_sieved, w_a0_parting, .ref h_a0_primeSums, w_a0_progression, w_a0_rows])), (h_a0_primeSums, .inr (2, [.ref q_a0_primeSums_low, .ref q_a0_primeSums_high])), (q_a0_primeSums_low, .inl (cJ, 1415, .inr (.inl o_4))), (q_a0_primeSums_high, .inl (cJ, 1415, .inr (.inl o_5)))] := hD
      refine lv_l2i hx hb dX8_count_21 rfl ?_
      have hP9 := hP.sub (ws' := [(h_a0, .inr (7, [w_a0_primes, w_a0_sieved, w_a0_parting, .ref h_a0_primeSums, w_a0_progression, w_a0_rows])), (h_a0_primeSums, .inr (2, [.ref q_a0_primeSums_low, .ref q_a0_primeSums_high])), (q_a0_primeSums_low, .inl (cJ, 1415, .inr (.inl o_4))), (q_a0_primeSums_high, .inl (cJ, 1415, .inr (.inl o_5)))]) [0, 1, 2, 3] rfl
      have hD9 := hD.sub (ws' := [(h_a0, .inr (7, [w_a0_primes, w_a0_sieved, w_a0_parting, .ref h_a0_primeSums, w_a0_progression, w_a0_rows])), (h_a0_primeSums, .inr (2, [.ref q_a0_primeSums_low, .ref q_a0_primeSums_high])), (q_a0_primeSums_low, .inl (cJ, 1415, .inr (.inl o_4))), (q_a0_primeSums_high, .inl (cJ, 1415, .inr (.inl o_5)))]) [0, 1, 2, 3] (by decide) rfl
      exact W.iret (v := r_3.toInt32) hx hb hr (fun t ht hW => ⟨⟨_, (o_4, o_5), rfl, h, by rw [ht]; exact hP9, hD9⟩, hS.F ht⟩) hS.2.2 dX8_count_22
    · replace h := h.2 c_2
      refine lv_iconst (v := (-1 : Int32)) hx hb dX8_count_10 (by decide) ?_
      have hP9 := hP.sub (ws' := [(h_a0, .inr (7, [w_a0_primes, w_a0_sieved, w_a0_parting, .ref h_a0_primeSums, w_a0_progression, w_a0_rows])), (h_a0_primeSums, .inr (2, [.ref q_a0_primeSums_low, .ref q_a0_primeSums_high])), (q_a0_primeSums_low, .inl (cJ, 1415, .inr (.inl a0_primeSums_low))), (q_a0_primeSums_high, .inl (cJ, 1415, .inr (.inl a0_primeSums_high)))]) [0, 1, 2, 3] rfl
      have hD9 := hD.sub (ws' := [(h_a0, .inr (7, [w_a0_primes, w_a0_sieved, w_a0_parting, .ref h_a0_primeSums, w_a0_progression, w_a0_rows])), (h_a0_primeSums, .inr (2, [.ref q_a0_primeSums_low, .ref q_a0_primeSums_high])), (q_a0_primeSums_low, .inl (cJ, 1415, .inr (.inl a0_primeSums_low))), (q_a0_primeSums_high, .inl (cJ, 1415, .inr (.inl a0_primeSums_high)))]) [0, 1, 2, 3] (by decide) rfl
      exact W.iret (v := (-1 : Int32)) hx hb hr (fun t ht hW => ⟨⟨_, (a0_primeSums_low, a0_primeSums_high), rfl, h, by rw [ht]; exact hP9, hD9⟩, hS.F ht⟩) hS.2.2 dX8_count_11
def wp_X8_sum_c0 (mcP msP : Nat)  (p1 : Int32) (Q : Int64 → Option ((Nat → Int64) × (Nat → Int64)) → Prop) : Prop :=
  ((p1 < (0 : Int32) → Q (-1 : Int64) none) ∧ (¬ p1 < (0 : Int32) → ((p1 ≤ (2000000 : Int32) → (3 ≤ mcP ∧ 2832 ≤ msP ∧ wp_X8_knownSums_c0 (fun o_3 o_4 => wp_X2_total o_3 o_4 p1 (1 : Int32) (fun r_10 o_11 o_12 => Q r_10 (some (o_11, o_12)))))) ∧ (¬ p1 ≤ (2000000 : Int32) → Q (-1 : Int64) none))))
abbrev rm_X8_sum_c0 (mcP msP : Nat) : Room := { frames := 3, cells := mcP, slots := msP, locals := 78 }
abbrev qc_X8_sum_c0 (dC : Nat → ClassId) (dI : Nat → Nat → Nat) (cI cJ cZ : ClassId) (h_a0 : Nat) (w_a0_primes : Value) (w_a0_sieved : Value) (w_a0_parting : Value) (w_a0_progression : Value) (w_a0_rows : Value) (Q : Int64 → Option ((Nat → Int64) × (Nat → Int64)) → Prop) (A : Nat → Prop) : Array Value → State → Outcome → State → Prop := va_Ql (fun (r : Int64) (u : Option ((Nat × Nat × Nat) × ((Nat → Int64) × (Nat → Int64)))) => Q r (u.map Prod.snd)) (post_ dC dI A (fun (u : Option ((Nat × Nat × Nat) × ((Nat → Int64) × (Nat → Int64)))) => ([(h_a0, .inr (7, [w_a0_primes, w_a0_sieved, w_a0_parting, (match u with | none => Value.null | some w => Value.ref w.1.1), w_a0_progression, w_a0_rows]))] : va_W) ++ (match u with | none => ([] : va_W) | some w => [(w.1.1, .inr (2, [.ref w.1.2.1, .ref w.1.2.2])), (w.1.2.1, .inl (cJ, 1415, .inr (.inl (w.2.1)))), (w.1.2.2, .inl (cJ, 1415, .inr (.inl (w.2.2))))]))) A
set_option maxHeartbeats 4000000 in
set_option maxRecDepth 100000 in
theorem c_X8_sum_c0 (l : Launch) (dC : Nat → ClassId) (dI : Nat → Nat → Nat) (cI cJ cZ : ClassId) (sz : Nat) (mcP msP : Nat) (h_a0 : Nat) (w_a0_primes : Value) (w_a0_sieved : Value) (w_a0_parting : Value) (w_a0_progression : Value) (w_a0_rows : Value) (p1 : Int32) (Q : Int64 → Option ((Nat → Int64) × (Nat → Int64)) → Prop) (hQ : wp_X8_sum_c0 mcP msP p1 Q) : Met l yX8_sum wsX8_sum (rm_X8_sum_c0 mcP msP) (pre_ dC dI cI cJ cZ [.ref h_a0, .int p1] [(h_a0, .inr (7, [w_a0_primes, w_a0_sieved, w_a0_parting, .null, w_a0_progression, w_a0_rows]))] sz) (qc_X8_sum_c0 dC dI cI cJ cZ h_a0 w_a0_primes w_a0_sieved w_a0_parting w_a0_progression w_a0_rows Q (va_A [(h_a0, .inr (7, [w_a0_primes, w_a0_sieved, w_a0_parting, .null, w_a0_progression, w_a0_rows]))] sz)) mcP msP (va_A [(h_a0, .inr (7, [w_a0_primes, w_a0_sieved, w_a0_parting, .null, w_a0_progression, w_a0_rows]))] sz) := by
  refine Met.ofW (cc := cX8_sum) (maxL := 2) (ret := (some .long)) (by decide) rfl ?_
  intro p e s m args below meth c s₁ B hml hv
  obtain ⟨rfl, hsz, hP, hK, hN, hD0⟩ := hv
  have hx := B.exec
  have hb := B.bytes
  have hr := B.returns
  have hts := atoms_spec (ws := wsX8_sum) B.pre
  have hown : s.vm.findClass RX8 = some m.cls := findClass_of_methodNamed B.named
  subst hsz
  have hD := hD0.self (sz := s.heap.size)
  generalize hAe : va_A [(h_a0, .inr (7, [w_a0_primes, w_a0_sieved, w_a0_parting, .null, w_a0_progression, w_a0_rows]))] s.heap.size = A at hD ⊢
  have hA : ∀ q : Nat, s.heap.size ≤ q → A q := fun q h => by rw [← hAe]; exact Or.inr h
  have hS : va_S A s.heap s.heap [] := va_S.rf
  have hl := lv_entry ([.ref h_a0, .int p1]) (n := 2) (Nat.le_of_ble_eq_true rfl)
  rw [lg_entry_eq]
  generalize (lg_sl ([.ref h_a0, .int p1]) ++ List.replicate (2 - (lg_sl ([.ref h_a0, .int p1])).length) Slot.unset).toArray = ls at hl ⊢
  have hl : lv_has ls 2 [(0, .ref h_a0), (1, .int p1)] := hl
  have h := hQ
  unfold wp_X8_sum_c0 at h
  have hw_0 := hts (.constantLong RX8 109 (-1)) (by decide +kernel)
  have hw_1 := hts (.constant RX8 114 (2000000)) (by decide +kernel)
  refine lv_iload_n hx hb dX8_sum_0 rfl (lv_at hl 1 rfl) ?_
  refine lv_if_lt (tgt := 10) hx hb dX8_sum_1 (by decide) (fun c_1 => ?_) (fun c_1 => ?_)
  · replace h := h.1 c_1
    refine lv_ldc2 hx hb hown hw_0 dX8_sum_10 ?_
    have hP9 := hP.sub (ws' := [(h_a0, .inr (7, [w_a0_primes, w_a0_sieved, w_a0_parting, .null, w_a0_progression, w_a0_rows]))]) [0] rfl
    have hD9 := hD.sub (ws' := [(h_a0, .inr (7, [w_a0_primes, w_a0_sieved, w_a0_parting, .null, w_a0_progression, w_a0_rows]))]) [0] (by decide) rfl
    refine W.widen (k := mcP) (n := msP) (by first | omega | exact Nat.le_of_ble_eq_true rfl) (by first | omega | exact Nat.le_of_ble_eq_true rfl) ?_
    exact W.lret (v := (-1 : Int64)) hx hb hr (fun t ht hW => ⟨⟨_, none, rfl, h, by rw [ht]; exact hP9, hD9⟩, hS.F ht⟩) hS.2.2 dX8_sum_13
  · replace h := h.2 c_1
    refine lv_iload_n hx hb dX8_sum_4 rfl (lv_at hl 1 rfl) ?_
    refine lv_ldc hx hb hown hw_1 dX8_sum_5 ?_
    refine lv_icmp_le (tgt := 14) hx hb dX8_sum_7 (by decide) (fun c_2 => ?_) (fun c_2 => ?_)
    · replace h := h.1 c_2
      refine lv_aload_n hx hb dX8_sum_14 rfl (lv_at hl 0 rfl) ?_
      have hPc := hP.sub (ws' := [(h_a0, .inr (7, [w_a0_primes, w_a0_sieved, w_a0_parting, .null, w_a0_progression, w_a0_rows]))]) [0] rfl
      have hDc := hD.sub (ws' := [(h_a0, .inr (7, [w_a0_primes, w_a0_sieved, w_a0_parting, .null, w_a0_progression, w_a0_rows]))]) [0] (by decide) rfl
      have hFc := va_free (wc := [(h_a0, .inr (7, [w_a0_primes, w_a0_sieved, w_a0_parting, .null, w_a0_progression, w_a0_rows]))]) hD hS hA [0] rfl
      obtain ⟨hm_5, hm_6, h⟩ := h
      refine va_callr (va_runV (As := []) (rest := []) ⟨hx, hb, hml, hown, hts⟩ (c_X8_knownSums_c0 l dC dI cI cJ cZ _ h_a0 (w_a0_primes) (w_a0_sieved) (w_a0_parting) (w_a0_progression) (w_a0_rows) _ h) (cwV 0 hts gX8_sum_X8_knownSums rfl rfl rfl (by decide +kernel) ⟨Nat.le_of_ble_eq_true rfl, Nat.le_of_ble_eq_true rfl⟩) ⟨pre_fb, va_recv hK hPc (ci := 7) (q0 := 0) rfl rfl, pre_of hPc hDc hK hN⟩ rfl rfl hl.1 rfl (lv_room (Nat.le_of_ble_eq_true rfl)) dX8_sum_15 ⟨hm_5, hm_6⟩) hS (fun q _ h => hFc q h) hFc (fun u ra t H1 locs ht hvm h hB hz1 hk1 hS => ?_)
      obtain ⟨q_7, q_8, q_9, o_3, o_4⟩ := u
      obtain ⟨hra, hP1, hD1⟩ := hB
      try dsimp only at hra
      subst ra
      rw [ht] at hP1
      try dsimp only at h
      obtain ⟨hP, hD⟩ := va_join (wr := []) (w1 := [(h_a0, .inr (7, [w_a0_primes, w_a0_sieved, w_a0_parting, .ref q_7, w_a0_progression, w_a0_rows])), (q_7, .inr (2, [.ref q_8, .ref q_9])), (q_8, .inl (cJ, 1415, .inr (.inl o_3))), (q_9, .inl (cJ, 1415, .inr (.inl o_4)))]) hP hD [0] [] rfl rfl (by decide) (by decide) hk1 hFc hP1 hD1
      generalize H1 = H at hP hS ⊢
      have hP : va_P (dC, dI) vwCl [(h_a0, .inr (7, [w_a0_primes, w_a0_sieved, w_a0_parting, .ref q_7, w_a0_progression, w_a0_rows])), (q_7, .inr (2, [.ref q_8, .ref q_9])), (q_8, .inl (cJ, 1415, .inr (.inl o_3))), (q_9, .inl (cJ, 1415, .inr (.inl o_4)))] H := hP
      have hD : va_D A [(h_a0, .inr (7, [w_a0_primes, w_a0_sieved, w_a0_parting, .ref q_7, w_a0_progression, w_a0_rows])), (q_7, .inr (2, [.ref q_8, .ref q_9])), (q_8, .inl (cJ, 1415, .inr (.inl o_3))), (q_9, .inl (cJ, 1415, .inr (.inl o_4)))] := hD
      refine W.widen (k := 3) (n := 2832) (by omega) (by omega) ?_
      refine lv_iload_n hx hb dX8_sum_18 rfl (lv_at hl 1 rfl) ?_
      refine lv_iconst (v := (1 : Int32)) hx hb dX8_sum_19 (by decide) ?_
      have hPc := hP.sub (ws' := [(q_7, .inr (2, [.ref q_8, .ref q_9])), (q_8, .inl (cJ, 1415, .inr (.inl o_3))), (q_9, .inl (cJ, 1415, .inr (.inl o_4)))]) [1, 2, 3] rfl
      have hDc := hD.sub (ws' := [(q_7, .inr (2, [.ref q_8, .ref q_9])), (q_8, .inl (cJ, 1415, .inr (.inl o_3))), (q_9, .inl (cJ, 1415, .inr (.inl o_4)))]) [1, 2, 3] (by decide) rfl
      have hFc := va_free (wc := [(q_7, .inr (2, [.ref q_8, .ref q_9])), (q_8, .inl (cJ, 1415, .inr (.inl o_3))), (q_9, .inl (cJ, 1415, .inr (.inl o_4)))]) hD hS hA [1, 2, 3] rfl
      refine va_calll (va_runV (As := [.int p1, .int (1 : Int32)]) (rest := []) ⟨hx, hb, hml, hown, hts⟩ (c_X2_total l dC dI cI cJ cZ _ q_7 o_3 q_8 o_4 q_9 p1 (1 : Int32) _ h) (cwV 2 hts gX8_sum_X2_total rfl rfl rfl (by decide +kernel) ⟨Nat.le_of_ble_eq_true rfl, Nat.le_of_ble_eq_true rfl⟩) ⟨pre_fb, va_recv hK hPc (ci := 2) (q0 := 0) rfl rfl, pre_of hPc hDc hK hN⟩ rfl rfl hl.1 rfl (lv_room (Nat.le_of_ble_eq_true rfl)) dX8_sum_20 ⟨by show _ ≤ mcP; omega, by show _ ≤ msP; omega⟩) hS (fun q _ h => hFc q h) hFc (fun r_10 u t H1 locs ht hvm h hB hz1 hk1 hS => ?_)
      obtain ⟨o_11, o_12⟩ := u
      obtain ⟨hP1, hD1⟩ := hB
      rw [ht] at hP1
      try dsimp only at h
      obtain ⟨hP, hD⟩ := va_join (wr := [(h_a0, .inr (7, [w_a0_primes, w_a0_sieved, w_a0_parting, .ref q_7, w_a0_progression, w_a0_rows]))]) (w1 := [(q_7, .inr (2, [.ref q_8, .ref q_9])), (q_8, .inl (cJ, 1415, .inr (.inl o_11))), (q_9, .inl (cJ, 1415, .inr (.inl o_12)))]) hP hD [1, 2, 3] [0] rfl rfl (by decide) (by decide) hk1 hFc hP1 hD1
      generalize H1 = H at hP hS ⊢
      have hP : va_P (dC, dI) vwCl [(h_a0, .inr (7, [w_a0_primes, w_a0_sieved, w_a0_parting, .ref q_7, w_a0_progression, w_a0_rows])), (q_7, .inr (2, [.ref q_8, .ref q_9])), (q_8, .inl (cJ, 1415, .inr (.inl o_11))), (q_9, .inl (cJ, 1415, .inr (.inl o_12)))] H := hP
      have hD : va_D A [(h_a0, .inr (7, [w_a0_primes, w_a0_sieved, w_a0_parting, .ref q_7, w_a0_progression, w_a0_rows])), (q_7, .inr (2, [.ref q_8, .ref q_9])), (q_8, .inl (cJ, 1415, .inr (.inl o_11))), (q_9, .inl (cJ, 1415, .inr (.inl o_12)))] := hD
      have hP9 := hP.sub (ws' := [(h_a0, .inr (7, [w_a0_primes, w_a0_sieved, w_a0_parting, .ref q_7, w_a0_progression, w_a0_rows])), (q_7, .inr (2, [.ref q_8, .ref q_9])), (q_8, .inl (cJ, 1415, .inr (.inl o_11))), (q_9, .inl (cJ, 1415, .inr (.inl o_12)))]) [0, 1, 2, 3] rfl
      have hD9 := hD.sub (ws' := [(h_a0, .inr (7, [w_a0_primes, w_a0_sieved, w_a0_parting, .ref q_7, w_a0_progression, w_a0_rows])), (q_7, .inr (2, [.ref q_8, .ref q_9])), (q_8, .inl (cJ, 1415, .inr (.inl o_11))), (q_9, .inl (cJ, 1415, .inr (.inl o_12)))]) [0, 1, 2, 3] (by decide) rfl
      refine W.widen (k := mcP) (n := msP) (by first | omega | exact Nat.le_of_ble_eq_true rfl) (by first | omega | exact Nat.le_of_ble_eq_true rfl) ?_
      exact W.lret (v := r_10) hx hb hr (fun t ht hW => ⟨⟨_, some ((q_7, q_8, q_9), (o_11, o_12)), rfl, h, by rw [ht]; exact hP9, hD9⟩, hS.F ht⟩) hS.2.2 dX8_sum_23
    · replace h := h.2 c_2
      refine lv_ldc2 hx hb hown hw_0 dX8_sum_10 ?_
      have hP9 := hP.sub (ws' := [(h_a0, .inr (7, [w_a0_primes, w_a0_sieved, w_a0_parting, .null, w_a0_progression, w_a0_rows]))]) [0] rfl
      have hD9 := hD.sub (ws' := [(h_a0, .inr (7, [w_a0_primes, w_a0_sieved, w_a0_parting, .null, w_a0_progression, w_a0_rows]))]) [0] (by decide) rfl
      refine W.widen (k := mcP) (n := msP) (by first | omega | exact Nat.le_of_ble_eq_true rfl) (by first | omega | exact Nat.le_of_ble_eq_true rfl) ?_
      exact W.lret (v := (-1 : Int64)) hx hb hr (fun t ht hW => ⟨⟨_, none, rfl, h, by rw [ht]; exact hP9, hD9⟩, hS.F ht⟩) hS.2.2 dX8_sum_13
def wp_X8_sum_c1 (a0_primeSums_low : Nat → Int64) (a0_primeSums_high : Nat → Int64) (p1 : Int32) (Q : Int64 → (Nat → Int64) → (Nat → Int64) → Prop) : Prop :=
  ((p1 < (0 : Int32) → Q (-1 : Int64) a0_primeSums_low a0_primeSums_high) ∧ (¬ p1 < (0 : Int32) → ((p1 ≤ (2000000 : Int32) → wp_X8_knownSums_c1 (wp_X2_total a0_primeSums_low a0_primeSums_high p1 (1 : Int32) (fun r_3 o_4 o_5 => Q r_3 o_4 o_5))) ∧ (¬ p1 ≤ (2000000 : Int32) → Q (-1 : Int64) a0_primeSums_low a0_primeSums_high))))
abbrev rm_X8_sum_c1 : Room := { frames := 3, cells := 0, slots := 0, locals := 78 }
abbrev qc_X8_sum_c1 (dC : Nat → ClassId) (dI : Nat → Nat → Nat) (cI cJ cZ : ClassId) (h_a0 : Nat) (w_a0_primes : Value) (w_a0_sieved : Value) (w_a0_parting : Value) (h_a0_primeSums : Nat) (a0_primeSums_low : Nat → Int64) (q_a0_primeSums_low : Nat) (a0_primeSums_high : Nat → Int64) (q_a0_primeSums_high : Nat) (w_a0_progression : Value) (w_a0_rows : Value) (Q : Int64 → (Nat → Int64) → (Nat → Int64) → Prop) (A : Nat → Prop) : Array Value → State → Outcome → State → Prop := va_Ql (fun (r : Int64) (u : (Nat → Int64) × (Nat → Int64)) => Q r u.1 u.2) (post_ dC dI A (fun (u : (Nat → Int64) × (Nat → Int64)) => ([(h_a0, .inr (7, [w_a0_primes, w_a0_sieved, w_a0_parting, .ref h_a0_primeSums, w_a0_progression, w_a0_rows])), (h_a0_primeSums, .inr (2, [.ref q_a0_primeSums_low, .ref q_a0_primeSums_high])), (q_a0_primeSums_low, .inl (cJ, 1415, .inr (.inl (u.1)))), (q_a0_primeSums_high, .inl (cJ, 1415, .inr (.inl (u.2))))] : va_W))) A
set_option maxHeartbeats 4000000 in
set_option maxRecDepth 100000 in
theorem c_X8_sum_c1 (l : Launch) (dC : Nat → ClassId) (dI : Nat → Nat → Nat) (cI cJ cZ : ClassId) (sz : Nat) (h_a0 : Nat) (w_a0_primes : Value) (w_a0_sieved : Value) (w_a0_parting : Value) (h_a0_primeSums : Nat) (a0_primeSums_low : Nat → Int64) (q_a0_primeSums_low : Nat) (a0_primeSums_high : Nat → Int64) (q_a0_primeSums_high : Nat) (w_a0_progression : Value) (w_a0_rows : Value) (p1 : Int32) (Q : Int64 → (Nat → Int64) → (Nat → Int64) → Prop) (hQ : wp_X8_sum_c1 a0_primeSums_low a0_primeSums_high p1 Q) : Met l yX8_sum wsX8_sum rm_X8_sum_c1 (pre_ dC dI cI cJ cZ [.ref h_a0, .int p1] [(h_a0, .inr (7, [w_a0_primes, w_a0_sieved, w_a0_parting, .ref h_a0_primeSums, w_a0_progression, w_a0_rows])), (h_a0_primeSums, .inr (2, [.ref q_a0_primeSums_low, .ref q_a0_primeSums_high])), (q_a0_primeSums_low, .inl (cJ, 1415, .inr (.inl a0_primeSums_low))), (q_a0_primeSums_high, .inl (cJ, 1415, .inr (.inl a0_primeSums_high)))] sz) (qc_X8_sum_c1 dC dI cI cJ cZ h_a0 w_a0_primes w_a0_sieved w_a0_parting h_a0_primeSums a0_primeSums_low q_a0_primeSums_low a0_primeSums_high q_a0_primeSums_high w_a0_progression w_a0_rows Q (va_A [(h_a0, .inr (7, [w_a0_primes, w_a0_sieved, w_a0_parting, .ref h_a0_primeSums, w_a0_progression, w_a0_rows])), (h_a0_primeSums, .inr (2, [.ref q_a0_primeSums_low, .ref q_a0_primeSums_high])), (q_a0_primeSums_low, .inl (cJ, 1415, .inr (.inl a0_primeSums_low))), (q_a0_primeSums_high, .inl (cJ, 1415, .inr (.inl a0_primeSums_high)))] sz)) 0 0 (va_A [(h_a0, .inr (7, [w_a0_primes, w_a0_sieved, w_a0_parting, .ref h_a0_primeSums, w_a0_progression, w_a0_rows])), (h_a0_primeSums, .inr (2, [.ref q_a0_primeSums_low, .ref q_a0_primeSums_high])), (q_a0_primeSums_low, .inl (cJ, 1415, .inr (.inl a0_primeSums_low))), (q_a0_primeSums_high, .inl (cJ, 1415, .inr (.inl a0_primeSums_high)))] sz) := by
  refine Met.ofW (cc := cX8_sum) (maxL := 2) (ret := (some .long)) (by decide) rfl ?_
  intro p e s m args below meth c s₁ B hml hv
  obtain ⟨rfl, hsz, hP, hK, hN, hD0⟩ := hv
  have hx := B.exec
  have hb := B.bytes
  have hr := B.returns
  have hts := atoms_spec (ws := wsX8_sum) B.pre
  have hown : s.vm.findClass RX8 = some m.cls := findClass_of_methodNamed B.named
  subst hsz
  have hD := hD0.self (sz := s.heap.size)
  generalize hAe : va_A [(h_a0, .inr (7, [w_a0_primes, w_a0_sieved, w_a0_parting, .ref h_a0_primeSums, w_a0_progression, w_a0_rows])), (h_a0_primeSums, .inr (2, [.ref q_a0_primeSums_low, .ref q_a0_primeSums_high])), (q_a0_primeSums_low, .inl (cJ, 1415, .inr (.inl a0_primeSums_low))), (q_a0_primeSums_high, .inl (cJ, 1415, .inr (.inl a0_primeSums_high)))] s.heap.size = A at hD ⊢
  have hA : ∀ q : Nat, s.heap.size ≤ q → A q := fun q h => by rw [← hAe]; exact Or.inr h
  have hS : va_S A s.heap s.heap [] := va_S.rf
  have hl := lv_entry ([.ref h_a0, .int p1]) (n := 2) (Nat.le_of_ble_eq_true rfl)
  rw [lg_entry_eq]
  generalize (lg_sl ([.ref h_a0, .int p1]) ++ List.replicate (2 - (lg_sl ([.ref h_a0, .int p1])).length) Slot.unset).toArray = ls at hl ⊢
  have hl : lv_has ls 2 [(0, .ref h_a0), (1, .int p1)] := hl
  have h := hQ
  unfold wp_X8_sum_c1 at h
  have hw_0 := hts (.constantLong RX8 109 (-1)) (by decide +kernel)
  have hw_1 := hts (.constant RX8 114 (2000000)) (by decide +kernel)
  refine lv_iload_n hx hb dX8_sum_0 rfl (lv_at hl 1 rfl) ?_
  refine lv_if_lt (tgt := 10) hx hb dX8_sum_1 (by decide) (fun c_1 => ?_) (fun c_1 => ?_)
  · replace h := h.1 c_1
    refine lv_ldc2 hx hb hown hw_0 dX8_sum_10 ?_
    have hP9 := hP.sub (ws' := [(h_a0, .inr (7, [w_a0_primes, w_a0_sieved, w_a0_parting, .ref h_a0_primeSums, w_a0_progression, w_a0_rows])), (h_a0_primeSums, .inr (2, [.ref q_a0_primeSums_low, .ref q_a0_primeSums_high])), (q_a0_primeSums_low, .inl (cJ, 1415, .inr (.inl a0_primeSums_low))), (q_a0_primeSums_high, .inl (cJ, 1415, .inr (.inl a0_primeSums_high)))]) [0, 1, 2, 3] rfl
    have hD9 := hD.sub (ws' := [(h_a0, .inr (7, [w_a0_primes, w_a0_sieved, w_a0_parting, .ref h_a0_primeSums, w_a0_progression, w_a0_rows])), (h_a0_primeSums, .inr (2, [.ref q_a0_primeSums_low, .ref q_a0_primeSums_high])), (q_a0_primeSums_low, .inl (cJ, 1415, .inr (.inl a0_primeSums_low))), (q_a0_primeSums_high, .inl (cJ, 1415, .inr (.inl a0_primeSums_high)))]) [0, 1, 2, 3] (by decide) rfl
    exact W.lret (v := (-1 : Int64)) hx hb hr (fun t ht hW => ⟨⟨_, (a0_primeSums_low, a0_primeSums_high), rfl, h, by rw [ht]; exact hP9, hD9⟩, hS.F ht⟩) hS.2.2 dX8_sum_13
  · replace h := h.2 c_1
    refine lv_iload_n hx hb dX8_sum_4 rfl (lv_at hl 1 rfl) ?_
    refine lv_ldc hx hb hown hw_1 dX8_sum_5 ?_
    refine lv_icmp_le (tgt := 14) hx hb dX8_sum_7 (by decide) (fun c_2 => ?_) (fun c_2 => ?_)
    · replace h := h.1 c_2
      refine lv_aload_n hx hb dX8_sum_14 rfl (lv_at hl 0 rfl) ?_
      have hPc := hP.sub (ws' := [(h_a0, .inr (7, [w_a0_primes, w_a0_sieved, w_a0_parting, .ref h_a0_primeSums, w_a0_progression, w_a0_rows])), (h_a0_primeSums, .inr (2, [.ref q_a0_primeSums_low, .ref q_a0_primeSums_high])), (q_a0_primeSums_low, .inl (cJ, 1415, .inr (.inl a0_primeSums_low))), (q_a0_primeSums_high, .inl (cJ, 1415, .inr (.inl a0_primeSums_high)))]) [0, 1, 2, 3] rfl
      have hDc := hD.sub (ws' := [(h_a0, .inr (7, [w_a0_primes, w_a0_sieved, w_a0_parting, .ref h_a0_primeSums, w_a0_progression, w_a0_rows])), (h_a0_primeSums, .inr (2, [.ref q_a0_primeSums_low, .ref q_a0_primeSums_high])), (q_a0_primeSums_low, .inl (cJ, 1415, .inr (.inl a0_primeSums_low))), (q_a0_primeSums_high, .inl (cJ, 1415, .inr (.inl a0_primeSums_high)))]) [0, 1, 2, 3] (by decide) rfl
      have hFc := va_free (wc := [(h_a0, .inr (7, [w_a0_primes, w_a0_sieved, w_a0_parting, .ref h_a0_primeSums, w_a0_progression, w_a0_rows])), (h_a0_primeSums, .inr (2, [.ref q_a0_primeSums_low, .ref q_a0_primeSums_high])), (q_a0_primeSums_low, .inl (cJ, 1415, .inr (.inl a0_primeSums_low))), (q_a0_primeSums_high, .inl (cJ, 1415, .inr (.inl a0_primeSums_high)))]) hD hS hA [0, 1, 2, 3] rfl
      refine va_callr (va_runV (As := []) (rest := []) ⟨hx, hb, hml, hown, hts⟩ (c_X8_knownSums_c1 l dC dI cI cJ cZ _ h_a0 (w_a0_primes) (w_a0_sieved) (w_a0_parting) h_a0_primeSums a0_primeSums_low q_a0_primeSums_low a0_primeSums_high q_a0_primeSums_high (w_a0_progression) (w_a0_rows) _ h) (cwV 0 hts gX8_sum_X8_knownSums rfl rfl rfl (by decide +kernel) ⟨Nat.le_of_ble_eq_true rfl, Nat.le_of_ble_eq_true rfl⟩) ⟨pre_fb, va_recv hK hPc (ci := 7) (q0 := 0) rfl rfl, pre_of hPc hDc hK hN⟩ rfl rfl hl.1 rfl (lv_room (Nat.le_of_ble_eq_true rfl)) dX8_sum_15 ⟨by first | exact Nat.le_of_ble_eq_true rfl | exact Nat.le_refl _, by first | exact Nat.le_of_ble_eq_true rfl | exact Nat.le_refl _⟩) hS (fun q _ h => hFc q h) hFc (fun u ra t H1 locs ht hvm h hB hz1 hk1 hS => ?_)
      obtain ⟨hra, hP1, hD1⟩ := hB
      try dsimp only at hra
      subst ra
      rw [ht] at hP1
      try dsimp only at h
      obtain ⟨hP, hD⟩ := va_join (wr := []) (w1 := [(h_a0, .inr (7, [w_a0_primes, w_a0_sieved, w_a0_parting, .ref h_a0_primeSums, w_a0_progression, w_a0_rows])), (h_a0_primeSums, .inr (2, [.ref q_a0_primeSums_low, .ref q_a0_primeSums_high])), (q_a0_primeSums_low, .inl (cJ, 1415, .inr (.inl a0_primeSums_low))), (q_a0_primeSums_high, .inl (cJ, 1415, .inr (.inl a0_primeSums_high)))]) hP hD [0, 1, 2, 3] [] rfl rfl (by decide) (by decide) hk1 hFc hP1 hD1
      generalize H1 = H at hP hS ⊢
      have hP : va_P (dC, dI) vwCl [(h_a0, .inr (7, [w_a0_primes, w_a0_sieved, w_a0_parting, .ref h_a0_primeSums, w_a0_progression, w_a0_rows])), (h_a0_primeSums, .inr (2, [.ref q_a0_primeSums_low, .ref q_a0_primeSums_high])), (q_a0_primeSums_low, .inl (cJ, 1415, .inr (.inl a0_primeSums_low))), (q_a0_primeSums_high, .inl (cJ, 1415, .inr (.inl a0_primeSums_high)))] H := hP
      have hD : va_D A [(h_a0, .inr (7, [w_a0_primes, w_a0_sieved, w_a0_parting, .ref h_a0_primeSums, w_a0_progression, w_a0_rows])), (h_a0_primeSums, .inr (2, [.ref q_a0_primeSums_low, .ref q_a0_primeSums_high])), (q_a0_primeSums_low, .inl (cJ, 1415, .inr (.inl a0_primeSums_low))), (q_a0_primeSums_high, .inl (cJ, 1415, .inr (.inl a0_primeSums_high)))] := hD
      refine lv_iload_n hx hb dX8_sum_18 rfl (lv_at hl 1 rfl) ?_
      refine lv_iconst (v := (1 : Int32)) hx hb dX8_sum_19 (by decide) ?_
      have hPc := hP.sub (ws' := [(h_a0_primeSums, .inr (2, [.ref q_a0_primeSums_low, .ref q_a0_primeSums_high])), (q_a0_primeSums_low, .inl (cJ, 1415, .inr (.inl a0_primeSums_low))), (q_a0_primeSums_high, .inl (cJ, 1415, .inr (.inl a0_primeSums_high)))]) [1, 2, 3] rfl
      have hDc := hD.sub (ws' := [(h_a0_primeSums, .inr (2, [.ref q_a0_primeSums_low, .ref q_a0_primeSums_high])), (q_a0_primeSums_low, .inl (cJ, 1415, .inr (.inl a0_primeSums_low))), (q_a0_primeSums_high, .inl (cJ, 1415, .inr (.inl a0_primeSums_high)))]) [1, 2, 3] (by decide) rfl
      have hFc := va_free (wc := [(h_a0_primeSums, .inr (2, [.ref q_a0_primeSums_low, .ref q_a0_primeSums_high])), (q_a0_primeSums_low, .inl (cJ, 1415, .inr (.inl a0_primeSums_low))), (q_a0_primeSums_high, .inl (cJ, 1415, .inr (.inl a0_primeSums_high)))]) hD hS hA [1, 2, 3] rfl
      refine va_calll (va_runV (As := [.int p1, .int (1 : Int32)]) (rest := []) ⟨hx, hb, hml, hown, hts⟩ (c_X2_total l dC dI cI cJ cZ _ h_a0_primeSums a0_primeSums_low q_a0_primeSums_low a0_primeSums_high q_a0_primeSums_high p1 (1 : Int32) _ h) (cwV 2 hts gX8_sum_X2_total rfl rfl rfl (by decide +kernel) ⟨Nat.le_of_ble_eq_true rfl, Nat.le_of_ble_eq_true rfl⟩) ⟨pre_fb, va_recv hK hPc (ci := 2) (q0 := 0) rfl rfl, pre_of hPc hDc hK hN⟩ rfl rfl hl.1 rfl (lv_room (Nat.le_of_ble_eq_true rfl)) dX8_sum_20 ⟨by first | exact Nat.le_of_ble_eq_true rfl | exact Nat.le_refl _, by first | exact Nat.le_of_ble_eq_true rfl | exact Nat.le_refl _⟩) hS (fun q _ h => hFc q h) hFc (fun r_3 u t H1 locs ht hvm h hB hz1 hk1 hS => ?_)
      obtain ⟨o_4, o_5⟩ := u
      obtain ⟨hP1, hD1⟩ := hB
      rw [ht] at hP1
      try dsimp only at h
      obtain ⟨hP, hD⟩ := va_join (wr := [(h_a0, .inr (7, [w_a0_primes, w_a0_sieved, w_a0_parting, .ref h_a0_primeSums, w_a0_progression, w_a0_rows]))]) (w1 := [(h_a0_primeSums, .inr (2, [.ref q_a0_primeSums_low, .ref q_a0_primeSums_high])), (q_a0_primeSums_low, .inl (cJ, 1415, .inr (.inl o_4))), (q_a0_primeSums_high, .inl (cJ, 1415, .inr (.inl o_5)))]) hP hD [1, 2, 3] [0] rfl rfl (by decide) (by decide) hk1 hFc hP1 hD1
      generalize H1 = H at hP hS ⊢
      have hP : va_P (dC, dI) vwCl [(h_a0, .inr (7, [w_a0_primes, w_a0_sieved, w_a0_parting, .ref h_a0_primeSums, w_a0_progression, w_a0_rows])), (h_a0_primeSums, .inr (2, [.ref q_a0_primeSums_low, .ref q_a0_primeSums_high])), (q_a0_primeSums_low, .inl (cJ, 1415, .inr (.inl o_4))), (q_a0_primeSums_high, .inl (cJ, 1415, .inr (.inl o_5)))] H := hP
      have hD : va_D A [(h_a0, .inr (7, [w_a0_primes, w_a0_sieved, w_a0_parting, .ref h_a0_primeSums, w_a0_progression, w_a0_rows])), (h_a0_primeSums, .inr (2, [.ref q_a0_primeSums_low, .ref q_a0_primeSums_high])), (q_a0_primeSums_low, .inl (cJ, 1415, .inr (.inl o_4))), (q_a0_primeSums_high, .inl (cJ, 1415, .inr (.inl o_5)))] := hD
      have hP9 := hP.sub (ws' := [(h_a0, .inr (7, [w_a0_primes, w_a0_sieved, w_a0_parting, .ref h_a0_primeSums, w_a0_progression, w_a0_rows])), (h_a0_primeSums, .inr (2, [.ref q_a0_primeSums_low, .ref q_a0_primeSums_high])), (q_a0_primeSums_low, .inl (cJ, 1415, .inr (.inl o_4))), (q_a0_primeSums_high, .inl (cJ, 1415, .inr (.inl o_5)))]) [0, 1, 2, 3] rfl
      have hD9 := hD.sub (ws' := [(h_a0, .inr (7, [w_a0_primes, w_a0_sieved, w_a0_parting, .ref h_a0_primeSums, w_a0_progression, w_a0_rows])), (h_a0_primeSums, .inr (2, [.ref q_a0_primeSums_low, .ref q_a0_primeSums_high])), (q_a0_primeSums_low, .inl (cJ, 1415, .inr (.inl o_4))), (q_a0_primeSums_high, .inl (cJ, 1415, .inr (.inl o_5)))]) [0, 1, 2, 3] (by decide) rfl
      exact W.lret (v := r_3) hx hb hr (fun t ht hW => ⟨⟨_, (o_4, o_5), rfl, h, by rw [ht]; exact hP9, hD9⟩, hS.F ht⟩) hS.2.2 dX8_sum_23
    · replace h := h.2 c_2
      refine lv_ldc2 hx hb hown hw_0 dX8_sum_10 ?_
      have hP9 := hP.sub (ws' := [(h_a0, .inr (7, [w_a0_primes, w_a0_sieved, w_a0_parting, .ref h_a0_primeSums, w_a0_progression, w_a0_rows])), (h_a0_primeSums, .inr (2, [.ref q_a0_primeSums_low, .ref q_a0_primeSums_high])), (q_a0_primeSums_low, .inl (cJ, 1415, .inr (.inl a0_primeSums_low))), (q_a0_primeSums_high, .inl (cJ, 1415, .inr (.inl a0_primeSums_high)))]) [0, 1, 2, 3] rfl
      have hD9 := hD.sub (ws' := [(h_a0, .inr (7, [w_a0_primes, w_a0_sieved, w_a0_parting, .ref h_a0_primeSums, w_a0_progression, w_a0_rows])), (h_a0_primeSums, .inr (2, [.ref q_a0_primeSums_low, .ref q_a0_primeSums_high])), (q_a0_primeSums_low, .inl (cJ, 1415, .inr (.inl a0_primeSums_low))), (q_a0_primeSums_high, .inl (cJ, 1415, .inr (.inl a0_primeSums_high)))]) [0, 1, 2, 3] (by decide) rfl
      exact W.lret (v := (-1 : Int64)) hx hb hr (fun t ht hW => ⟨⟨_, (a0_primeSums_low, a0_primeSums_high), rfl, h, by rw [ht]; exact hP9, hD9⟩, hS.F ht⟩) hS.2.2 dX8_sum_13
def wp_X8_floors  (p1 : Int32) (p2 : Int32) (p3 : Int32) (p4 : Int32) (Q : Int64 → Prop) : Prop :=
  ((p1 < (0 : Int32) → Q (-1 : Int64)) ∧ (¬ p1 < (0 : Int32) → (((1000000000 : Int32) < p1 → Q (-1 : Int64)) ∧ (¬ (1000000000 : Int32) < p1 → ((p2 < (0 : Int32) → Q (-1 : Int64)) ∧ (¬ p2 < (0 : Int32) → (((1000000 : Int32) < p2 → Q (-1 : Int64)) ∧ (¬ (1000000 : Int32) < p2 → ((p3 < (0 : Int32) → Q (-1 : Int64)) ∧ (¬ p3 < (0 : Int32) → ((p3 ≤ (1000000 : Int32) → ((p4 < (1 : Int32) → Q (-1 : Int64)) ∧ (¬ p4 < (1 : Int32) → ((p4 ≤ (1000000 : Int32) → wp_X7_floorSum (p1.toInt64) (p2.toInt64) (p3.toInt64) (p4.toInt64) (fun r_9 => Q r_9)) ∧ (¬ p4 ≤ (1000000 : Int32) → Q (-1 : Int64)))))) ∧ (¬ p3 ≤ (1000000 : Int32) → Q (-1 : Int64)))))))))))))
abbrev rm_X8_floors : Room := { frames := 1, cells := 0, slots := 0, locals := 34 }
abbrev qc_X8_floors (dC : Nat → ClassId) (dI : Nat → Nat → Nat) (cI cJ cZ : ClassId) (h_a0 : Nat) (w_a0_primes : Value) (w_a0_sieved : Value) (w_a0_parting : Value) (w_a0_primeSums : Value) (w_a0_progression : Value) (w_a0_rows : Value) (Q : Int64 → Prop) (A : Nat → Prop) : Array Value → State → Outcome → State → Prop := va_Ql (fun (r : Int64) (_ : Unit) => Q r) (post_ dC dI A (fun (u : Unit) => ([(h_a0, .inr (7, [w_a0_primes, w_a0_sieved, w_a0_parting, w_a0_primeSums, w_a0_progression, w_a0_rows]))] : va_W))) A
set_option maxHeartbeats 4000000 in
set_option maxRecDepth 100000 in
theorem c_X8_floors (l : Launch) (dC : Nat → ClassId) (dI : Nat → Nat → Nat) (cI cJ cZ : ClassId) (sz : Nat) (h_a0 : Nat) (w_a0_primes : Value) (w_a0_sieved : Value) (w_a0_parting : Value) (w_a0_primeSums : Value) (w_a0_progression : Value) (w_a0_rows : Value) (p1 : Int32) (p2 : Int32) (p3 : Int32) (p4 : Int32) (Q : Int64 → Prop) (hQ : wp_X8_floors p1 p2 p3 p4 Q) : Met l yX8_floors wsX8_floors rm_X8_floors (pre_ dC dI cI cJ cZ [.ref h_a0, .int p1, .int p2, .int p3, .int p4] [(h_a0, .inr (7, [w_a0_primes, w_a0_sieved, w_a0_parting, w_a0_primeSums, w_a0_progression, w_a0_rows]))] sz) (qc_X8_floors dC dI cI cJ cZ h_a0 w_a0_primes w_a0_sieved w_a0_parting w_a0_primeSums w_a0_progression w_a0_rows Q (va_A [(h_a0, .inr (7, [w_a0_primes, w_a0_sieved, w_a0_parting, w_a0_primeSums, w_a0_progression, w_a0_rows]))] sz)) 0 0 (va_A [(h_a0, .inr (7, [w_a0_primes, w_a0_sieved, w_a0_parting, w_a0_primeSums, w_a0_progression, w_a0_rows]))] sz) := by
  refine Met.ofW (cc := cX8_floors) (maxL := 5) (ret := (some .long)) (by decide) rfl ?_
  intro p e s m args below meth c s₁ B hml hv
  obtain ⟨rfl, hsz, hP, hK, hN, hD0⟩ := hv
  have hx := B.exec
  have hb := B.bytes
  have hr := B.returns
  have hts := atoms_spec (ws := wsX8_floors) B.pre
  have hown : s.vm.findClass RX8 = some m.cls := findClass_of_methodNamed B.named
  subst hsz
  have hD := hD0.self (sz := s.heap.size)
  generalize hAe : va_A [(h_a0, .inr (7, [w_a0_primes, w_a0_sieved, w_a0_parting, w_a0_primeSums, w_a0_progression, w_a0_rows]))] s.heap.size = A at hD ⊢
  have hA : ∀ q : Nat, s.heap.size ≤ q → A q := fun q h => by rw [← hAe]; exact Or.inr h
  have hS : va_S A s.heap s.heap [] := va_S.rf
  have hl := lv_entry ([.ref h_a0, .int p1, .int p2, .int p3, .int p4]) (n := 5) (Nat.le_of_ble_eq_true rfl)
  rw [lg_entry_eq]
  generalize (lg_sl ([.ref h_a0, .int p1, .int p2, .int p3, .int p4]) ++ List.replicate (5 - (lg_sl ([.ref h_a0, .int p1, .int p2, .int p3, .int p4])).length) Slot.unset).toArray = ls at hl ⊢
  have hl : lv_has ls 5 [(0, .ref h_a0), (1, .int p1), (2, .int p2), (3, .int p3), (4, .int p4)] := hl
  have h := hQ
  unfold wp_X8_floors at h
  have hw_0 := hts (.constantLong RX8 109 (-1)) (by decide +kernel)
  have hw_1 := hts (.constant RX8 135 (1000000000)) (by decide +kernel)
  have hw_2 := hts (.constant RX8 136 (1000000)) (by decide +kernel)
  refine lv_iload_n hx hb dX8_floors_0 rfl (lv_at hl 1 rfl) ?_
  refine lv_if_lt (tgt := 30) hx hb dX8_floors_1 (by decide) (fun c_1 => ?_) (fun c_1 => ?_)
  · replace h := h.1 c_1
    refine lv_ldc2 hx hb hown hw_0 dX8_floors_30 ?_
    have hP9 := hP.sub (ws' := [(h_a0, .inr (7, [w_a0_primes, w_a0_sieved, w_a0_parting, w_a0_primeSums, w_a0_progression, w_a0_rows]))]) [0] rfl
    have hD9 := hD.sub (ws' := [(h_a0, .inr (7, [w_a0_primes, w_a0_sieved, w_a0_parting, w_a0_primeSums, w_a0_progression, w_a0_rows]))]) [0] (by decide) rfl
    exact W.lret (v := (-1 : Int64)) hx hb hr (fun t ht hW => ⟨⟨_, (), rfl, h, by rw [ht]; exact hP9, hD9⟩, hS.F ht⟩) hS.2.2 dX8_floors_33
  · replace h := h.2 c_1
    refine lv_iload_n hx hb dX8_floors_4 rfl (lv_at hl 1 rfl) ?_
    refine lv_ldc hx hb hown hw_1 dX8_floors_5 ?_
    refine lv_icmp_gt (tgt := 30) hx hb dX8_floors_7 (by decide) (fun c_2 => ?_) (fun c_2 => ?_)
    · replace h := h.1 c_2
      refine lv_ldc2 hx hb hown hw_0 dX8_floors_30 ?_
      have hP9 := hP.sub (ws' := [(h_a0, .inr (7, [w_a0_primes, w_a0_sieved, w_a0_parting, w_a0_primeSums, w_a0_progression, w_a0_rows]))]) [0] rfl
      have hD9 := hD.sub (ws' := [(h_a0, .inr (7, [w_a0_primes, w_a0_sieved, w_a0_parting, w_a0_primeSums, w_a0_progression, w_a0_rows]))]) [0] (by decide) rfl
      exact W.lret (v := (-1 : Int64)) hx hb hr (fun t ht hW => ⟨⟨_, (), rfl, h, by rw [ht]; exact hP9, hD9⟩, hS.F ht⟩) hS.2.2 dX8_floors_33
    · replace h := h.2 c_2
      refine lv_iload_n hx hb dX8_floors_10 rfl (lv_at hl 2 rfl) ?_
      refine lv_if_lt (tgt := 30) hx hb dX8_floors_11 (by decide) (fun c_3 => ?_) (fun c_3 => ?_)
      · replace h := h.1 c_3
        refine lv_ldc2 hx hb hown hw_0 dX8_floors_30 ?_
        have hP9 := hP.sub (ws' := [(h_a0, .inr (7, [w_a0_primes, w_a0_sieved, w_a0_parting, w_a0_primeSums, w_a0_progression, w_a0_rows]))]) [0] rfl
        have hD9 := hD.sub (ws' := [(h_a0, .inr (7, [w_a0_primes, w_a0_sieved, w_a0_parting, w_a0_primeSums, w_a0_progression, w_a0_rows]))]) [0] (by decide) rfl
        exact W.lret (v := (-1 : Int64)) hx hb hr (fun t ht hW => ⟨⟨_, (), rfl, h, by rw [ht]; exact hP9, hD9⟩, hS.F ht⟩) hS.2.2 dX8_floors_33
      · replace h := h.2 c_3
        refine lv_iload_n hx hb dX8_floors_14 rfl (lv_at hl 2 rfl) ?_
        refine lv_ldc hx hb hown hw_2 dX8_floors_15 ?_
        refine lv_icmp_gt (tgt := 30) hx hb dX8_floors_17 (by decide) (fun c_4 => ?_) (fun c_4 => ?_)
        · replace h := h.1 c_4
          refine lv_ldc2 hx hb hown hw_0 dX8_floors_30 ?_
          have hP9 := hP.sub (ws' := [(h_a0, .inr (7, [w_a0_primes, w_a0_sieved, w_a0_parting, w_a0_primeSums, w_a0_progression, w_a0_rows]))]) [0] rfl
          have hD9 := hD.sub (ws' := [(h_a0, .inr (7, [w_a0_primes, w_a0_sieved, w_a0_parting, w_a0_primeSums, w_a0_progression, w_a0_rows]))]) [0] (by decide) rfl
          exact W.lret (v := (-1 : Int64)) hx hb hr (fun t ht hW => ⟨⟨_, (), rfl, h, by rw [ht]; exact hP9, hD9⟩, hS.F ht⟩) hS.2.2 dX8_floors_33
        · replace h := h.2 c_4
          refine lv_iload_n hx hb dX8_floors_20 rfl (lv_at hl 3 rfl) ?_
          refine lv_if_lt (tgt := 30) hx hb dX8_floors_21 (by decide) (fun c_5 => ?_) (fun c_5 => ?_)
          · replace h := h.1 c_5
            refine lv_ldc2 hx hb hown hw_0 dX8_floors_30 ?_
            have hP9 := hP.sub (ws' := [(h_a0, .inr (7, [w_a0_primes, w_a0_sieved, w_a0_parting, w_a0_primeSums, w_a0_progression, w_a0_rows]))]) [0] rfl
            have hD9 := hD.sub (ws' := [(h_a0, .inr (7, [w_a0_primes, w_a0_sieved, w_a0_parting, w_a0_primeSums, w_a0_progression, w_a0_rows]))]) [0] (by decide) rfl
            exact W.lret (v := (-1 : Int64)) hx hb hr (fun t ht hW => ⟨⟨_, (), rfl, h, by rw [ht]; exact hP9, hD9⟩, hS.F ht⟩) hS.2.2 dX8_floors_33
          · replace h := h.2 c_5
            refine lv_iload_n hx hb dX8_floors_24 rfl (lv_at hl 3 rfl) ?_
            refine lv_ldc hx hb hown hw_2 dX8_floors_25 ?_
            refine lv_icmp_le (tgt := 34) hx hb dX8_floors_27 (by decide) (fun c_6 => ?_) (fun c_6 => ?_)
            · replace h := h.1 c_6
              refine lv_iload hx hb dX8_floors_34 (lv_at hl 4 rfl) ?_
              refine lv_iconst (v := (1 : Int32)) hx hb dX8_floors_36 (by decide) ?_
              refine lv_icmp_lt (tgt := 47) hx hb dX8_floors_37 (by decide) (fun c_7 => ?_) (fun c_7 => ?_)
              · replace h := h.1 c_7
                refine lv_ldc2 hx hb hown hw_0 dX8_floors_47 ?_
                have hP9 := hP.sub (ws' := [(h_a0, .inr (7, [w_a0_primes, w_a0_sieved, w_a0_parting, w_a0_primeSums, w_a0_progression, w_a0_rows]))]) [0] rfl
                have hD9 := hD.sub (ws' := [(h_a0, .inr (7, [w_a0_primes, w_a0_sieved, w_a0_parting, w_a0_primeSums, w_a0_progression, w_a0_rows]))]) [0] (by decide) rfl
                exact W.lret (v := (-1 : Int64)) hx hb hr (fun t ht hW => ⟨⟨_, (), rfl, h, by rw [ht]; exact hP9, hD9⟩, hS.F ht⟩) hS.2.2 dX8_floors_50
              · replace h := h.2 c_7
                refine lv_iload hx hb dX8_floors_40 (lv_at hl 4 rfl) ?_
                refine lv_ldc hx hb hown hw_2 dX8_floors_42 ?_
                refine lv_icmp_le (tgt := 51) hx hb dX8_floors_44 (by decide) (fun c_8 => ?_) (fun c_8 => ?_)
                · replace h := h.1 c_8
                  refine lv_iload_n hx hb dX8_floors_51 rfl (lv_at hl 1 rfl) ?_
                  refine lv_i2l hx hb dX8_floors_52 rfl ?_
                  refine lv_iload_n hx hb dX8_floors_53 rfl (lv_at hl 2 rfl) ?_
                  refine lv_i2l hx hb dX8_floors_54 rfl ?_
                  refine lv_iload_n hx hb dX8_floors_55 rfl (lv_at hl 3 rfl) ?_
                  refine lv_i2l hx hb dX8_floors_56 rfl ?_
                  refine lv_iload hx hb dX8_floors_57 (lv_at hl 4 rfl) ?_
                  refine lv_i2l hx hb dX8_floors_59 rfl ?_
                  have hPc := hP.sub (ws' := []) [] rfl
                  have hDc := hD.sub (ws' := []) [] (by decide) rfl
                  have hFc := va_free (wc := []) hD hS hA [] rfl
                  refine va_calll (va_runS (As := [.long p1.toInt64, .long p2.toInt64, .long p3.toInt64, .long p4.toInt64]) (rest := []) ⟨hx, hb, hml, hown, hts⟩ (c_X7_floorSum l dC dI cI cJ cZ _ (p1.toInt64) (p2.toInt64) (p3.toInt64) (p4.toInt64) _ h) (va_cwS 4 hts gX8_floors_X7_floorSum rfl rfl rfl (by decide +kernel) ⟨Nat.le_of_ble_eq_true rfl, Nat.le_of_ble_eq_true rfl⟩) ⟨pre_fb, pre_of hPc hDc hK hN⟩ rfl rfl hl.1 rfl (lv_room (Nat.le_of_ble_eq_true rfl)) dX8_floors_60 ⟨by first | exact Nat.le_of_ble_eq_true rfl | exact Nat.le_refl _, by first | exact Nat.le_of_ble_eq_true rfl | exact Nat.le_refl _⟩) hS (fun q _ h => hFc q h) hFc (fun r_9 u t H1 locs ht hvm h hB hz1 hk1 hS => ?_)
                  obtain ⟨hP1, hD1⟩ := hB
                  rw [ht] at hP1
                  try dsimp only at h
                  obtain ⟨hP, hD⟩ := va_join (wr := [(h_a0, .inr (7, [w_a0_primes, w_a0_sieved, w_a0_parting, w_a0_primeSums, w_a0_progression, w_a0_rows]))]) (w1 := []) hP hD [] [0] rfl rfl (by decide) (by decide) hk1 hFc hP1 hD1
                  generalize H1 = H at hP hS ⊢
                  have hP : va_P (dC, dI) vwCl [(h_a0, .inr (7, [w_a0_primes, w_a0_sieved, w_a0_parting, w_a0_primeSums, w_a0_progression, w_a0_rows]))] H := hP
                  have hD : va_D A [(h_a0, .inr (7, [w_a0_primes, w_a0_sieved, w_a0_parting, w_a0_primeSums, w_a0_progression, w_a0_rows]))] := hD
                  have hP9 := hP.sub (ws' := [(h_a0, .inr (7, [w_a0_primes, w_a0_sieved, w_a0_parting, w_a0_primeSums, w_a0_progression, w_a0_rows]))]) [0] rfl
                  have hD9 := hD.sub (ws' := [(h_a0, .inr (7, [w_a0_primes, w_a0_sieved, w_a0_parting, w_a0_primeSums, w_a0_progression, w_a0_rows]))]) [0] (by decide) rfl
                  exact W.lret (v := r_9) hx hb hr (fun t ht hW => ⟨⟨_, (), rfl, h, by rw [ht]; exact hP9, hD9⟩, hS.F ht⟩) hS.2.2 dX8_floors_63
                · replace h := h.2 c_8
                  refine lv_ldc2 hx hb hown hw_0 dX8_floors_47 ?_
                  have hP9 := hP.sub (ws' := [(h_a0, .inr (7, [w_a0_primes, w_a0_sieved, w_a0_parting, w_a0_primeSums, w_a0_progression, w_a0_rows]))]) [0] rfl
                  have hD9 := hD.sub (ws' := [(h_a0, .inr (7, [w_a0_primes, w_a0_sieved, w_a0_parting, w_a0_primeSums, w_a0_progression, w_a0_rows]))]) [0] (by decide) rfl
                  exact W.lret (v := (-1 : Int64)) hx hb hr (fun t ht hW => ⟨⟨_, (), rfl, h, by rw [ht]; exact hP9, hD9⟩, hS.F ht⟩) hS.2.2 dX8_floors_50
            · replace h := h.2 c_6
              refine lv_ldc2 hx hb hown hw_0 dX8_floors_30 ?_
              have hP9 := hP.sub (ws' := [(h_a0, .inr (7, [w_a0_primes, w_a0_sieved, w_a0_parting, w_a0_primeSums, w_a0_progression, w_a0_rows]))]) [0] rfl
              have hD9 := hD.sub (ws' := [(h_a0, .inr (7, [w_a0_primes, w_a0_sieved, w_a0_parting, w_a0_primeSums, w_a0_progression, w_a0_rows]))]) [0] (by decide) rfl
              exact W.lret (v := (-1 : Int64)) hx hb hr (fun t ht hW => ⟨⟨_, (), rfl, h, by rw [ht]; exact hP9, hD9⟩, hS.F ht⟩) hS.2.2 dX8_floors_33
def wp_X8_points  (p1 : Int64) (Q : Int64 → Prop) : Prop :=
  ((p1 < (0 : Int64) → Q (-1 : Int64)) ∧ (¬ p1 < (0 : Int64) → ((p1 ≤ (10000000000 : Int64) → wp_X7_pointsUnder p1 (fun r_3 => Q r_3)) ∧ (¬ p1 ≤ (10000000000 : Int64) → Q (-1 : Int64)))))
abbrev rm_X8_points : Room := { frames := 2, cells := 0, slots := 0, locals := 53 }
abbrev qc_X8_points (dC : Nat → ClassId) (dI : Nat → Nat → Nat) (cI cJ cZ : ClassId) (h_a0 : Nat) (w_a0_primes : Value) (w_a0_sieved : Value) (w_a0_parting : Value) (w_a0_primeSums : Value) (w_a0_progression : Value) (w_a0_rows : Value) (Q : Int64 → Prop) (A : Nat → Prop) : Array Value → State → Outcome → State → Prop := va_Ql (fun (r : Int64) (_ : Unit) => Q r) (post_ dC dI A (fun (u : Unit) => ([(h_a0, .inr (7, [w_a0_primes, w_a0_sieved, w_a0_parting, w_a0_primeSums, w_a0_progression, w_a0_rows]))] : va_W))) A
set_option maxHeartbeats 4000000 in
set_option maxRecDepth 100000 in
theorem c_X8_points (l : Launch) (dC : Nat → ClassId) (dI : Nat → Nat → Nat) (cI cJ cZ : ClassId) (sz : Nat) (h_a0 : Nat) (w_a0_primes : Value) (w_a0_sieved : Value) (w_a0_parting : Value) (w_a0_primeSums : Value) (w_a0_progression : Value) (w_a0_rows : Value) (p1 : Int64) (Q : Int64 → Prop) (hQ : wp_X8_points p1 Q) : Met l yX8_points wsX8_points rm_X8_points (pre_ dC dI cI cJ cZ [.ref h_a0, .long p1] [(h_a0, .inr (7, [w_a0_primes, w_a0_sieved, w_a0_parting, w_a0_primeSums, w_a0_progression, w_a0_rows]))] sz) (qc_X8_points dC dI cI cJ cZ h_a0 w_a0_primes w_a0_sieved w_a0_parting w_a0_primeSums w_a0_progression w_a0_rows Q (va_A [(h_a0, .inr (7, [w_a0_primes, w_a0_sieved, w_a0_parting, w_a0_primeSums, w_a0_progression, w_a0_rows]))] sz)) 0 0 (va_A [(h_a0, .inr (7, [w_a0_primes, w_a0_sieved, w_a0_parting, w_a0_primeSums, w_a0_progression, w_a0_rows]))] sz) := by
  refine Met.ofW (cc := cX8_points) (maxL := 3) (ret := (some .long)) (by decide) rfl ?_
  intro p e s m args below meth c s₁ B hml hv
  obtain ⟨rfl, hsz, hP, hK, hN, hD0⟩ := hv
  have hx := B.exec
  have hb := B.bytes
  have hr := B.returns
  have hts := atoms_spec (ws := wsX8_points) B.pre
  have hown : s.vm.findClass RX8 = some m.cls := findClass_of_methodNamed B.named
  subst hsz
  have hD := hD0.self (sz := s.heap.size)
  generalize hAe : va_A [(h_a0, .inr (7, [w_a0_primes, w_a0_sieved, w_a0_parting, w_a0_primeSums, w_a0_progression, w_a0_rows]))] s.heap.size = A at hD ⊢
  have hA : ∀ q : Nat, s.heap.size ≤ q → A q := fun q h => by rw [← hAe]; exact Or.inr h
  have hS : va_S A s.heap s.heap [] := va_S.rf
  have hl := lv_entry ([.ref h_a0, .long p1]) (n := 3) (Nat.le_of_ble_eq_true rfl)
  rw [lg_entry_eq]
  generalize (lg_sl ([.ref h_a0, .long p1]) ++ List.replicate (3 - (lg_sl ([.ref h_a0, .long p1])).length) Slot.unset).toArray = ls at hl ⊢
  have hl : lv_has ls 3 [(0, .ref h_a0), (1, .long p1)] := hl
  have h := hQ
  unfold wp_X8_points at h
  have hw_0 := hts (.constantLong RX8 109 (-1)) (by decide +kernel)
  have hw_1 := hts (.constantLong RX8 9 (10000000000)) (by decide +kernel)
  refine lv_lload_n hx hb dX8_points_0 rfl (lv_at hl 1 rfl) ?_
  refine lv_lconst (v := (0 : Int64)) hx hb dX8_points_1 (by decide) ?_
  refine W.lcmp hx hb dX8_points_2 ?_
  refine lv_if_lt (tgt := 14) hx hb dX8_points_3 (by decide) (fun c_1 => ?_) (fun c_1 => ?_)
  · replace c_1 := (lg_cmp_lt _ _).mp c_1
    replace h := h.1 c_1
    refine lv_ldc2 hx hb hown hw_0 dX8_points_14 ?_
    have hP9 := hP.sub (ws' := [(h_a0, .inr (7, [w_a0_primes, w_a0_sieved, w_a0_parting, w_a0_primeSums, w_a0_progression, w_a0_rows]))]) [0] rfl
    have hD9 := hD.sub (ws' := [(h_a0, .inr (7, [w_a0_primes, w_a0_sieved, w_a0_parting, w_a0_primeSums, w_a0_progression, w_a0_rows]))]) [0] (by decide) rfl
    exact W.lret (v := (-1 : Int64)) hx hb hr (fun t ht hW => ⟨⟨_, (), rfl, h, by rw [ht]; exact hP9, hD9⟩, hS.F ht⟩) hS.2.2 dX8_points_17
  · replace c_1 := lc_nlt c_1
    replace h := h.2 c_1
    refine lv_lload_n hx hb dX8_points_6 rfl (lv_at hl 1 rfl) ?_
    refine lv_ldc2 hx hb hown hw_1 dX8_points_7 ?_
    refine W.lcmp hx hb dX8_points_10 ?_
    refine lv_if_le (tgt := 18) hx hb dX8_points_11 (by decide) (fun c_2 => ?_) (fun c_2 => ?_)
    · replace c_2 := (lg_cmp_le _ _).mp c_2
      replace h := h.1 c_2
      refine lv_lload_n hx hb dX8_points_18 rfl (lv_at hl 1 rfl) ?_
      have hPc := hP.sub (ws' := []) [] rfl
      have hDc := hD.sub (ws' := []) [] (by decide) rfl
      have hFc := va_free (wc := []) hD hS hA [] rfl
      refine va_calll (va_runS (As := [.long p1]) (rest := []) ⟨hx, hb, hml, hown, hts⟩ (c_X7_pointsUnder l dC dI cI cJ cZ _ p1 _ h) (va_cwS 1 hts gX8_points_X7_pointsUnder rfl rfl rfl (by decide +kernel) ⟨Nat.le_of_ble_eq_true rfl, Nat.le_of_ble_eq_true rfl⟩) ⟨pre_fb, pre_of hPc hDc hK hN⟩ rfl rfl hl.1 rfl (lv_room (Nat.le_of_ble_eq_true rfl)) dX8_points_19 ⟨by first | exact Nat.le_of_ble_eq_true rfl | exact Nat.le_refl _, by first | exact Nat.le_of_ble_eq_true rfl | exact Nat.le_refl _⟩) hS (fun q _ h => hFc q h) hFc (fun r_3 u t H1 locs ht hvm h hB hz1 hk1 hS => ?_)
      obtain ⟨hP1, hD1⟩ := hB
      rw [ht] at hP1
      try dsimp only at h
      obtain ⟨hP, hD⟩ := va_join (wr := [(h_a0, .inr (7, [w_a0_primes, w_a0_sieved, w_a0_parting, w_a0_primeSums, w_a0_progression, w_a0_rows]))]) (w1 := []) hP hD [] [0] rfl rfl (by decide) (by decide) hk1 hFc hP1 hD1
      generalize H1 = H at hP hS ⊢
      have hP : va_P (dC, dI) vwCl [(h_a0, .inr (7, [w_a0_primes, w_a0_sieved, w_a0_parting, w_a0_primeSums, w_a0_progression, w_a0_rows]))] H := hP
      have hD : va_D A [(h_a0, .inr (7, [w_a0_primes, w_a0_sieved, w_a0_parting, w_a0_primeSums, w_a0_progression, w_a0_rows]))] := hD
      have hP9 := hP.sub (ws' := [(h_a0, .inr (7, [w_a0_primes, w_a0_sieved, w_a0_parting, w_a0_primeSums, w_a0_progression, w_a0_rows]))]) [0] rfl
      have hD9 := hD.sub (ws' := [(h_a0, .inr (7, [w_a0_primes, w_a0_sieved, w_a0_parting, w_a0_primeSums, w_a0_progression, w_a0_rows]))]) [0] (by decide) rfl
      exact W.lret (v := r_3) hx hb hr (fun t ht hW => ⟨⟨_, (), rfl, h, by rw [ht]; exact hP9, hD9⟩, hS.F ht⟩) hS.2.2 dX8_points_22
    · replace c_2 := lc_nle c_2
      replace h := h.2 c_2
      refine lv_ldc2 hx hb hown hw_0 dX8_points_14 ?_
      have hP9 := hP.sub (ws' := [(h_a0, .inr (7, [w_a0_primes, w_a0_sieved, w_a0_parting, w_a0_primeSums, w_a0_progression, w_a0_rows]))]) [0] rfl
      have hD9 := hD.sub (ws' := [(h_a0, .inr (7, [w_a0_primes, w_a0_sieved, w_a0_parting, w_a0_primeSums, w_a0_progression, w_a0_rows]))]) [0] (by decide) rfl
      exact W.lret (v := (-1 : Int64)) hx hb hr (fun t ht hW => ⟨⟨_, (), rfl, h, by rw [ht]; exact hP9, hD9⟩, hS.F ht⟩) hS.2.2 dX8_points_17
def wp_X8_rule_c0 (mcP msP : Nat)  (p1 : Int32) (Q : Int32 → Option ((Nat → Int64) × Int32) → Prop) : Prop :=
  ((p1 < (0 : Int32) → Q (-1 : Int32) none) ∧ (¬ p1 < (0 : Int32) → ((p1 < (10 : Int32) → (2 ≤ mcP ∧ 9602 ≤ msP ∧ wp_X8_newRow_c0 (fun r_3 o_4 o_5 => ((r_3 = (-1 : Int32) → Q r_3 (some (o_4, o_5))) ∧ (¬ r_3 = (-1 : Int32) → wp_X5_fillByRule o_4 r_3 p1 (fun o_11 => Q r_3 (some (o_11, o_5)))))))) ∧ (¬ p1 < (10 : Int32) → Q (-1 : Int32) none))))
abbrev rm_X8_rule_c0 (mcP msP : Nat) : Room := { frames := 4, cells := mcP, slots := msP, locals := 87 }
abbrev qc_X8_rule_c0 (dC : Nat → ClassId) (dI : Nat → Nat → Nat) (cI cJ cZ : ClassId) (h_a0 : Nat) (w_a0_primes : Value) (w_a0_sieved : Value) (w_a0_parting : Value) (w_a0_primeSums : Value) (w_a0_progression : Value) (Q : Int32 → Option ((Nat → Int64) × Int32) → Prop) (A : Nat → Prop) : Array Value → State → Outcome → State → Prop := va_Qi (fun (r : Int32) (u : Option ((Nat × Nat) × ((Nat → Int64) × Int32))) => Q r (u.map Prod.snd)) (post_ dC dI A (fun (u : Option ((Nat × Nat) × ((Nat → Int64) × Int32))) => ([(h_a0, .inr (7, [w_a0_primes, w_a0_sieved, w_a0_parting, w_a0_primeSums, w_a0_progression, (match u with | none => Value.null | some w => Value.ref w.1.1)]))] : va_W) ++ (match u with | none => ([] : va_W) | some w => [(w.1.1, .inr (5, [.ref w.1.2, .int w.2.2])), (w.1.2, .inl (cJ, 9600, .inr (.inl (w.2.1))))]))) A
set_option maxHeartbeats 4000000 in
set_option maxRecDepth 100000 in
theorem c_X8_rule_c0 (l : Launch) (dC : Nat → ClassId) (dI : Nat → Nat → Nat) (cI cJ cZ : ClassId) (sz : Nat) (mcP msP : Nat) (h_a0 : Nat) (w_a0_primes : Value) (w_a0_sieved : Value) (w_a0_parting : Value) (w_a0_primeSums : Value) (w_a0_progression : Value) (p1 : Int32) (Q : Int32 → Option ((Nat → Int64) × Int32) → Prop) (hQ : wp_X8_rule_c0 mcP msP p1 Q) : Met l yX8_rule wsX8_rule (rm_X8_rule_c0 mcP msP) (pre_ dC dI cI cJ cZ [.ref h_a0, .int p1] [(h_a0, .inr (7, [w_a0_primes, w_a0_sieved, w_a0_parting, w_a0_primeSums, w_a0_progression, .null]))] sz) (qc_X8_rule_c0 dC dI cI cJ cZ h_a0 w_a0_primes w_a0_sieved w_a0_parting w_a0_primeSums w_a0_progression Q (va_A [(h_a0, .inr (7, [w_a0_primes, w_a0_sieved, w_a0_parting, w_a0_primeSums, w_a0_progression, .null]))] sz)) mcP msP (va_A [(h_a0, .inr (7, [w_a0_primes, w_a0_sieved, w_a0_parting, w_a0_primeSums, w_a0_progression, .null]))] sz) := by
  refine Met.ofW (cc := cX8_rule) (maxL := 3) (ret := (some .int)) (by decide) rfl ?_
  intro p e s m args below meth c s₁ B hml hv
  obtain ⟨rfl, hsz, hP, hK, hN, hD0⟩ := hv
  have hx := B.exec
  have hb := B.bytes
  have hr := B.returns
  have hts := atoms_spec (ws := wsX8_rule) B.pre
  have hown : s.vm.findClass RX8 = some m.cls := findClass_of_methodNamed B.named
  subst hsz
  have hD := hD0.self (sz := s.heap.size)
  generalize hAe : va_A [(h_a0, .inr (7, [w_a0_primes, w_a0_sieved, w_a0_parting, w_a0_primeSums, w_a0_progression, .null]))] s.heap.size = A at hD ⊢
  have hA : ∀ q : Nat, s.heap.size ≤ q → A q := fun q h => by rw [← hAe]; exact Or.inr h
  have hS : va_S A s.heap s.heap [] := va_S.rf
  have hl := lv_entry ([.ref h_a0, .int p1]) (n := 3) (Nat.le_of_ble_eq_true rfl)
  rw [lg_entry_eq]
  generalize (lg_sl ([.ref h_a0, .int p1]) ++ List.replicate (3 - (lg_sl ([.ref h_a0, .int p1])).length) Slot.unset).toArray = ls at hl ⊢
  have hl : lv_has ls 3 [(0, .ref h_a0), (1, .int p1)] := hl
  have h := hQ
  unfold wp_X8_rule_c0 at h
  have hw_0 := hts (.fieldLink RX8 147 "NumberSieves" "rows" "LNumberSieves$Rows;") (by decide +kernel)
  have hin_X8 : ∀ w ∈ wsX80, w ∈ wsX8_rule := by decide +kernel
  refine lv_iload_n hx hb dX8_rule_0 rfl (lv_at hl 1 rfl) ?_
  refine lv_if_lt (tgt := 10) hx hb dX8_rule_1 (by decide) (fun c_1 => ?_) (fun c_1 => ?_)
  · replace h := h.1 c_1
    refine lv_iconst (v := (-1 : Int32)) hx hb dX8_rule_10 (by decide) ?_
    have hP9 := hP.sub (ws' := [(h_a0, .inr (7, [w_a0_primes, w_a0_sieved, w_a0_parting, w_a0_primeSums, w_a0_progression, .null]))]) [0] rfl
    have hD9 := hD.sub (ws' := [(h_a0, .inr (7, [w_a0_primes, w_a0_sieved, w_a0_parting, w_a0_primeSums, w_a0_progression, .null]))]) [0] (by decide) rfl
    refine W.widen (k := mcP) (n := msP) (by first | omega | exact Nat.le_of_ble_eq_true rfl) (by first | omega | exact Nat.le_of_ble_eq_true rfl) ?_
    exact W.iret (v := (-1 : Int32)) hx hb hr (fun t ht hW => ⟨⟨_, none, rfl, h, by rw [ht]; exact hP9, hD9⟩, hS.F ht⟩) hS.2.2 dX8_rule_11
  · replace h := h.2 c_1
    refine lv_iload_n hx hb dX8_rule_4 rfl (lv_at hl 1 rfl) ?_
    refine lv_bipush (v := (10 : Int32)) hx hb dX8_rule_5 (by decide) ?_
    refine lv_icmp_lt (tgt := 12) hx hb dX8_rule_7 (by decide) (fun c_2 => ?_) (fun c_2 => ?_)
    · replace h := h.1 c_2
      refine lv_aload_n hx hb dX8_rule_12 rfl (lv_at hl 0 rfl) ?_
      have hPc := hP.sub (ws' := [(h_a0, .inr (7, [w_a0_primes, w_a0_sieved, w_a0_parting, w_a0_primeSums, w_a0_progression, .null]))]) [0] rfl
      have hDc := hD.sub (ws' := [(h_a0, .inr (7, [w_a0_primes, w_a0_sieved, w_a0_parting, w_a0_primeSums, w_a0_progression, .null]))]) [0] (by decide) rfl
      have hFc := va_free (wc := [(h_a0, .inr (7, [w_a0_primes, w_a0_sieved, w_a0_parting, w_a0_primeSums, w_a0_progression, .null]))]) hD hS hA [0] rfl
      obtain ⟨hm_6, hm_7, h⟩ := h
      refine va_calli (va_runV (As := []) (rest := []) ⟨hx, hb, hml, hown, hts⟩ (c_X8_newRow_c0 l dC dI cI cJ cZ _ h_a0 (w_a0_primes) (w_a0_sieved) (w_a0_parting) (w_a0_primeSums) (w_a0_progression) _ h) (cwV 0 hts gX8_rule_X8_newRow rfl rfl rfl (by decide +kernel) ⟨Nat.le_of_ble_eq_true rfl, Nat.le_of_ble_eq_true rfl⟩) ⟨pre_fb, va_recv hK hPc (ci := 7) (q0 := 0) rfl rfl, pre_of hPc hDc hK hN⟩ rfl rfl hl.1 rfl (lv_room (Nat.le_of_ble_eq_true rfl)) dX8_rule_13 ⟨hm_6, hm_7⟩) hS (fun q _ h => hFc q h) hFc (fun r_3 u t H1 locs ht hvm h hB hz1 hk1 hS => ?_)
      obtain ⟨q_8, q_9, o_4, o_5⟩ := u
      obtain ⟨hP1, hD1⟩ := hB
      rw [ht] at hP1
      try dsimp only at h
      obtain ⟨hP, hD⟩ := va_join (wr := []) (w1 := [(h_a0, .inr (7, [w_a0_primes, w_a0_sieved, w_a0_parting, w_a0_primeSums, w_a0_progression, .ref q_8])), (q_8, .inr (5, [.ref q_9, .int o_5])), (q_9, .inl (cJ, 9600, .inr (.inl o_4)))]) hP hD [0] [] rfl rfl (by decide) (by decide) hk1 hFc hP1 hD1
      generalize H1 = H at hP hS ⊢
      have hP : va_P (dC, dI) vwCl [(h_a0, .inr (7, [w_a0_primes, w_a0_sieved, w_a0_parting, w_a0_primeSums, w_a0_progression, .ref q_8])), (q_8, .inr (5, [.ref q_9, .int o_5])), (q_9, .inl (cJ, 9600, .inr (.inl o_4)))] H := hP
      have hD : va_D A [(h_a0, .inr (7, [w_a0_primes, w_a0_sieved, w_a0_parting, w_a0_primeSums, w_a0_progression, .ref q_8])), (q_8, .inr (5, [.ref q_9, .int o_5])), (q_9, .inl (cJ, 9600, .inr (.inl o_4)))] := hD
      refine W.widen (k := 2) (n := 9602) (by omega) (by omega) ?_
      refine lv_istore_n (lv' := [(2, .int r_3), (0, .ref h_a0), (1, .int p1)]) hx hb dX8_rule_16 rfl hl (by decide) rfl (fun ls hl => ?_)
      refine lv_iload_n hx hb dX8_rule_17 rfl (lv_at hl 0 rfl) ?_
      refine lv_iconst (v := (-1 : Int32)) hx hb dX8_rule_18 (by decide) ?_
      refine lv_icmp_eq (tgt := 31) hx hb dX8_rule_19 (by decide) (fun c_10 => ?_) (fun c_10 => ?_)
      · replace h := h.1 c_10
        refine lv_iload_n hx hb dX8_rule_31 rfl (lv_at hl 0 rfl) ?_
        have hP9 := hP.sub (ws' := [(h_a0, .inr (7, [w_a0_primes, w_a0_sieved, w_a0_parting, w_a0_primeSums, w_a0_progression, .ref q_8])), (q_8, .inr (5, [.ref q_9, .int o_5])), (q_9, .inl (cJ, 9600, .inr (.inl o_4)))]) [0, 1, 2] rfl
        have hD9 := hD.sub (ws' := [(h_a0, .inr (7, [w_a0_primes, w_a0_sieved, w_a0_parting, w_a0_primeSums, w_a0_progression, .ref q_8])), (q_8, .inr (5, [.ref q_9, .int o_5])), (q_9, .inl (cJ, 9600, .inr (.inl o_4)))]) [0, 1, 2] (by decide) rfl
        refine W.widen (k := mcP) (n := msP) (by first | omega | exact Nat.le_of_ble_eq_true rfl) (by first | omega | exact Nat.le_of_ble_eq_true rfl) ?_
        exact W.iret (v := r_3) hx hb hr (fun t ht hW => ⟨⟨_, some ((q_8, q_9), (o_4, o_5)), rfl, h, by rw [ht]; exact hP9, hD9⟩, hS.F ht⟩) hS.2.2 dX8_rule_32
      · replace h := h.2 c_10
        refine lv_aload_n hx hb dX8_rule_22 rfl (lv_at hl 1 rfl) ?_
        refine va_get (D := (dC, dI)) (ci := 7) (v := .ref q_8) (C := RX8) (T := TX8) (N := 6) hx hb hts hin_X8 hown hK hP 0 rfl rfl 5 (by decide) hw_0 (fun _ h9 => h9) rfl dX8_rule_23 ?_
        refine lv_iload_n hx hb dX8_rule_26 rfl (lv_at hl 0 rfl) ?_
        refine lv_iload_n hx hb dX8_rule_27 rfl (lv_at hl 2 rfl) ?_
        have hPc := hP.sub (ws' := [(q_8, .inr (5, [.ref q_9, .int o_5])), (q_9, .inl (cJ, 9600, .inr (.inl o_4)))]) [1, 2] rfl
        have hDc := hD.sub (ws' := [(q_8, .inr (5, [.ref q_9, .int o_5])), (q_9, .inl (cJ, 9600, .inr (.inl o_4)))]) [1, 2] (by decide) rfl
        have hFc := va_free (wc := [(q_8, .inr (5, [.ref q_9, .int o_5])), (q_9, .inl (cJ, 9600, .inr (.inl o_4)))]) hD hS hA [1, 2] rfl
        refine va_callv (va_runV (As := [.int r_3, .int p1]) (rest := []) ⟨hx, hb, hml, hown, hts⟩ (c_X5_fillByRule l dC dI cI cJ cZ _ q_8 o_4 q_9 o_5 r_3 p1 _ h) (cwV 2 hts gX8_rule_X5_fillByRule rfl rfl rfl (by decide +kernel) ⟨Nat.le_of_ble_eq_true rfl, Nat.le_of_ble_eq_true rfl⟩) ⟨pre_fb, va_recv hK hPc (ci := 5) (q0 := 0) rfl rfl, pre_of hPc hDc hK hN⟩ rfl rfl hl.1 rfl (lv_room (Nat.le_of_ble_eq_true rfl)) dX8_rule_28 ⟨by show _ ≤ mcP; omega, by show _ ≤ msP; omega⟩) hS (fun q _ h => hFc q h) hFc (fun u t H1 locs ht hvm h hB hz1 hk1 hS => ?_)
        obtain ⟨o_11, rfl⟩ : ∃ z, z = u := ⟨_, rfl⟩
        obtain ⟨hP1, hD1⟩ := hB
        rw [ht] at hP1
        try dsimp only at h
        obtain ⟨hP, hD⟩ := va_join (wr := [(h_a0, .inr (7, [w_a0_primes, w_a0_sieved, w_a0_parting, w_a0_primeSums, w_a0_progression, .ref q_8]))]) (w1 := [(q_8, .inr (5, [.ref q_9, .int o_5])), (q_9, .inl (cJ, 9600, .inr (.inl o_11)))]) hP hD [1, 2] [0] rfl rfl (by decide) (by decide) hk1 hFc hP1 hD1
        generalize H1 = H at hP hS ⊢
        have hP : va_P (dC, dI) vwCl [(h_a0, .inr (7, [w_a0_primes, w_a0_sieved, w_a0_parting, w_a0_primeSums, w_a0_progression, .ref q_8])), (q_8, .inr (5, [.ref q_9, .int o_5])), (q_9, .inl (cJ, 9600, .inr (.inl o_11)))] H := hP
        have hD : va_D A [(h_a0, .inr (7, [w_a0_primes, w_a0_sieved, w_a0_parting, w_a0_primeSums, w_a0_progression, .ref q_8])), (q_8, .inr (5, [.ref q_9, .int o_5])), (q_9, .inl (cJ, 9600, .inr (.inl o_11)))] := hD
        refine lv_iload_n hx hb dX8_rule_31 rfl (lv_at hl 0 rfl) ?_
        have hP9 := hP.sub (ws' := [(h_a0, .inr (7, [w_a0_primes, w_a0_sieved, w_a0_parting, w_a0_primeSums, w_a0_progression, .ref q_8])), (q_8, .inr (5, [.ref q_9, .int o_5])), (q_9, .inl (cJ, 9600, .inr (.inl o_11)))]) [0, 1, 2] rfl
        have hD9 := hD.sub (ws' := [(h_a0, .inr (7, [w_a0_primes, w_a0_sieved, w_a0_parting, w_a0_primeSums, w_a0_progression, .ref q_8])), (q_8, .inr (5, [.ref q_9, .int o_5])), (q_9, .inl (cJ, 9600, .inr (.inl o_11)))]) [0, 1, 2] (by decide) rfl
        refine W.widen (k := mcP) (n := msP) (by first | omega | exact Nat.le_of_ble_eq_true rfl) (by first | omega | exact Nat.le_of_ble_eq_true rfl) ?_
        exact W.iret (v := r_3) hx hb hr (fun t ht hW => ⟨⟨_, some ((q_8, q_9), (o_11, o_5)), rfl, h, by rw [ht]; exact hP9, hD9⟩, hS.F ht⟩) hS.2.2 dX8_rule_32
    · replace h := h.2 c_2
      refine lv_iconst (v := (-1 : Int32)) hx hb dX8_rule_10 (by decide) ?_
      have hP9 := hP.sub (ws' := [(h_a0, .inr (7, [w_a0_primes, w_a0_sieved, w_a0_parting, w_a0_primeSums, w_a0_progression, .null]))]) [0] rfl
      have hD9 := hD.sub (ws' := [(h_a0, .inr (7, [w_a0_primes, w_a0_sieved, w_a0_parting, w_a0_primeSums, w_a0_progression, .null]))]) [0] (by decide) rfl
      refine W.widen (k := mcP) (n := msP) (by first | omega | exact Nat.le_of_ble_eq_true rfl) (by first | omega | exact Nat.le_of_ble_eq_true rfl) ?_
      exact W.iret (v := (-1 : Int32)) hx hb hr (fun t ht hW => ⟨⟨_, none, rfl, h, by rw [ht]; exact hP9, hD9⟩, hS.F ht⟩) hS.2.2 dX8_rule_11
def wp_X8_rule_c1 (a0_rows_values : Nat → Int64) (a0_rows_many : Int32) (p1 : Int32) (Q : Int32 → Int32 → (Nat → Int64) → Prop) : Prop :=
  ((p1 < (0 : Int32) → Q (-1 : Int32) a0_rows_many a0_rows_values) ∧ (¬ p1 < (0 : Int32) → ((p1 < (10 : Int32) → wp_X8_newRow_c1 a0_rows_values a0_rows_many (fun r_3 o_4 o_5 => ((r_3 = (-1 : Int32) → Q r_3 o_4 o_5) ∧ (¬ r_3 = (-1 : Int32) → wp_X5_fillByRule o_5 r_3 p1 (fun o_7 => Q r_3 o_4 o_7))))) ∧ (¬ p1 < (10 : Int32) → Q (-1 : Int32) a0_rows_many a0_rows_values))))
abbrev rm_X8_rule_c1 : Room := { frames := 4, cells := 0, slots := 0, locals := 87 }
abbrev qc_X8_rule_c1 (dC : Nat → ClassId) (dI : Nat → Nat → Nat) (cI cJ cZ : ClassId) (h_a0 : Nat) (w_a0_primes : Value) (w_a0_sieved : Value) (w_a0_parting : Value) (w_a0_primeSums : Value) (w_a0_progression : Value) (h_a0_rows : Nat) (a0_rows_values : Nat → Int64) (q_a0_rows_values : Nat) (a0_rows_many : Int32) (Q : Int32 → Int32 → (Nat → Int64) → Prop) (A : Nat → Prop) : Array Value → State → Outcome → State → Prop := va_Qi (fun (r : Int32) (u : Int32 × (Nat → Int64)) => Q r u.1 u.2) (post_ dC dI A (fun (u : Int32 × (Nat → Int64)) => ([(h_a0, .inr (7, [w_a0_primes, w_a0_sieved, w_a0_parting, w_a0_primeSums, w_a0_progression, .ref h_a0_rows])), (h_a0_rows, .inr (5, [.ref q_a0_rows_values, .int u.1])), (q_a0_rows_values, .inl (cJ, 9600, .inr (.inl (u.2))))] : va_W))) A
set_option maxHeartbeats 4000000 in
set_option maxRecDepth 100000 in
theorem c_X8_rule_c1 (l : Launch) (dC : Nat → ClassId) (dI : Nat → Nat → Nat) (cI cJ cZ : ClassId) (sz : Nat) (h_a0 : Nat) (w_a0_primes : Value) (w_a0_sieved : Value) (w_a0_parting : Value) (w_a0_primeSums : Value) (w_a0_progression : Value) (h_a0_rows : Nat) (a0_rows_values : Nat → Int64) (q_a0_rows_values : Nat) (a0_rows_many : Int32) (p1 : Int32) (Q : Int32 → Int32 → (Nat → Int64) → Prop) (hQ : wp_X8_rule_c1 a0_rows_values a0_rows_many p1 Q) : Met l yX8_rule wsX8_rule rm_X8_rule_c1 (pre_ dC dI cI cJ cZ [.ref h_a0, .int p1] [(h_a0, .inr (7, [w_a0_primes, w_a0_sieved, w_a0_parting, w_a0_primeSums, w_a0_progression, .ref h_a0_rows])), (h_a0_rows, .inr (5, [.ref q_a0_rows_values, .int a0_rows_many])), (q_a0_rows_values, .inl (cJ, 9600, .inr (.inl a0_rows_values)))] sz) (qc_X8_rule_c1 dC dI cI cJ cZ h_a0 w_a0_primes w_a0_sieved w_a0_parting w_a0_primeSums w_a0_progression h_a0_rows a0_rows_values q_a0_rows_values a0_rows_many Q (va_A [(h_a0, .inr (7, [w_a0_primes, w_a0_sieved, w_a0_parting, w_a0_primeSums, w_a0_progression, .ref h_a0_rows])), (h_a0_rows, .inr (5, [.ref q_a0_rows_values, .int a0_rows_many])), (q_a0_rows_values, .inl (cJ, 9600, .inr (.inl a0_rows_values)))] sz)) 0 0 (va_A [(h_a0, .inr (7, [w_a0_primes, w_a0_sieved, w_a0_parting, w_a0_primeSums, w_a0_progression, .ref h_a0_rows])), (h_a0_rows, .inr (5, [.ref q_a0_rows_values, .int a0_rows_many])), (q_a0_rows_values, .inl (cJ, 9600, .inr (.inl a0_rows_values)))] sz) := by
  refine Met.ofW (cc := cX8_rule) (maxL := 3) (ret := (some .int)) (by decide) rfl ?_
  intro p e s m args below meth c s₁ B hml hv
  obtain ⟨rfl, hsz, hP, hK, hN, hD0⟩ := hv
  have hx := B.exec
  have hb := B.bytes
  have hr := B.returns
  have hts := atoms_spec (ws := wsX8_rule) B.pre
  have hown : s.vm.findClass RX8 = some m.cls := findClass_of_methodNamed B.named
  subst hsz
  have hD := hD0.self (sz := s.heap.size)
  generalize hAe : va_A [(h_a0, .inr (7, [w_a0_primes, w_a0_sieved, w_a0_parting, w_a0_primeSums, w_a0_progression, .ref h_a0_rows])), (h_a0_rows, .inr (5, [.ref q_a0_rows_values, .int a0_rows_many])), (q_a0_rows_values, .inl (cJ, 9600, .inr (.inl a0_rows_values)))] s.heap.size = A at hD ⊢
  have hA : ∀ q : Nat, s.heap.size ≤ q → A q := fun q h => by rw [← hAe]; exact Or.inr h
  have hS : va_S A s.heap s.heap [] := va_S.rf
  have hl := lv_entry ([.ref h_a0, .int p1]) (n := 3) (Nat.le_of_ble_eq_true rfl)
  rw [lg_entry_eq]
  generalize (lg_sl ([.ref h_a0, .int p1]) ++ List.replicate (3 - (lg_sl ([.ref h_a0, .int p1])).length) Slot.unset).toArray = ls at hl ⊢
  have hl : lv_has ls 3 [(0, .ref h_a0), (1, .int p1)] := hl
  have h := hQ
  unfold wp_X8_rule_c1 at h
  have hw_0 := hts (.fieldLink RX8 147 "NumberSieves" "rows" "LNumberSieves$Rows;") (by decide +kernel)
  have hin_X8 : ∀ w ∈ wsX80, w ∈ wsX8_rule := by decide +kernel
  refine lv_iload_n hx hb dX8_rule_0 rfl (lv_at hl 1 rfl) ?_
  refine lv_if_lt (tgt := 10) hx hb dX8_rule_1 (by decide) (fun c_1 => ?_) (fun c_1 => ?_)
  · replace h := h.1 c_1
    refine lv_iconst (v := (-1 : Int32)) hx hb dX8_rule_10 (by decide) ?_
    have hP9 := hP.sub (ws' := [(h_a0, .inr (7, [w_a0_primes, w_a0_sieved, w_a0_parting, w_a0_primeSums, w_a0_progression, .ref h_a0_rows])), (h_a0_rows, .inr (5, [.ref q_a0_rows_values, .int a0_rows_many])), (q_a0_rows_values, .inl (cJ, 9600, .inr (.inl a0_rows_values)))]) [0, 1, 2] rfl
    have hD9 := hD.sub (ws' := [(h_a0, .inr (7, [w_a0_primes, w_a0_sieved, w_a0_parting, w_a0_primeSums, w_a0_progression, .ref h_a0_rows])), (h_a0_rows, .inr (5, [.ref q_a0_rows_values, .int a0_rows_many])), (q_a0_rows_values, .inl (cJ, 9600, .inr (.inl a0_rows_values)))]) [0, 1, 2] (by decide) rfl
    exact W.iret (v := (-1 : Int32)) hx hb hr (fun t ht hW => ⟨⟨_, (a0_rows_many, a0_rows_values), rfl, h, by rw [ht]; exact hP9, hD9⟩, hS.F ht⟩) hS.2.2 dX8_rule_11
  · replace h := h.2 c_1
    refine lv_iload_n hx hb dX8_rule_4 rfl (lv_at hl 1 rfl) ?_
    refine lv_bipush (v := (10 : Int32)) hx hb dX8_rule_5 (by decide) ?_
    refine lv_icmp_lt (tgt := 12) hx hb dX8_rule_7 (by decide) (fun c_2 => ?_) (fun c_2 => ?_)
    · replace h := h.1 c_2
      refine lv_aload_n hx hb dX8_rule_12 rfl (lv_at hl 0 rfl) ?_
      have hPc := hP.sub (ws' := [(h_a0, .inr (7, [w_a0_primes, w_a0_sieved, w_a0_parting, w_a0_primeSums, w_a0_progression, .ref h_a0_rows])), (h_a0_rows, .inr (5, [.ref q_a0_rows_values, .int a0_rows_many])), (q_a0_rows_values, .inl (cJ, 9600, .inr (.inl a0_rows_values)))]) [0, 1, 2] rfl
      have hDc := hD.sub (ws' := [(h_a0, .inr (7, [w_a0_primes, w_a0_sieved, w_a0_parting, w_a0_primeSums, w_a0_progression, .ref h_a0_rows])), (h_a0_rows, .inr (5, [.ref q_a0_rows_values, .int a0_rows_many])), (q_a0_rows_values, .inl (cJ, 9600, .inr (.inl a0_rows_values)))]) [0, 1, 2] (by decide) rfl
      have hFc := va_free (wc := [(h_a0, .inr (7, [w_a0_primes, w_a0_sieved, w_a0_parting, w_a0_primeSums, w_a0_progression, .ref h_a0_rows])), (h_a0_rows, .inr (5, [.ref q_a0_rows_values, .int a0_rows_many])), (q_a0_rows_values, .inl (cJ, 9600, .inr (.inl a0_rows_values)))]) hD hS hA [0, 1, 2] rfl
      refine va_calli (va_runV (As := []) (rest := []) ⟨hx, hb, hml, hown, hts⟩ (c_X8_newRow_c1 l dC dI cI cJ cZ _ h_a0 (w_a0_primes) (w_a0_sieved) (w_a0_parting) (w_a0_primeSums) (w_a0_progression) h_a0_rows a0_rows_values q_a0_rows_values a0_rows_many _ h) (cwV 0 hts gX8_rule_X8_newRow rfl rfl rfl (by decide +kernel) ⟨Nat.le_of_ble_eq_true rfl, Nat.le_of_ble_eq_true rfl⟩) ⟨pre_fb, va_recv hK hPc (ci := 7) (q0 := 0) rfl rfl, pre_of hPc hDc hK hN⟩ rfl rfl hl.1 rfl (lv_room (Nat.le_of_ble_eq_true rfl)) dX8_rule_13 ⟨by first | exact Nat.le_of_ble_eq_true rfl | exact Nat.le_refl _, by first | exact Nat.le_of_ble_eq_true rfl | exact Nat.le_refl _⟩) hS (fun q _ h => hFc q h) hFc (fun r_3 u t H1 locs ht hvm h hB hz1 hk1 hS => ?_)
      obtain ⟨o_4, o_5⟩ := u
      obtain ⟨hP1, hD1⟩ := hB
      rw [ht] at hP1
      try dsimp only at h
      obtain ⟨hP, hD⟩ := va_join (wr := []) (w1 := [(h_a0, .inr (7, [w_a0_primes, w_a0_sieved, w_a0_parting, w_a0_primeSums, w_a0_progression, .ref h_a0_rows])), (h_a0_rows, .inr (5, [.ref q_a0_rows_values, .int o_4])), (q_a0_rows_values, .inl (cJ, 9600, .inr (.inl o_5)))]) hP hD [0, 1, 2] [] rfl rfl (by decide) (by decide) hk1 hFc hP1 hD1
      generalize H1 = H at hP hS ⊢
      have hP : va_P (dC, dI) vwCl [(h_a0, .inr (7, [w_a0_primes, w_a0_sieved, w_a0_parting, w_a0_primeSums, w_a0_progression, .ref h_a0_rows])), (h_a0_rows, .inr (5, [.ref q_a0_rows_values, .int o_4])), (q_a0_rows_values, .inl (cJ, 9600, .inr (.inl o_5)))] H := hP
      have hD : va_D A [(h_a0, .inr (7, [w_a0_primes, w_a0_sieved, w_a0_parting, w_a0_primeSums, w_a0_progression, .ref h_a0_rows])), (h_a0_rows, .inr (5, [.ref q_a0_rows_values, .int o_4])), (q_a0_rows_values, .inl (cJ, 9600, .inr (.inl o_5)))] := hD
      refine lv_istore_n (lv' := [(2, .int r_3), (0, .ref h_a0), (1, .int p1)]) hx hb dX8_rule_16 rfl hl (by decide) rfl (fun ls hl => ?_)
      refine lv_iload_n hx hb dX8_rule_17 rfl (lv_at hl 0 rfl) ?_
      refine lv_iconst (v := (-1 : Int32)) hx hb dX8_rule_18 (by decide) ?_
      refine lv_icmp_eq (tgt := 31) hx hb dX8_rule_19 (by decide) (fun c_6 => ?_) (fun c_6 => ?_)
      · replace h := h.1 c_6
        refine lv_iload_n hx hb dX8_rule_31 rfl (lv_at hl 0 rfl) ?_
        have hP9 := hP.sub (ws' := [(h_a0, .inr (7, [w_a0_primes, w_a0_sieved, w_a0_parting, w_a0_primeSums, w_a0_progression, .ref h_a0_rows])), (h_a0_rows, .inr (5, [.ref q_a0_rows_values, .int o_4])), (q_a0_rows_values, .inl (cJ, 9600, .inr (.inl o_5)))]) [0, 1, 2] rfl
        have hD9 := hD.sub (ws' := [(h_a0, .inr (7, [w_a0_primes, w_a0_sieved, w_a0_parting, w_a0_primeSums, w_a0_progression, .ref h_a0_rows])), (h_a0_rows, .inr (5, [.ref q_a0_rows_values, .int o_4])), (q_a0_rows_values, .inl (cJ, 9600, .inr (.inl o_5)))]) [0, 1, 2] (by decide) rfl
        exact W.iret (v := r_3) hx hb hr (fun t ht hW => ⟨⟨_, (o_4, o_5), rfl, h, by rw [ht]; exact hP9, hD9⟩, hS.F ht⟩) hS.2.2 dX8_rule_32
      · replace h := h.2 c_6
        refine lv_aload_n hx hb dX8_rule_22 rfl (lv_at hl 1 rfl) ?_
        refine va_get (D := (dC, dI)) (ci := 7) (v := .ref h_a0_rows) (C := RX8) (T := TX8) (N := 6) hx hb hts hin_X8 hown hK hP 0 rfl rfl 5 (by decide) hw_0 (fun _ h9 => h9) rfl dX8_rule_23 ?_
        refine lv_iload_n hx hb dX8_rule_26 rfl (lv_at hl 0 rfl) ?_
        refine lv_iload_n hx hb dX8_rule_27 rfl (lv_at hl 2 rfl) ?_
        have hPc := hP.sub (ws' := [(h_a0_rows, .inr (5, [.ref q_a0_rows_values, .int o_4])), (q_a0_rows_values, .inl (cJ, 9600, .inr (.inl o_5)))]) [1, 2] rfl
        have hDc := hD.sub (ws' := [(h_a0_rows, .inr (5, [.ref q_a0_rows_values, .int o_4])), (q_a0_rows_values, .inl (cJ, 9600, .inr (.inl o_5)))]) [1, 2] (by decide) rfl
        have hFc := va_free (wc := [(h_a0_rows, .inr (5, [.ref q_a0_rows_values, .int o_4])), (q_a0_rows_values, .inl (cJ, 9600, .inr (.inl o_5)))]) hD hS hA [1, 2] rfl
        refine va_callv (va_runV (As := [.int r_3, .int p1]) (rest := []) ⟨hx, hb, hml, hown, hts⟩ (c_X5_fillByRule l dC dI cI cJ cZ _ h_a0_rows o_5 q_a0_rows_values o_4 r_3 p1 _ h) (cwV 2 hts gX8_rule_X5_fillByRule rfl rfl rfl (by decide +kernel) ⟨Nat.le_of_ble_eq_true rfl, Nat.le_of_ble_eq_true rfl⟩) ⟨pre_fb, va_recv hK hPc (ci := 5) (q0 := 0) rfl rfl, pre_of hPc hDc hK hN⟩ rfl rfl hl.1 rfl (lv_room (Nat.le_of_ble_eq_true rfl)) dX8_rule_28 ⟨by first | exact Nat.le_of_ble_eq_true rfl | exact Nat.le_refl _, by first | exact Nat.le_of_ble_eq_true rfl | exact Nat.le_refl _⟩) hS (fun q _ h => hFc q h) hFc (fun u t H1 locs ht hvm h hB hz1 hk1 hS => ?_)
        obtain ⟨o_7, rfl⟩ : ∃ z, z = u := ⟨_, rfl⟩
        obtain ⟨hP1, hD1⟩ := hB
        rw [ht] at hP1
        try dsimp only at h
        obtain ⟨hP, hD⟩ := va_join (wr := [(h_a0, .inr (7, [w_a0_primes, w_a0_sieved, w_a0_parting, w_a0_primeSums, w_a0_progression, .ref h_a0_rows]))]) (w1 := [(h_a0_rows, .inr (5, [.ref q_a0_rows_values, .int o_4])), (q_a0_rows_values, .inl (cJ, 9600, .inr (.inl o_7)))]) hP hD [1, 2] [0] rfl rfl (by decide) (by decide) hk1 hFc hP1 hD1
        generalize H1 = H at hP hS ⊢
        have hP : va_P (dC, dI) vwCl [(h_a0, .inr (7, [w_a0_primes, w_a0_sieved, w_a0_parting, w_a0_primeSums, w_a0_progression, .ref h_a0_rows])), (h_a0_rows, .inr (5, [.ref q_a0_rows_values, .int o_4])), (q_a0_rows_values, .inl (cJ, 9600, .inr (.inl o_7)))] H := hP
        have hD : va_D A [(h_a0, .inr (7, [w_a0_primes, w_a0_sieved, w_a0_parting, w_a0_primeSums, w_a0_progression, .ref h_a0_rows])), (h_a0_rows, .inr (5, [.ref q_a0_rows_values, .int o_4])), (q_a0_rows_values, .inl (cJ, 9600, .inr (.inl o_7)))] := hD
        refine lv_iload_n hx hb dX8_rule_31 rfl (lv_at hl 0 rfl) ?_
        have hP9 := hP.sub (ws' := [(h_a0, .inr (7, [w_a0_primes, w_a0_sieved, w_a0_parting, w_a0_primeSums, w_a0_progression, .ref h_a0_rows])), (h_a0_rows, .inr (5, [.ref q_a0_rows_values, .int o_4])), (q_a0_rows_values, .inl (cJ, 9600, .inr (.inl o_7)))]) [0, 1, 2] rfl
        have hD9 := hD.sub (ws' := [(h_a0, .inr (7, [w_a0_primes, w_a0_sieved, w_a0_parting, w_a0_primeSums, w_a0_progression, .ref h_a0_rows])), (h_a0_rows, .inr (5, [.ref q_a0_rows_values, .int o_4])), (q_a0_rows_values, .inl (cJ, 9600, .inr (.inl o_7)))]) [0, 1, 2] (by decide) rfl
        exact W.iret (v := r_3) hx hb hr (fun t ht hW => ⟨⟨_, (o_4, o_7), rfl, h, by rw [ht]; exact hP9, hD9⟩, hS.F ht⟩) hS.2.2 dX8_rule_32
    · replace h := h.2 c_2
      refine lv_iconst (v := (-1 : Int32)) hx hb dX8_rule_10 (by decide) ?_
      have hP9 := hP.sub (ws' := [(h_a0, .inr (7, [w_a0_primes, w_a0_sieved, w_a0_parting, w_a0_primeSums, w_a0_progression, .ref h_a0_rows])), (h_a0_rows, .inr (5, [.ref q_a0_rows_values, .int a0_rows_many])), (q_a0_rows_values, .inl (cJ, 9600, .inr (.inl a0_rows_values)))]) [0, 1, 2] rfl
      have hD9 := hD.sub (ws' := [(h_a0, .inr (7, [w_a0_primes, w_a0_sieved, w_a0_parting, w_a0_primeSums, w_a0_progression, .ref h_a0_rows])), (h_a0_rows, .inr (5, [.ref q_a0_rows_values, .int a0_rows_many])), (q_a0_rows_values, .inl (cJ, 9600, .inr (.inl a0_rows_values)))]) [0, 1, 2] (by decide) rfl
      exact W.iret (v := (-1 : Int32)) hx hb hr (fun t ht hW => ⟨⟨_, (a0_rows_many, a0_rows_values), rfl, h, by rw [ht]; exact hP9, hD9⟩, hS.F ht⟩) hS.2.2 dX8_rule_11
def wp_X8_sheet_c0   (Q : Int32 → (Nat → Int64) → Int32 → Prop) : Prop :=
  wp_X8_newRow_c0 (fun r_1 o_2 o_3 => Q r_1 o_2 o_3)
abbrev rm_X8_sheet_c0 : Room := { frames := 4, cells := 2, slots := 9602, locals := 87 }
abbrev qc_X8_sheet_c0 (dC : Nat → ClassId) (dI : Nat → Nat → Nat) (cI cJ cZ : ClassId) (h_a0 : Nat) (w_a0_primes : Value) (w_a0_sieved : Value) (w_a0_parting : Value) (w_a0_primeSums : Value) (w_a0_progression : Value) (Q : Int32 → (Nat → Int64) → Int32 → Prop) (A : Nat → Prop) : Array Value → State → Outcome → State → Prop := va_Qi (fun (r : Int32) (u : Nat × Nat × (Nat → Int64) × Int32) => Q r u.2.2.1 u.2.2.2) (post_ dC dI A (fun (u : Nat × Nat × (Nat → Int64) × Int32) => ([(h_a0, .inr (7, [w_a0_primes, w_a0_sieved, w_a0_parting, w_a0_primeSums, w_a0_progression, .ref u.1])), (u.1, .inr (5, [.ref u.2.1, .int u.2.2.2])), (u.2.1, .inl (cJ, 9600, .inr (.inl (u.2.2.1))))] : va_W))) A
set_option maxHeartbeats 4000000 in
set_option maxRecDepth 100000 in
theorem c_X8_sheet_c0 (l : Launch) (dC : Nat → ClassId) (dI : Nat → Nat → Nat) (cI cJ cZ : ClassId) (sz : Nat) (h_a0 : Nat) (w_a0_primes : Value) (w_a0_sieved : Value) (w_a0_parting : Value) (w_a0_primeSums : Value) (w_a0_progression : Value)  (Q : Int32 → (Nat → Int64) → Int32 → Prop) (hQ : wp_X8_sheet_c0  Q) : Met l yX8_sheet wsX8_sheet rm_X8_sheet_c0 (pre_ dC dI cI cJ cZ [.ref h_a0] [(h_a0, .inr (7, [w_a0_primes, w_a0_sieved, w_a0_parting, w_a0_primeSums, w_a0_progression, .null]))] sz) (qc_X8_sheet_c0 dC dI cI cJ cZ h_a0 w_a0_primes w_a0_sieved w_a0_parting w_a0_primeSums w_a0_progression Q (va_A [(h_a0, .inr (7, [w_a0_primes, w_a0_sieved, w_a0_parting, w_a0_primeSums, w_a0_progression, .null]))] sz)) 2 9602 (va_A [(h_a0, .inr (7, [w_a0_primes, w_a0_sieved, w_a0_parting, w_a0_primeSums, w_a0_progression, .null]))] sz) := by
  refine Met.ofW (cc := cX8_sheet) (maxL := 1) (ret := (some .int)) (by decide) rfl ?_
  intro p e s m args below meth c s₁ B hml hv
  obtain ⟨rfl, hsz, hP, hK, hN, hD0⟩ := hv
  have hx := B.exec
  have hb := B.bytes
  have hr := B.returns
  have hts := atoms_spec (ws := wsX8_sheet) B.pre
  have hown : s.vm.findClass RX8 = some m.cls := findClass_of_methodNamed B.named
  subst hsz
  have hD := hD0.self (sz := s.heap.size)
  generalize hAe : va_A [(h_a0, .inr (7, [w_a0_primes, w_a0_sieved, w_a0_parting, w_a0_primeSums, w_a0_progression, .null]))] s.heap.size = A at hD ⊢
  have hA : ∀ q : Nat, s.heap.size ≤ q → A q := fun q h => by rw [← hAe]; exact Or.inr h
  have hS : va_S A s.heap s.heap [] := va_S.rf
  have hl := lv_entry ([.ref h_a0]) (n := 1) (Nat.le_of_ble_eq_true rfl)
  rw [lg_entry_eq]
  generalize (lg_sl ([.ref h_a0]) ++ List.replicate (1 - (lg_sl ([.ref h_a0])).length) Slot.unset).toArray = ls at hl ⊢
  have hl : lv_has ls 1 [(0, .ref h_a0)] := hl
  have h := hQ
  unfold wp_X8_sheet_c0 at h
  refine lv_aload_n hx hb dX8_sheet_0 rfl (lv_at hl 0 rfl) ?_
  have hPc := hP.sub (ws' := [(h_a0, .inr (7, [w_a0_primes, w_a0_sieved, w_a0_parting, w_a0_primeSums, w_a0_progression, .null]))]) [0] rfl
  have hDc := hD.sub (ws' := [(h_a0, .inr (7, [w_a0_primes, w_a0_sieved, w_a0_parting, w_a0_primeSums, w_a0_progression, .null]))]) [0] (by decide) rfl
  have hFc := va_free (wc := [(h_a0, .inr (7, [w_a0_primes, w_a0_sieved, w_a0_parting, w_a0_primeSums, w_a0_progression, .null]))]) hD hS hA [0] rfl
  refine va_calli (va_runV (As := []) (rest := []) ⟨hx, hb, hml, hown, hts⟩ (c_X8_newRow_c0 l dC dI cI cJ cZ _ h_a0 (w_a0_primes) (w_a0_sieved) (w_a0_parting) (w_a0_primeSums) (w_a0_progression) _ h) (cwV 0 hts gX8_sheet_X8_newRow rfl rfl rfl (by decide +kernel) ⟨Nat.le_of_ble_eq_true rfl, Nat.le_of_ble_eq_true rfl⟩) ⟨pre_fb, va_recv hK hPc (ci := 7) (q0 := 0) rfl rfl, pre_of hPc hDc hK hN⟩ rfl rfl hl.1 rfl (lv_room (Nat.le_of_ble_eq_true rfl)) dX8_sheet_1 ⟨by first | exact Nat.le_of_ble_eq_true rfl | exact Nat.le_refl _, by first | exact Nat.le_of_ble_eq_true rfl | exact Nat.le_refl _⟩) hS (fun q _ h => hFc q h) hFc (fun r_1 u t H1 locs ht hvm h hB hz1 hk1 hS => ?_)
  obtain ⟨q_4, q_5, o_2, o_3⟩ := u
  obtain ⟨hP1, hD1⟩ := hB
  rw [ht] at hP1
  try dsimp only at h
  obtain ⟨hP, hD⟩ := va_join (wr := []) (w1 := [(h_a0, .inr (7, [w_a0_primes, w_a0_sieved, w_a0_parting, w_a0_primeSums, w_a0_progression, .ref q_4])), (q_4, .inr (5, [.ref q_5, .int o_3])), (q_5, .inl (cJ, 9600, .inr (.inl o_2)))]) hP hD [0] [] rfl rfl (by decide) (by decide) hk1 hFc hP1 hD1
  generalize H1 = H at hP hS ⊢
  have hP : va_P (dC, dI) vwCl [(h_a0, .inr (7, [w_a0_primes, w_a0_sieved, w_a0_parting, w_a0_primeSums, w_a0_progression, .ref q_4])), (q_4, .inr (5, [.ref q_5, .int o_3])), (q_5, .inl (cJ, 9600, .inr (.inl o_2)))] H := hP
  have hD : va_D A [(h_a0, .inr (7, [w_a0_primes, w_a0_sieved, w_a0_parting, w_a0_primeSums, w_a0_progression, .ref q_4])), (q_4, .inr (5, [.ref q_5, .int o_3])), (q_5, .inl (cJ, 9600, .inr (.inl o_2)))] := hD
  refine W.widen (k := 2) (n := 9602) (by omega) (by omega) ?_
  have hP9 := hP.sub (ws' := [(h_a0, .inr (7, [w_a0_primes, w_a0_sieved, w_a0_parting, w_a0_primeSums, w_a0_progression, .ref q_4])), (q_4, .inr (5, [.ref q_5, .int o_3])), (q_5, .inl (cJ, 9600, .inr (.inl o_2)))]) [0, 1, 2] rfl
  have hD9 := hD.sub (ws' := [(h_a0, .inr (7, [w_a0_primes, w_a0_sieved, w_a0_parting, w_a0_primeSums, w_a0_progression, .ref q_4])), (q_4, .inr (5, [.ref q_5, .int o_3])), (q_5, .inl (cJ, 9600, .inr (.inl o_2)))]) [0, 1, 2] (by decide) rfl
  exact W.iret (v := r_1) hx hb hr (fun t ht hW => ⟨⟨_, (q_4, q_5, o_2, o_3), rfl, h, by rw [ht]; exact hP9, hD9⟩, hS.F ht⟩) hS.2.2 dX8_sheet_4
def wp_X8_sheet_c1 (a0_rows_values : Nat → Int64) (a0_rows_many : Int32)  (Q : Int32 → Int32 → (Nat → Int64) → Prop) : Prop :=
  wp_X8_newRow_c1 a0_rows_values a0_rows_many (fun r_1 o_2 o_3 => Q r_1 o_2 o_3)
abbrev rm_X8_sheet_c1 : Room := { frames := 4, cells := 0, slots := 0, locals := 87 }
abbrev qc_X8_sheet_c1 (dC : Nat → ClassId) (dI : Nat → Nat → Nat) (cI cJ cZ : ClassId) (h_a0 : Nat) (w_a0_primes : Value) (w_a0_sieved : Value) (w_a0_parting : Value) (w_a0_primeSums : Value) (w_a0_progression : Value) (h_a0_rows : Nat) (a0_rows_values : Nat → Int64) (q_a0_rows_values : Nat) (a0_rows_many : Int32) (Q : Int32 → Int32 → (Nat → Int64) → Prop) (A : Nat → Prop) : Array Value → State → Outcome → State → Prop := va_Qi (fun (r : Int32) (u : Int32 × (Nat → Int64)) => Q r u.1 u.2) (post_ dC dI A (fun (u : Int32 × (Nat → Int64)) => ([(h_a0, .inr (7, [w_a0_primes, w_a0_sieved, w_a0_parting, w_a0_primeSums, w_a0_progression, .ref h_a0_rows])), (h_a0_rows, .inr (5, [.ref q_a0_rows_values, .int u.1])), (q_a0_rows_values, .inl (cJ, 9600, .inr (.inl (u.2))))] : va_W))) A
set_option maxHeartbeats 4000000 in
set_option maxRecDepth 100000 in
theorem c_X8_sheet_c1 (l : Launch) (dC : Nat → ClassId) (dI : Nat → Nat → Nat) (cI cJ cZ : ClassId) (sz : Nat) (h_a0 : Nat) (w_a0_primes : Value) (w_a0_sieved : Value) (w_a0_parting : Value) (w_a0_primeSums : Value) (w_a0_progression : Value) (h_a0_rows : Nat) (a0_rows_values : Nat → Int64) (q_a0_rows_values : Nat) (a0_rows_many : Int32)  (Q : Int32 → Int32 → (Nat → Int64) → Prop) (hQ : wp_X8_sheet_c1 a0_rows_values a0_rows_many Q) : Met l yX8_sheet wsX8_sheet rm_X8_sheet_c1 (pre_ dC dI cI cJ cZ [.ref h_a0] [(h_a0, .inr (7, [w_a0_primes, w_a0_sieved, w_a0_parting, w_a0_primeSums, w_a0_progression, .ref h_a0_rows])), (h_a0_rows, .inr (5, [.ref q_a0_rows_values, .int a0_rows_many])), (q_a0_rows_values, .inl (cJ, 9600, .inr (.inl a0_rows_values)))] sz) (qc_X8_sheet_c1 dC dI cI cJ cZ h_a0 w_a0_primes w_a0_sieved w_a0_parting w_a0_primeSums w_a0_progression h_a0_rows a0_rows_values q_a0_rows_values a0_rows_many Q (va_A [(h_a0, .inr (7, [w_a0_primes, w_a0_sieved, w_a0_parting, w_a0_primeSums, w_a0_progression, .ref h_a0_rows])), (h_a0_rows, .inr (5, [.ref q_a0_rows_values, .int a0_rows_many])), (q_a0_rows_values, .inl (cJ, 9600, .inr (.inl a0_rows_values)))] sz)) 0 0 (va_A [(h_a0, .inr (7, [w_a0_primes, w_a0_sieved, w_a0_parting, w_a0_primeSums, w_a0_progression, .ref h_a0_rows])), (h_a0_rows, .inr (5, [.ref q_a0_rows_values, .int a0_rows_many])), (q_a0_rows_values, .inl (cJ, 9600, .inr (.inl a0_rows_values)))] sz) := by
  refine Met.ofW (cc := cX8_sheet) (maxL := 1) (ret := (some .int)) (by decide) rfl ?_
  intro p e s m args below meth c s₁ B hml hv
  obtain ⟨rfl, hsz, hP, hK, hN, hD0⟩ := hv
  have hx := B.exec
  have hb := B.bytes
  have hr := B.returns
  have hts := atoms_spec (ws := wsX8_sheet) B.pre
  have hown : s.vm.findClass RX8 = some m.cls := findClass_of_methodNamed B.named
  subst hsz
  have hD := hD0.self (sz := s.heap.size)
  generalize hAe : va_A [(h_a0, .inr (7, [w_a0_primes, w_a0_sieved, w_a0_parting, w_a0_primeSums, w_a0_progression, .ref h_a0_rows])), (h_a0_rows, .inr (5, [.ref q_a0_rows_values, .int a0_rows_many])), (q_a0_rows_values, .inl (cJ, 9600, .inr (.inl a0_rows_values)))] s.heap.size = A at hD ⊢
  have hA : ∀ q : Nat, s.heap.size ≤ q → A q := fun q h => by rw [← hAe]; exact Or.inr h
  have hS : va_S A s.heap s.heap [] := va_S.rf
  have hl := lv_entry ([.ref h_a0]) (n := 1) (Nat.le_of_ble_eq_true rfl)
  rw [lg_entry_eq]
  generalize (lg_sl ([.ref h_a0]) ++ List.replicate (1 - (lg_sl ([.ref h_a0])).length) Slot.unset).toArray = ls at hl ⊢
  have hl : lv_has ls 1 [(0, .ref h_a0)] := hl
  have h := hQ
  unfold wp_X8_sheet_c1 at h
  refine lv_aload_n hx hb dX8_sheet_0 rfl (lv_at hl 0 rfl) ?_
  have hPc := hP.sub (ws' := [(h_a0, .inr (7, [w_a0_primes, w_a0_sieved, w_a0_parting, w_a0_primeSums, w_a0_progression, .ref h_a0_rows])), (h_a0_rows, .inr (5, [.ref q_a0_rows_values, .int a0_rows_many])), (q_a0_rows_values, .inl (cJ, 9600, .inr (.inl a0_rows_values)))]) [0, 1, 2] rfl
  have hDc := hD.sub (ws' := [(h_a0, .inr (7, [w_a0_primes, w_a0_sieved, w_a0_parting, w_a0_primeSums, w_a0_progression, .ref h_a0_rows])), (h_a0_rows, .inr (5, [.ref q_a0_rows_values, .int a0_rows_many])), (q_a0_rows_values, .inl (cJ, 9600, .inr (.inl a0_rows_values)))]) [0, 1, 2] (by decide) rfl
  have hFc := va_free (wc := [(h_a0, .inr (7, [w_a0_primes, w_a0_sieved, w_a0_parting, w_a0_primeSums, w_a0_progression, .ref h_a0_rows])), (h_a0_rows, .inr (5, [.ref q_a0_rows_values, .int a0_rows_many])), (q_a0_rows_values, .inl (cJ, 9600, .inr (.inl a0_rows_values)))]) hD hS hA [0, 1, 2] rfl
  refine va_calli (va_runV (As := []) (rest := []) ⟨hx, hb, hml, hown, hts⟩ (c_X8_newRow_c1 l dC dI cI cJ cZ _ h_a0 (w_a0_primes) (w_a0_sieved) (w_a0_parting) (w_a0_primeSums) (w_a0_progression) h_a0_rows a0_rows_values q_a0_rows_values a0_rows_many _ h) (cwV 0 hts gX8_sheet_X8_newRow rfl rfl rfl (by decide +kernel) ⟨Nat.le_of_ble_eq_true rfl, Nat.le_of_ble_eq_true rfl⟩) ⟨pre_fb, va_recv hK hPc (ci := 7) (q0 := 0) rfl rfl, pre_of hPc hDc hK hN⟩ rfl rfl hl.1 rfl (lv_room (Nat.le_of_ble_eq_true rfl)) dX8_sheet_1 ⟨by first | exact Nat.le_of_ble_eq_true rfl | exact Nat.le_refl _, by first | exact Nat.le_of_ble_eq_true rfl | exact Nat.le_refl _⟩) hS (fun q _ h => hFc q h) hFc (fun r_1 u t H1 locs ht hvm h hB hz1 hk1 hS => ?_)
  obtain ⟨o_2, o_3⟩ := u
  obtain ⟨hP1, hD1⟩ := hB
  rw [ht] at hP1
  try dsimp only at h
  obtain ⟨hP, hD⟩ := va_join (wr := []) (w1 := [(h_a0, .inr (7, [w_a0_primes, w_a0_sieved, w_a0_parting, w_a0_primeSums, w_a0_progression, .ref h_a0_rows])), (h_a0_rows, .inr (5, [.ref q_a0_rows_values, .int o_2])), (q_a0_rows_values, .inl (cJ, 9600, .inr (.inl o_3)))]) hP hD [0, 1, 2] [] rfl rfl (by decide) (by decide) hk1 hFc hP1 hD1
  generalize H1 = H at hP hS ⊢
  have hP : va_P (dC, dI) vwCl [(h_a0, .inr (7, [w_a0_primes, w_a0_sieved, w_a0_parting, w_a0_primeSums, w_a0_progression, .ref h_a0_rows])), (h_a0_rows, .inr (5, [.ref q_a0_rows_values, .int o_2])), (q_a0_rows_values, .inl (cJ, 9600, .inr (.inl o_3)))] H := hP
  have hD : va_D A [(h_a0, .inr (7, [w_a0_primes, w_a0_sieved, w_a0_parting, w_a0_primeSums, w_a0_progression, .ref h_a0_rows])), (h_a0_rows, .inr (5, [.ref q_a0_rows_values, .int o_2])), (q_a0_rows_values, .inl (cJ, 9600, .inr (.inl o_3)))] := hD
  have hP9 := hP.sub (ws' := [(h_a0, .inr (7, [w_a0_primes, w_a0_sieved, w_a0_parting, w_a0_primeSums, w_a0_progression, .ref h_a0_rows])), (h_a0_rows, .inr (5, [.ref q_a0_rows_values, .int o_2])), (q_a0_rows_values, .inl (cJ, 9600, .inr (.inl o_3)))]) [0, 1, 2] rfl
  have hD9 := hD.sub (ws' := [(h_a0, .inr (7, [w_a0_primes, w_a0_sieved, w_a0_parting, w_a0_primeSums, w_a0_progression, .ref h_a0_rows])), (h_a0_rows, .inr (5, [.ref q_a0_rows_values, .int o_2])), (q_a0_rows_values, .inl (cJ, 9600, .inr (.inl o_3)))]) [0, 1, 2] (by decide) rfl
  exact W.iret (v := r_1) hx hb hr (fun t ht hW => ⟨⟨_, (o_2, o_3), rfl, h, by rw [ht]; exact hP9, hD9⟩, hS.F ht⟩) hS.2.2 dX8_sheet_4
def wp_X8_tell_c0  (p1 : Int32) (p2 : Int32) (p3 : Int64) (Q : Int32 → Prop) : Prop :=
  wp_X8_hasRow_c0 p1 (fun r_1 => ((r_1 = (0 : Int32) → Q (0 : Int32)) ∧ (¬ r_1 = (0 : Int32) → ((p2 < (1 : Int32) → Q (0 : Int32)) ∧ (¬ p2 < (1 : Int32) → ((p2 ≤ (600 : Int32) → False) ∧ (¬ p2 ≤ (600 : Int32) → Q (0 : Int32))))))))
abbrev rm_X8_tell_c0 : Room := { frames := 2, cells := 0, slots := 0, locals := 45 }
abbrev qc_X8_tell_c0 (dC : Nat → ClassId) (dI : Nat → Nat → Nat) (cI cJ cZ : ClassId) (h_a0 : Nat) (w_a0_primes : Value) (w_a0_sieved : Value) (w_a0_parting : Value) (w_a0_primeSums : Value) (w_a0_progression : Value) (Q : Int32 → Prop) (A : Nat → Prop) : Array Value → State → Outcome → State → Prop := va_Qi (fun (r : Int32) (_ : Unit) => Q r) (post_ dC dI A (fun (u : Unit) => ([(h_a0, .inr (7, [w_a0_primes, w_a0_sieved, w_a0_parting, w_a0_primeSums, w_a0_progression, .null]))] : va_W))) A
set_option maxHeartbeats 4000000 in
set_option maxRecDepth 100000 in
theorem c_X8_tell_c0 (l : Launch) (dC : Nat → ClassId) (dI : Nat → Nat → Nat) (cI cJ cZ : ClassId) (sz : Nat) (h_a0 : Nat) (w_a0_primes : Value) (w_a0_sieved : Value) (w_a0_parting : Value) (w_a0_primeSums : Value) (w_a0_progression : Value) (p1 : Int32) (p2 : Int32) (p3 : Int64) (Q : Int32 → Prop) (hQ : wp_X8_tell_c0 p1 p2 p3 Q) : Met l yX8_tell wsX8_tell rm_X8_tell_c0 (pre_ dC dI cI cJ cZ [.ref h_a0, .int p1, .int p2, .long p3] [(h_a0, .inr (7, [w_a0_primes, w_a0_sieved, w_a0_parting, w_a0_primeSums, w_a0_progression, .null]))] sz) (qc_X8_tell_c0 dC dI cI cJ cZ h_a0 w_a0_primes w_a0_sieved w_a0_parting w_a0_primeSums w_a0_progression Q (va_A [(h_a0, .inr (7, [w_a0_primes, w_a0_sieved, w_a0_parting, w_a0_primeSums, w_a0_progression, .null]))] sz)) 0 0 (va_A [(h_a0, .inr (7, [w_a0_primes, w_a0_sieved, w_a0_parting, w_a0_primeSums, w_a0_progression, .null]))] sz) := by
  refine Met.ofW (cc := cX8_tell) (maxL := 5) (ret := (some .boolean)) (by decide) rfl ?_
  intro p e s m args below meth c s₁ B hml hv
  obtain ⟨rfl, hsz, hP, hK, hN, hD0⟩ := hv
  have hx := B.exec
  have hb := B.bytes
  have hr := B.returns
  have hts := atoms_spec (ws := wsX8_tell) B.pre
  have hown : s.vm.findClass RX8 = some m.cls := findClass_of_methodNamed B.named
  subst hsz
  have hD := hD0.self (sz := s.heap.size)
  generalize hAe : va_A [(h_a0, .inr (7, [w_a0_primes, w_a0_sieved, w_a0_parting, w_a0_primeSums, w_a0_progression, .null]))] s.heap.size = A at hD ⊢
  have hA : ∀ q : Nat, s.heap.size ≤ q → A q := fun q h => by rw [← hAe]; exact Or.inr h
  have hS : va_S A s.heap s.heap [] := va_S.rf
  have hl := lv_entry ([.ref h_a0, .int p1, .int p2, .long p3]) (n := 5) (Nat.le_of_ble_eq_true rfl)
  rw [lg_entry_eq]
  generalize (lg_sl ([.ref h_a0, .int p1, .int p2, .long p3]) ++ List.replicate (5 - (lg_sl ([.ref h_a0, .int p1, .int p2, .long p3])).length) Slot.unset).toArray = ls at hl ⊢
  have hl : lv_has ls 5 [(0, .ref h_a0), (1, .int p1), (2, .int p2), (3, .long p3)] := hl
  have h := hQ
  unfold wp_X8_tell_c0 at h
  have hw_0 := hts (.fieldLink RX8 147 "NumberSieves" "rows" "LNumberSieves$Rows;") (by decide +kernel)
  have hin_X8 : ∀ w ∈ wsX80, w ∈ wsX8_tell := by decide +kernel
  refine lv_aload_n hx hb dX8_tell_0 rfl (lv_at hl 0 rfl) ?_
  refine lv_iload_n hx hb dX8_tell_1 rfl (lv_at hl 1 rfl) ?_
  have hPc := hP.sub (ws' := [(h_a0, .inr (7, [w_a0_primes, w_a0_sieved, w_a0_parting, w_a0_primeSums, w_a0_progression, .null]))]) [0] rfl
  have hDc := hD.sub (ws' := [(h_a0, .inr (7, [w_a0_primes, w_a0_sieved, w_a0_parting, w_a0_primeSums, w_a0_progression, .null]))]) [0] (by decide) rfl
  have hFc := va_free (wc := [(h_a0, .inr (7, [w_a0_primes, w_a0_sieved, w_a0_parting, w_a0_primeSums, w_a0_progression, .null]))]) hD hS hA [0] rfl
  refine va_calli (va_runV (As := [.int p1]) (rest := []) ⟨hx, hb, hml, hown, hts⟩ (c_X8_hasRow_c0 l dC dI cI cJ cZ _ h_a0 (w_a0_primes) (w_a0_sieved) (w_a0_parting) (w_a0_primeSums) (w_a0_progression) p1 _ h) (cwV 1 hts gX8_tell_X8_hasRow rfl rfl rfl (by decide +kernel) ⟨Nat.le_of_ble_eq_true rfl, Nat.le_of_ble_eq_true rfl⟩) ⟨pre_fb, va_recv hK hPc (ci := 7) (q0 := 0) rfl rfl, pre_of hPc hDc hK hN⟩ rfl rfl hl.1 rfl (lv_room (Nat.le_of_ble_eq_true rfl)) dX8_tell_2 ⟨by first | exact Nat.le_of_ble_eq_true rfl | exact Nat.le_refl _, by first | exact Nat.le_of_ble_eq_true rfl | exact Nat.le_refl _⟩) hS (fun q _ h => hFc q h) hFc (fun r_1 u t H1 locs ht hvm h hB hz1 hk1 hS => ?_)
  obtain ⟨hP1, hD1⟩ := hB
  rw [ht] at hP1
  try dsimp only at h
  obtain ⟨hP, hD⟩ := va_join (wr := []) (w1 := [(h_a0, .inr (7, [w_a0_primes, w_a0_sieved, w_a0_parting, w_a0_primeSums, w_a0_progression, .null]))]) hP hD [0] [] rfl rfl (by decide) (by decide) hk1 hFc hP1 hD1
  generalize H1 = H at hP hS ⊢
  have hP : va_P (dC, dI) vwCl [(h_a0, .inr (7, [w_a0_primes, w_a0_sieved, w_a0_parting, w_a0_primeSums, w_a0_progression, .null]))] H := hP
  have hD : va_D A [(h_a0, .inr (7, [w_a0_primes, w_a0_sieved, w_a0_parting, w_a0_primeSums, w_a0_progression, .null]))] := hD
  refine lv_if_eq (tgt := 20) hx hb dX8_tell_5 (by decide) (fun c_2 => ?_) (fun c_2 => ?_)
  · replace h := h.1 c_2
    refine lv_iconst (v := (0 : Int32)) hx hb dX8_tell_20 (by decide) ?_
    have hP9 := hP.sub (ws' := [(h_a0, .inr (7, [w_a0_primes, w_a0_sieved, w_a0_parting, w_a0_primeSums, w_a0_progression, .null]))]) [0] rfl
    have hD9 := hD.sub (ws' := [(h_a0, .inr (7, [w_a0_primes, w_a0_sieved, w_a0_parting, w_a0_primeSums, w_a0_progression, .null]))]) [0] (by decide) rfl
    exact W.zret (v := (0 : Int32)) hx hb hr (by decide) (fun t ht hW => ⟨⟨_, (), rfl, h, by rw [ht]; exact hP9, hD9⟩, hS.F ht⟩) hS.2.2 dX8_tell_21
  · replace h := h.2 c_2
    refine lv_iload_n hx hb dX8_tell_8 rfl (lv_at hl 2 rfl) ?_
    refine lv_iconst (v := (1 : Int32)) hx hb dX8_tell_9 (by decide) ?_
    refine lv_icmp_lt (tgt := 20) hx hb dX8_tell_10 (by decide) (fun c_3 => ?_) (fun c_3 => ?_)
    · replace h := h.1 c_3
      refine lv_iconst (v := (0 : Int32)) hx hb dX8_tell_20 (by decide) ?_
      have hP9 := hP.sub (ws' := [(h_a0, .inr (7, [w_a0_primes, w_a0_sieved, w_a0_parting, w_a0_primeSums, w_a0_progression, .null]))]) [0] rfl
      have hD9 := hD.sub (ws' := [(h_a0, .inr (7, [w_a0_primes, w_a0_sieved, w_a0_parting, w_a0_primeSums, w_a0_progression, .null]))]) [0] (by decide) rfl
      exact W.zret (v := (0 : Int32)) hx hb hr (by decide) (fun t ht hW => ⟨⟨_, (), rfl, h, by rw [ht]; exact hP9, hD9⟩, hS.F ht⟩) hS.2.2 dX8_tell_21
    · replace h := h.2 c_3
      refine lv_iload_n hx hb dX8_tell_13 rfl (lv_at hl 2 rfl) ?_
      refine lv_sipush (v := (600 : Int32)) hx hb dX8_tell_14 (by decide) ?_
      refine lv_icmp_le (tgt := 22) hx hb dX8_tell_17 (by decide) (fun c_4 => ?_) (fun c_4 => ?_)
      · replace h := h.1 c_4
        refine lv_aload_n hx hb dX8_tell_22 rfl (lv_at hl 0 rfl) ?_
        refine va_get (D := (dC, dI)) (ci := 7) (v := .null) (C := RX8) (T := TX8) (N := 6) hx hb hts hin_X8 hown hK hP 0 rfl rfl 5 (by decide) hw_0 (fun _ h9 => h9) rfl dX8_tell_23 ?_
        refine lv_iload_n hx hb dX8_tell_26 rfl (lv_at hl 1 rfl) ?_
        refine lv_iload_n hx hb dX8_tell_27 rfl (lv_at hl 2 rfl) ?_
        refine lv_lload_n hx hb dX8_tell_28 rfl (lv_at hl 3 rfl) ?_
        exact h.elim
      · replace h := h.2 c_4
        refine lv_iconst (v := (0 : Int32)) hx hb dX8_tell_20 (by decide) ?_
        have hP9 := hP.sub (ws' := [(h_a0, .inr (7, [w_a0_primes, w_a0_sieved, w_a0_parting, w_a0_primeSums, w_a0_progression, .null]))]) [0] rfl
        have hD9 := hD.sub (ws' := [(h_a0, .inr (7, [w_a0_primes, w_a0_sieved, w_a0_parting, w_a0_primeSums, w_a0_progression, .null]))]) [0] (by decide) rfl
        exact W.zret (v := (0 : Int32)) hx hb hr (by decide) (fun t ht hW => ⟨⟨_, (), rfl, h, by rw [ht]; exact hP9, hD9⟩, hS.F ht⟩) hS.2.2 dX8_tell_21
def wp_X8_tell_c1 (a0_rows_values : Nat → Int64) (a0_rows_many : Int32) (p1 : Int32) (p2 : Int32) (p3 : Int64) (Q : Int32 → (Nat → Int64) → Prop) : Prop :=
  wp_X8_hasRow_c1 a0_rows_many p1 (fun r_1 => ((r_1 = (0 : Int32) → Q (0 : Int32) a0_rows_values) ∧ (¬ r_1 = (0 : Int32) → ((p2 < (1 : Int32) → Q (0 : Int32) a0_rows_values) ∧ (¬ p2 < (1 : Int32) → ((p2 ≤ (600 : Int32) → wp_X5_put a0_rows_values p1 p2 p3 (fun o_5 => Q (1 : Int32) o_5)) ∧ (¬ p2 ≤ (600 : Int32) → Q (0 : Int32) a0_rows_values)))))))
abbrev rm_X8_tell_c1 : Room := { frames := 2, cells := 0, slots := 0, locals := 45 }
abbrev qc_X8_tell_c1 (dC : Nat → ClassId) (dI : Nat → Nat → Nat) (cI cJ cZ : ClassId) (h_a0 : Nat) (w_a0_primes : Value) (w_a0_sieved : Value) (w_a0_parting : Value) (w_a0_primeSums : Value) (w_a0_progression : Value) (h_a0_rows : Nat) (a0_rows_values : Nat → Int64) (q_a0_rows_values : Nat) (a0_rows_many : Int32) (Q : Int32 → (Nat → Int64) → Prop) (A : Nat → Prop) : Array Value → State → Outcome → State → Prop := va_Qi (fun (r : Int32) (u : (Nat → Int64)) => Q r u) (post_ dC dI A (fun (u : (Nat → Int64)) => ([(h_a0, .inr (7, [w_a0_primes, w_a0_sieved, w_a0_parting, w_a0_primeSums, w_a0_progression, .ref h_a0_rows])), (h_a0_rows, .inr (5, [.ref q_a0_rows_values, .int a0_rows_many])), (q_a0_rows_values, .inl (cJ, 9600, .inr (.inl u)))] : va_W))) A
set_option maxHeartbeats 4000000 in
set_option maxRecDepth 100000 in
theorem c_X8_tell_c1 (l : Launch) (dC : Nat → ClassId) (dI : Nat → Nat → Nat) (cI cJ cZ : ClassId) (sz : Nat) (h_a0 : Nat) (w_a0_primes : Value) (w_a0_sieved : Value) (w_a0_parting : Value) (w_a0_primeSums : Value) (w_a0_progression : Value) (h_a0_rows : Nat) (a0_rows_values : Nat → Int64) (q_a0_rows_values : Nat) (a0_rows_many : Int32) (p1 : Int32) (p2 : Int32) (p3 : Int64) (Q : Int32 → (Nat → Int64) → Prop) (hQ : wp_X8_tell_c1 a0_rows_values a0_rows_many p1 p2 p3 Q) : Met l yX8_tell wsX8_tell rm_X8_tell_c1 (pre_ dC dI cI cJ cZ [.ref h_a0, .int p1, .int p2, .long p3] [(h_a0, .inr (7, [w_a0_primes, w_a0_sieved, w_a0_parting, w_a0_primeSums, w_a0_progression, .ref h_a0_rows])), (h_a0_rows, .inr (5, [.ref q_a0_rows_values, .int a0_rows_many])), (q_a0_rows_values, .inl (cJ, 9600, .inr (.inl a0_rows_values)))] sz) (qc_X8_tell_c1 dC dI cI cJ cZ h_a0 w_a0_primes w_a0_sieved w_a0_parting w_a0_primeSums w_a0_progression h_a0_rows a0_rows_values q_a0_rows_values a0_rows_many Q (va_A [(h_a0, .inr (7, [w_a0_primes, w_a0_sieved, w_a0_parting, w_a0_primeSums, w_a0_progression, .ref h_a0_rows])), (h_a0_rows, .inr (5, [.ref q_a0_rows_values, .int a0_rows_many])), (q_a0_rows_values, .inl (cJ, 9600, .inr (.inl a0_rows_values)))] sz)) 0 0 (va_A [(h_a0, .inr (7, [w_a0_primes, w_a0_sieved, w_a0_parting, w_a0_primeSums, w_a0_progression, .ref h_a0_rows])), (h_a0_rows, .inr (5, [.ref q_a0_rows_values, .int a0_rows_many])), (q_a0_rows_values, .inl (cJ, 9600, .inr (.inl a0_rows_values)))] sz) := by
  refine Met.ofW (cc := cX8_tell) (maxL := 5) (ret := (some .boolean)) (by decide) rfl ?_
  intro p e s m args below meth c s₁ B hml hv
  obtain ⟨rfl, hsz, hP, hK, hN, hD0⟩ := hv
  have hx := B.exec
  have hb := B.bytes
  have hr := B.returns
  have hts := atoms_spec (ws := wsX8_tell) B.pre
  have hown : s.vm.findClass RX8 = some m.cls := findClass_of_methodNamed B.named
  subst hsz
  have hD := hD0.self (sz := s.heap.size)
  generalize hAe : va_A [(h_a0, .inr (7, [w_a0_primes, w_a0_sieved, w_a0_parting, w_a0_primeSums, w_a0_progression, .ref h_a0_rows])), (h_a0_rows, .inr (5, [.ref q_a0_rows_values, .int a0_rows_many])), (q_a0_rows_values, .inl (cJ, 9600, .inr (.inl a0_rows_values)))] s.heap.size = A at hD ⊢
  have hA : ∀ q : Nat, s.heap.size ≤ q → A q := fun q h => by rw [← hAe]; exact Or.inr h
  have hS : va_S A s.heap s.heap [] := va_S.rf
  have hl := lv_entry ([.ref h_a0, .int p1, .int p2, .long p3]) (n := 5) (Nat.le_of_ble_eq_true rfl)
  rw [lg_entry_eq]
  generalize (lg_sl ([.ref h_a0, .int p1, .int p2, .long p3]) ++ List.replicate (5 - (lg_sl ([.ref h_a0, .int p1, .int p2, .long p3])).length) Slot.unset).toArray = ls at hl ⊢
  have hl : lv_has ls 5 [(0, .ref h_a0), (1, .int p1), (2, .int p2), (3, .long p3)] := hl
  have h := hQ
  unfold wp_X8_tell_c1 at h
  have hw_0 := hts (.fieldLink RX8 147 "NumberSieves" "rows" "LNumberSieves$Rows;") (by decide +kernel)
  have hin_X8 : ∀ w ∈ wsX80, w ∈ wsX8_tell := by decide +kernel
  refine lv_aload_n hx hb dX8_tell_0 rfl (lv_at hl 0 rfl) ?_
  refine lv_iload_n hx hb dX8_tell_1 rfl (lv_at hl 1 rfl) ?_
  have hPc := hP.sub (ws' := [(h_a0, .inr (7, [w_a0_primes, w_a0_sieved, w_a0_parting, w_a0_primeSums, w_a0_progression, .ref h_a0_rows])), (h_a0_rows, .inr (5, [.ref q_a0_rows_values, .int a0_rows_many])), (q_a0_rows_values, .inl (cJ, 9600, .inr (.inl a0_rows_values)))]) [0, 1, 2] rfl
  have hDc := hD.sub (ws' := [(h_a0, .inr (7, [w_a0_primes, w_a0_sieved, w_a0_parting, w_a0_primeSums, w_a0_progression, .ref h_a0_rows])), (h_a0_rows, .inr (5, [.ref q_a0_rows_values, .int a0_rows_many])), (q_a0_rows_values, .inl (cJ, 9600, .inr (.inl a0_rows_values)))]) [0, 1, 2] (by decide) rfl
  have hFc := va_free (wc := [(h_a0, .inr (7, [w_a0_primes, w_a0_sieved, w_a0_parting, w_a0_primeSums, w_a0_progression, .ref h_a0_rows])), (h_a0_rows, .inr (5, [.ref q_a0_rows_values, .int a0_rows_many])), (q_a0_rows_values, .inl (cJ, 9600, .inr (.inl a0_rows_values)))]) hD hS hA [0, 1, 2] rfl
  refine va_calli (va_runV (As := [.int p1]) (rest := []) ⟨hx, hb, hml, hown, hts⟩ (c_X8_hasRow_c1 l dC dI cI cJ cZ _ h_a0 (w_a0_primes) (w_a0_sieved) (w_a0_parting) (w_a0_primeSums) (w_a0_progression) h_a0_rows a0_rows_values q_a0_rows_values a0_rows_many p1 _ h) (cwV 1 hts gX8_tell_X8_hasRow rfl rfl rfl (by decide +kernel) ⟨Nat.le_of_ble_eq_true rfl, Nat.le_of_ble_eq_true rfl⟩) ⟨pre_fb, va_recv hK hPc (ci := 7) (q0 := 0) rfl rfl, pre_of hPc hDc hK hN⟩ rfl rfl hl.1 rfl (lv_room (Nat.le_of_ble_eq_true rfl)) dX8_tell_2 ⟨by first | exact Nat.le_of_ble_eq_true rfl | exact Nat.le_refl _, by first | exact Nat.le_of_ble_eq_true rfl | exact Nat.le_refl _⟩) hS (fun q _ h => hFc q h) hFc (fun r_1 u t H1 locs ht hvm h hB hz1 hk1 hS => ?_)
  obtain ⟨hP1, hD1⟩ := hB
  rw [ht] at hP1
  try dsimp only at h
  obtain ⟨hP, hD⟩ := va_join (wr := []) (w1 := [(h_a0, .inr (7, [w_a0_primes, w_a0_sieved, w_a0_parting, w_a0_primeSums, w_a0_progression, .ref h_a0_rows])), (h_a0_rows, .inr (5, [.ref q_a0_rows_values, .int a0_rows_many])), (q_a0_rows_values, .inl (cJ, 9600, .inr (.inl a0_rows_values)))]) hP hD [0, 1, 2] [] rfl rfl (by decide) (by decide) hk1 hFc hP1 hD1
  generalize H1 = H at hP hS ⊢
  have hP : va_P (dC, dI) vwCl [(h_a0, .inr (7, [w_a0_primes, w_a0_sieved, w_a0_parting, w_a0_primeSums, w_a0_progression, .ref h_a0_rows])), (h_a0_rows, .inr (5, [.ref q_a0_rows_values, .int a0_rows_many])), (q_a0_rows_values, .inl (cJ, 9600, .inr (.inl a0_rows_values)))] H := hP
  have hD : va_D A [(h_a0, .inr (7, [w_a0_primes, w_a0_sieved, w_a0_parting, w_a0_primeSums, w_a0_progression, .ref h_a0_rows])), (h_a0_rows, .inr (5, [.ref q_a0_rows_values, .int a0_rows_many])), (q_a0_rows_values, .inl (cJ, 9600, .inr (.inl a0_rows_values)))] := hD
  refine lv_if_eq (tgt := 20) hx hb dX8_tell_5 (by decide) (fun c_2 => ?_) (fun c_2 => ?_)
  · replace h := h.1 c_2
    refine lv_iconst (v := (0 : Int32)) hx hb dX8_tell_20 (by decide) ?_
    have hP9 := hP.sub (ws' := [(h_a0, .inr (7, [w_a0_primes, w_a0_sieved, w_a0_parting, w_a0_primeSums, w_a0_progression, .ref h_a0_rows])), (h_a0_rows, .inr (5, [.ref q_a0_rows_values, .int a0_rows_many])), (q_a0_rows_values, .inl (cJ, 9600, .inr (.inl a0_rows_values)))]) [0, 1, 2] rfl
    have hD9 := hD.sub (ws' := [(h_a0, .inr (7, [w_a0_primes, w_a0_sieved, w_a0_parting, w_a0_primeSums, w_a0_progression, .ref h_a0_rows])), (h_a0_rows, .inr (5, [.ref q_a0_rows_values, .int a0_rows_many])), (q_a0_rows_values, .inl (cJ, 9600, .inr (.inl a0_rows_values)))]) [0, 1, 2] (by decide) rfl
    exact W.zret (v := (0 : Int32)) hx hb hr (by decide) (fun t ht hW => ⟨⟨_, a0_rows_values, rfl, h, by rw [ht]; exact hP9, hD9⟩, hS.F ht⟩) hS.2.2 dX8_tell_21
  · replace h := h.2 c_2
    refine lv_iload_n hx hb dX8_tell_8 rfl (lv_at hl 2 rfl) ?_
    refine lv_iconst (v := (1 : Int32)) hx hb dX8_tell_9 (by decide) ?_
    refine lv_icmp_lt (tgt := 20) hx hb dX8_tell_10 (by decide) (fun c_3 => ?_) (fun c_3 => ?_)
    · replace h := h.1 c_3
      refine lv_iconst (v := (0 : Int32)) hx hb dX8_tell_20 (by decide) ?_
      have hP9 := hP.sub (ws' := [(h_a0, .inr (7, [w_a0_primes, w_a0_sieved, w_a0_parting, w_a0_primeSums, w_a0_progression, .ref h_a0_rows])), (h_a0_rows, .inr (5, [.ref q_a0_rows_values, .int a0_rows_many])), (q_a0_rows_values, .inl (cJ, 9600, .inr (.inl a0_rows_values)))]) [0, 1, 2] rfl
      have hD9 := hD.sub (ws' := [(h_a0, .inr (7, [w_a0_primes, w_a0_sieved, w_a0_parting, w_a0_primeSums, w_a0_progression, .ref h_a0_rows])), (h_a0_rows, .inr (5, [.ref q_a0_rows_values, .int a0_rows_many])), (q_a0_rows_values, .inl (cJ, 9600, .inr (.inl a0_rows_values)))]) [0, 1, 2] (by decide) rfl
      exact W.zret (v := (0 : Int32)) hx hb hr (by decide) (fun t ht hW => ⟨⟨_, a0_rows_values, rfl, h, by rw [ht]; exact hP9, hD9⟩, hS.F ht⟩) hS.2.2 dX8_tell_21
    · replace h := h.2 c_3
      refine lv_iload_n hx hb dX8_tell_13 rfl (lv_at hl 2 rfl) ?_
      refine lv_sipush (v := (600 : Int32)) hx hb dX8_tell_14 (by decide) ?_
      refine lv_icmp_le (tgt := 22) hx hb dX8_tell_17 (by decide) (fun c_4 => ?_) (fun c_4 => ?_)
      · replace h := h.1 c_4
        refine lv_aload_n hx hb dX8_tell_22 rfl (lv_at hl 0 rfl) ?_
        refine va_get (D := (dC, dI)) (ci := 7) (v := .ref h_a0_rows) (C := RX8) (T := TX8) (N := 6) hx hb hts hin_X8 hown hK hP 0 rfl rfl 5 (by decide) hw_0 (fun _ h9 => h9) rfl dX8_tell_23 ?_
        refine lv_iload_n hx hb dX8_tell_26 rfl (lv_at hl 1 rfl) ?_
        refine lv_iload_n hx hb dX8_tell_27 rfl (lv_at hl 2 rfl) ?_
        refine lv_lload_n hx hb dX8_tell_28 rfl (lv_at hl 3 rfl) ?_
        have hPc := hP.sub (ws' := [(h_a0_rows, .inr (5, [.ref q_a0_rows_values, .int a0_rows_many])), (q_a0_rows_values, .inl (cJ, 9600, .inr (.inl a0_rows_values)))]) [1, 2] rfl
        have hDc := hD.sub (ws' := [(h_a0_rows, .inr (5, [.ref q_a0_rows_values, .int a0_rows_many])), (q_a0_rows_values, .inl (cJ, 9600, .inr (.inl a0_rows_values)))]) [1, 2] (by decide) rfl
        have hFc := va_free (wc := [(h_a0_rows, .inr (5, [.ref q_a0_rows_values, .int a0_rows_many])), (q_a0_rows_values, .inl (cJ, 9600, .inr (.inl a0_rows_values)))]) hD hS hA [1, 2] rfl
        refine va_callv (va_runV (As := [.int p1, .int p2, .long p3]) (rest := []) ⟨hx, hb, hml, hown, hts⟩ (c_X5_put l dC dI cI cJ cZ _ h_a0_rows a0_rows_values q_a0_rows_values a0_rows_many p1 p2 p3 _ h) (cwV 3 hts gX8_tell_X5_put rfl rfl rfl (by decide +kernel) ⟨Nat.le_of_ble_eq_true rfl, Nat.le_of_ble_eq_true rfl⟩) ⟨pre_fb, va_recv hK hPc (ci := 5) (q0 := 0) rfl rfl, pre_of hPc hDc hK hN⟩ rfl rfl hl.1 rfl (lv_room (Nat.le_of_ble_eq_true rfl)) dX8_tell_29 ⟨by first | exact Nat.le_of_ble_eq_true rfl | exact Nat.le_refl _, by first | exact Nat.le_of_ble_eq_true rfl | exact Nat.le_refl _⟩) hS (fun q _ h => hFc q h) hFc (fun u t H1 locs ht hvm h hB hz1 hk1 hS => ?_)
        obtain ⟨o_5, rfl⟩ : ∃ z, z = u := ⟨_, rfl⟩
        obtain ⟨hP1, hD1⟩ := hB
        rw [ht] at hP1
        try dsimp only at h
        obtain ⟨hP, hD⟩ := va_join (wr := [(h_a0, .inr (7, [w_a0_primes, w_a0_sieved, w_a0_parting, w_a0_primeSums, w_a0_progression, .ref h_a0_rows]))]) (w1 := [(h_a0_rows, .inr (5, [.ref q_a0_rows_values, .int a0_rows_many])), (q_a0_rows_values, .inl (cJ, 9600, .inr (.inl o_5)))]) hP hD [1, 2] [0] rfl rfl (by decide) (by decide) hk1 hFc hP1 hD1
        generalize H1 = H at hP hS ⊢
        have hP : va_P (dC, dI) vwCl [(h_a0, .inr (7, [w_a0_primes, w_a0_sieved, w_a0_parting, w_a0_primeSums, w_a0_progression, .ref h_a0_rows])), (h_a0_rows, .inr (5, [.ref q_a0_rows_values, .int a0_rows_many])), (q_a0_rows_values, .inl (cJ, 9600, .inr (.inl o_5)))] H := hP
        have hD : va_D A [(h_a0, .inr (7, [w_a0_primes, w_a0_sieved, w_a0_parting, w_a0_primeSums, w_a0_progression, .ref h_a0_rows])), (h_a0_rows, .inr (5, [.ref q_a0_rows_values, .int a0_rows_many])), (q_a0_rows_values, .inl (cJ, 9600, .inr (.inl o_5)))] := hD
        refine lv_iconst (v := (1 : Int32)) hx hb dX8_tell_32 (by decide) ?_
        have hP9 := hP.sub (ws' := [(h_a0, .inr (7, [w_a0_primes, w_a0_sieved, w_a0_parting, w_a0_primeSums, w_a0_progression, .ref h_a0_rows])), (h_a0_rows, .inr (5, [.ref q_a0_rows_values, .int a0_rows_many])), (q_a0_rows_values, .inl (cJ, 9600, .inr (.inl o_5)))]) [0, 1, 2] rfl
        have hD9 := hD.sub (ws' := [(h_a0, .inr (7, [w_a0_primes, w_a0_sieved, w_a0_parting, w_a0_primeSums, w_a0_progression, .ref h_a0_rows])), (h_a0_rows, .inr (5, [.ref q_a0_rows_values, .int a0_rows_many])), (q_a0_rows_values, .inl (cJ, 9600, .inr (.inl o_5)))]) [0, 1, 2] (by decide) rfl
        exact W.zret (v := (1 : Int32)) hx hb hr (by decide) (fun t ht hW => ⟨⟨_, o_5, rfl, h, by rw [ht]; exact hP9, hD9⟩, hS.F ht⟩) hS.2.2 dX8_tell_33
      · replace h := h.2 c_4
        refine lv_iconst (v := (0 : Int32)) hx hb dX8_tell_20 (by decide) ?_
        have hP9 := hP.sub (ws' := [(h_a0, .inr (7, [w_a0_primes, w_a0_sieved, w_a0_parting, w_a0_primeSums, w_a0_progression, .ref h_a0_rows])), (h_a0_rows, .inr (5, [.ref q_a0_rows_values, .int a0_rows_many])), (q_a0_rows_values, .inl (cJ, 9600, .inr (.inl a0_rows_values)))]) [0, 1, 2] rfl
        have hD9 := hD.sub (ws' := [(h_a0, .inr (7, [w_a0_primes, w_a0_sieved, w_a0_parting, w_a0_primeSums, w_a0_progression, .ref h_a0_rows])), (h_a0_rows, .inr (5, [.ref q_a0_rows_values, .int a0_rows_many])), (q_a0_rows_values, .inl (cJ, 9600, .inr (.inl a0_rows_values)))]) [0, 1, 2] (by decide) rfl
        exact W.zret (v := (0 : Int32)) hx hb hr (by decide) (fun t ht hW => ⟨⟨_, a0_rows_values, rfl, h, by rw [ht]; exact hP9, hD9⟩, hS.F ht⟩) hS.2.2 dX8_tell_21
def wp_X8_product_c0 (mcP msP : Nat)  (p1 : Int32) (p2 : Int32) (Q : Int32 → Option ((Nat → Int64) × Int32) → Prop) : Prop :=
  wp_X8_hasRow_c0 p1 (fun r_1 => ((r_1 = (0 : Int32) → Q (-1 : Int32) none) ∧ (¬ r_1 = (0 : Int32) → wp_X8_hasRow_c0 p2 (fun r_3 => ((r_3 = (0 : Int32) → Q (-1 : Int32) none) ∧ (¬ r_3 = (0 : Int32) → (2 ≤ mcP ∧ 9602 ≤ msP ∧ wp_X8_newRow_c0 (fun r_5 o_6 o_7 => ((r_5 = (-1 : Int32) → Q r_5 (some (o_6, o_7))) ∧ (¬ r_5 = (-1 : Int32) → wp_X5_fillByProduct o_6 r_5 p1 p2 (fun o_13 => Q r_5 (some (o_13, o_7)))))))))))))
abbrev rm_X8_product_c0 (mcP msP : Nat) : Room := { frames := 4, cells := mcP, slots := msP, locals := 96 }
abbrev qc_X8_product_c0 (dC : Nat → ClassId) (dI : Nat → Nat → Nat) (cI cJ cZ : ClassId) (h_a0 : Nat) (w_a0_primes : Value) (w_a0_sieved : Value) (w_a0_parting : Value) (w_a0_primeSums : Value) (w_a0_progression : Value) (Q : Int32 → Option ((Nat → Int64) × Int32) → Prop) (A : Nat → Prop) : Array Value → State → Outcome → State → Prop := va_Qi (fun (r : Int32) (u : Option ((Nat × Nat) × ((Nat → Int64) × Int32))) => Q r (u.map Prod.snd)) (post_ dC dI A (fun (u : Option ((Nat × Nat) × ((Nat → Int64) × Int32))) => ([(h_a0, .inr (7, [w_a0_primes, w_a0_sieved, w_a0_parting, w_a0_primeSums, w_a0_progression, (match u with | none => Value.null | some w => Value.ref w.1.1)]))] : va_W) ++ (match u with | none => ([] : va_W) | some w => [(w.1.1, .inr (5, [.ref w.1.2, .int w.2.2])), (w.1.2, .inl (cJ, 9600, .inr (.inl (w.2.1))))]))) A
set_option maxHeartbeats 4000000 in
set_option maxRecDepth 100000 in
theorem c_X8_product_c0 (l : Launch) (dC : Nat → ClassId) (dI : Nat → Nat → Nat) (cI cJ cZ : ClassId) (sz : Nat) (mcP msP : Nat) (h_a0 : Nat) (w_a0_primes : Value) (w_a0_sieved : Value) (w_a0_parting : Value) (w_a0_primeSums : Value) (w_a0_progression : Value) (p1 : Int32) (p2 : Int32) (Q : Int32 → Option ((Nat → Int64) × Int32) → Prop) (hQ : wp_X8_product_c0 mcP msP p1 p2 Q) : Met l yX8_product wsX8_product (rm_X8_product_c0 mcP msP) (pre_ dC dI cI cJ cZ [.ref h_a0, .int p1, .int p2] [(h_a0, .inr (7, [w_a0_primes, w_a0_sieved, w_a0_parting, w_a0_primeSums, w_a0_progression, .null]))] sz) (qc_X8_product_c0 dC dI cI cJ cZ h_a0 w_a0_primes w_a0_sieved w_a0_parting w_a0_primeSums w_a0_progression Q (va_A [(h_a0, .inr (7, [w_a0_primes, w_a0_sieved, w_a0_parting, w_a0_primeSums, w_a0_progression, .null]))] sz)) mcP msP (va_A [(h_a0, .inr (7, [w_a0_primes, w_a0_sieved, w_a0_parting, w_a0_primeSums, w_a0_progression, .null]))] sz) := by
  refine Met.ofW (cc := cX8_product) (maxL := 4) (ret := (some .int)) (by decide) rfl ?_
  intro p e s m args below meth c s₁ B hml hv
  obtain ⟨rfl, hsz, hP, hK, hN, hD0⟩ := hv
  have hx := B.exec
  have hb := B.bytes
  have hr := B.returns
  have hts := atoms_spec (ws := wsX8_product) B.pre
  have hown : s.vm.findClass RX8 = some m.cls := findClass_of_methodNamed B.named
  subst hsz
  have hD := hD0.self (sz := s.heap.size)
  generalize hAe : va_A [(h_a0, .inr (7, [w_a0_primes, w_a0_sieved, w_a0_parting, w_a0_primeSums, w_a0_progression, .null]))] s.heap.size = A at hD ⊢
  have hA : ∀ q : Nat, s.heap.size ≤ q → A q := fun q h => by rw [← hAe]; exact Or.inr h
  have hS : va_S A s.heap s.heap [] := va_S.rf
  have hl := lv_entry ([.ref h_a0, .int p1, .int p2]) (n := 4) (Nat.le_of_ble_eq_true rfl)
  rw [lg_entry_eq]
  generalize (lg_sl ([.ref h_a0, .int p1, .int p2]) ++ List.replicate (4 - (lg_sl ([.ref h_a0, .int p1, .int p2])).length) Slot.unset).toArray = ls at hl ⊢
  have hl : lv_has ls 4 [(0, .ref h_a0), (1, .int p1), (2, .int p2)] := hl
  have h := hQ
  unfold wp_X8_product_c0 at h
  have hw_0 := hts (.fieldLink RX8 147 "NumberSieves" "rows" "LNumberSieves$Rows;") (by decide +kernel)
  have hin_X8 : ∀ w ∈ wsX80, w ∈ wsX8_product := by decide +kernel
  refine lv_aload_n hx hb dX8_product_0 rfl (lv_at hl 0 rfl) ?_
  refine lv_iload_n hx hb dX8_product_1 rfl (lv_at hl 1 rfl) ?_
  have hPc := hP.sub (ws' := [(h_a0, .inr (7, [w_a0_primes, w_a0_sieved, w_a0_parting, w_a0_primeSums, w_a0_progression, .null]))]) [0] rfl
  have hDc := hD.sub (ws' := [(h_a0, .inr (7, [w_a0_primes, w_a0_sieved, w_a0_parting, w_a0_primeSums, w_a0_progression, .null]))]) [0] (by decide) rfl
  have hFc := va_free (wc := [(h_a0, .inr (7, [w_a0_primes, w_a0_sieved, w_a0_parting, w_a0_primeSums, w_a0_progression, .null]))]) hD hS hA [0] rfl
  refine va_calli (va_runV (As := [.int p1]) (rest := []) ⟨hx, hb, hml, hown, hts⟩ (c_X8_hasRow_c0 l dC dI cI cJ cZ _ h_a0 (w_a0_primes) (w_a0_sieved) (w_a0_parting) (w_a0_primeSums) (w_a0_progression) p1 _ h) (cwV 1 hts gX8_product_X8_hasRow rfl rfl rfl (by decide +kernel) ⟨Nat.le_of_ble_eq_true rfl, Nat.le_of_ble_eq_true rfl⟩) ⟨pre_fb, va_recv hK hPc (ci := 7) (q0 := 0) rfl rfl, pre_of hPc hDc hK hN⟩ rfl rfl hl.1 rfl (lv_room (Nat.le_of_ble_eq_true rfl)) dX8_product_2 ⟨by show _ ≤ mcP; omega, by show _ ≤ msP; omega⟩) hS (fun q _ h => hFc q h) hFc (fun r_1 u t H1 locs ht hvm h hB hz1 hk1 hS => ?_)
  obtain ⟨hP1, hD1⟩ := hB
  rw [ht] at hP1
  try dsimp only at h
  obtain ⟨hP, hD⟩ := va_join (wr := []) (w1 := [(h_a0, .inr (7, [w_a0_primes, w_a0_sieved, w_a0_parting, w_a0_primeSums, w_a0_progression, .null]))]) hP hD [0] [] rfl rfl (by decide) (by decide) hk1 hFc hP1 hD1
  generalize H1 = H at hP hS ⊢
  have hP : va_P (dC, dI) vwCl [(h_a0, .inr (7, [w_a0_primes, w_a0_sieved, w_a0_parting, w_a0_primeSums, w_a0_progression, .null]))] H := hP
  have hD : va_D A [(h_a0, .inr (7, [w_a0_primes, w_a0_sieved, w_a0_parting, w_a0_primeSums, w_a0_progression, .null]))] := hD
  refine lv_if_eq (tgt := 16) hx hb dX8_product_5 (by decide) (fun c_2 => ?_) (fun c_2 => ?_)
  · replace h := h.1 c_2
    refine lv_iconst (v := (-1 : Int32)) hx hb dX8_product_16 (by decide) ?_
    have hP9 := hP.sub (ws' := [(h_a0, .inr (7, [w_a0_primes, w_a0_sieved, w_a0_parting, w_a0_primeSums, w_a0_progression, .null]))]) [0] rfl
    have hD9 := hD.sub (ws' := [(h_a0, .inr (7, [w_a0_primes, w_a0_sieved, w_a0_parting, w_a0_primeSums, w_a0_progression, .null]))]) [0] (by decide) rfl
    refine W.widen (k := mcP) (n := msP) (by first | omega | exact Nat.le_of_ble_eq_true rfl) (by first | omega | exact Nat.le_of_ble_eq_true rfl) ?_
    exact W.iret (v := (-1 : Int32)) hx hb hr (fun t ht hW => ⟨⟨_, none, rfl, h, by rw [ht]; exact hP9, hD9⟩, hS.F ht⟩) hS.2.2 dX8_product_17
  · replace h := h.2 c_2
    refine lv_aload_n hx hb dX8_product_8 rfl (lv_at hl 0 rfl) ?_
    refine lv_iload_n hx hb dX8_product_9 rfl (lv_at hl 2 rfl) ?_
    have hPc := hP.sub (ws' := [(h_a0, .inr (7, [w_a0_primes, w_a0_sieved, w_a0_parting, w_a0_primeSums, w_a0_progression, .null]))]) [0] rfl
    have hDc := hD.sub (ws' := [(h_a0, .inr (7, [w_a0_primes, w_a0_sieved, w_a0_parting, w_a0_primeSums, w_a0_progression, .null]))]) [0] (by decide) rfl
    have hFc := va_free (wc := [(h_a0, .inr (7, [w_a0_primes, w_a0_sieved, w_a0_parting, w_a0_primeSums, w_a0_progression, .null]))]) hD hS hA [0] rfl
    refine va_calli (va_runV (As := [.int p2]) (rest := []) ⟨hx, hb, hml, hown, hts⟩ (c_X8_hasRow_c0 l dC dI cI cJ cZ _ h_a0 (w_a0_primes) (w_a0_sieved) (w_a0_parting) (w_a0_primeSums) (w_a0_progression) p2 _ h) (cwV 1 hts gX8_product_X8_hasRow rfl rfl rfl (by decide +kernel) ⟨Nat.le_of_ble_eq_true rfl, Nat.le_of_ble_eq_true rfl⟩) ⟨pre_fb, va_recv hK hPc (ci := 7) (q0 := 0) rfl rfl, pre_of hPc hDc hK hN⟩ rfl rfl hl.1 rfl (lv_room (Nat.le_of_ble_eq_true rfl)) dX8_product_10 ⟨by show _ ≤ mcP; omega, by show _ ≤ msP; omega⟩) hS (fun q _ h => hFc q h) hFc (fun r_3 u t H1 locs ht hvm h hB hz1 hk1 hS => ?_)
    obtain ⟨hP1, hD1⟩ := hB
    rw [ht] at hP1
    try dsimp only at h
    obtain ⟨hP, hD⟩ := va_join (wr := []) (w1 := [(h_a0, .inr (7, [w_a0_primes, w_a0_sieved, w_a0_parting, w_a0_primeSums, w_a0_progression, .null]))]) hP hD [0] [] rfl rfl (by decide) (by decide) hk1 hFc hP1 hD1
    generalize H1 = H at hP hS ⊢
    have hP : va_P (dC, dI) vwCl [(h_a0, .inr (7, [w_a0_primes, w_a0_sieved, w_a0_parting, w_a0_primeSums, w_a0_progression, .null]))] H := hP
    have hD : va_D A [(h_a0, .inr (7, [w_a0_primes, w_a0_sieved, w_a0_parting, w_a0_primeSums, w_a0_progression, .null]))] := hD
    refine lv_if_ne (tgt := 18) hx hb dX8_product_13 (by decide) (fun c_4 => ?_) (fun c_4 => ?_)
    · replace h := h.2 c_4
      refine lv_aload_n hx hb dX8_product_18 rfl (lv_at hl 0 rfl) ?_
      have hPc := hP.sub (ws' := [(h_a0, .inr (7, [w_a0_primes, w_a0_sieved, w_a0_parting, w_a0_primeSums, w_a0_progression, .null]))]) [0] rfl
      have hDc := hD.sub (ws' := [(h_a0, .inr (7, [w_a0_primes, w_a0_sieved, w_a0_parting, w_a0_primeSums, w_a0_progression, .null]))]) [0] (by decide) rfl
      have hFc := va_free (wc := [(h_a0, .inr (7, [w_a0_primes, w_a0_sieved, w_a0_parting, w_a0_primeSums, w_a0_progression, .null]))]) hD hS hA [0] rfl
      obtain ⟨hm_8, hm_9, h⟩ := h
      refine va_calli (va_runV (As := []) (rest := []) ⟨hx, hb, hml, hown, hts⟩ (c_X8_newRow_c0 l dC dI cI cJ cZ _ h_a0 (w_a0_primes) (w_a0_sieved) (w_a0_parting) (w_a0_primeSums) (w_a0_progression) _ h) (cwV 0 hts gX8_product_X8_newRow rfl rfl rfl (by decide +kernel) ⟨Nat.le_of_ble_eq_true rfl, Nat.le_of_ble_eq_true rfl⟩) ⟨pre_fb, va_recv hK hPc (ci := 7) (q0 := 0) rfl rfl, pre_of hPc hDc hK hN⟩ rfl rfl hl.1 rfl (lv_room (Nat.le_of_ble_eq_true rfl)) dX8_product_19 ⟨hm_8, hm_9⟩) hS (fun q _ h => hFc q h) hFc (fun r_5 u t H1 locs ht hvm h hB hz1 hk1 hS => ?_)
      obtain ⟨q_10, q_11, o_6, o_7⟩ := u
      obtain ⟨hP1, hD1⟩ := hB
      rw [ht] at hP1
      try dsimp only at h
      obtain ⟨hP, hD⟩ := va_join (wr := []) (w1 := [(h_a0, .inr (7, [w_a0_primes, w_a0_sieved, w_a0_parting, w_a0_primeSums, w_a0_progression, .ref q_10])), (q_10, .inr (5, [.ref q_11, .int o_7])), (q_11, .inl (cJ, 9600, .inr (.inl o_6)))]) hP hD [0] [] rfl rfl (by decide) (by decide) hk1 hFc hP1 hD1
      generalize H1 = H at hP hS ⊢
      have hP : va_P (dC, dI) vwCl [(h_a0, .inr (7, [w_a0_primes, w_a0_sieved, w_a0_parting, w_a0_primeSums, w_a0_progression, .ref q_10])), (q_10, .inr (5, [.ref q_11, .int o_7])), (q_11, .inl (cJ, 9600, .inr (.inl o_6)))] H := hP
      have hD : va_D A [(h_a0, .inr (7, [w_a0_primes, w_a0_sieved, w_a0_parting, w_a0_primeSums, w_a0_progression, .ref q_10])), (q_10, .inr (5, [.ref q_11, .int o_7])), (q_11, .inl (cJ, 9600, .inr (.inl o_6)))] := hD
      refine W.widen (k := 2) (n := 9602) (by omega) (by omega) ?_
      refine lv_istore_n (lv' := [(3, .int r_5), (0, .ref h_a0), (1, .int p1), (2, .int p2)]) hx hb dX8_product_22 rfl hl (by decide) rfl (fun ls hl => ?_)
      refine lv_iload_n hx hb dX8_product_23 rfl (lv_at hl 0 rfl) ?_
      refine lv_iconst (v := (-1 : Int32)) hx hb dX8_product_24 (by decide) ?_
      refine lv_icmp_eq (tgt := 38) hx hb dX8_product_25 (by decide) (fun c_12 => ?_) (fun c_12 => ?_)
      · replace h := h.1 c_12
        refine lv_iload_n hx hb dX8_product_38 rfl (lv_at hl 0 rfl) ?_
        have hP9 := hP.sub (ws' := [(h_a0, .inr (7, [w_a0_primes, w_a0_sieved, w_a0_parting, w_a0_primeSums, w_a0_progression, .ref q_10])), (q_10, .inr (5, [.ref q_11, .int o_7])), (q_11, .inl (cJ, 9600, .inr (.inl o_6)))]) [0, 1, 2] rfl
        have hD9 := hD.sub (ws' := [(h_a0, .inr (7, [w_a0_primes, w_a0_sieved, w_a0_parting, w_a0_primeSums, w_a0_progression, .ref q_10])), (q_10, .inr (5, [.ref q_11, .int o_7])), (q_11, .inl (cJ, 9600, .inr (.inl o_6)))]) [0, 1, 2] (by decide) rfl
        refine W.widen (k := mcP) (n := msP) (by first | omega | exact Nat.le_of_ble_eq_true rfl) (by first | omega | exact Nat.le_of_ble_eq_true rfl) ?_
        exact W.iret (v := r_5) hx hb hr (fun t ht hW => ⟨⟨_, some ((q_10, q_11), (o_6, o_7)), rfl, h, by rw [ht]; exact hP9, hD9⟩, hS.F ht⟩) hS.2.2 dX8_product_39
      · replace h := h.2 c_12
        refine lv_aload_n hx hb dX8_product_28 rfl (lv_at hl 1 rfl) ?_
        refine va_get (D := (dC, dI)) (ci := 7) (v := .ref q_10) (C := RX8) (T := TX8) (N := 6) hx hb hts hin_X8 hown hK hP 0 rfl rfl 5 (by decide) hw_0 (fun _ h9 => h9) rfl dX8_product_29 ?_
        refine lv_iload_n hx hb dX8_product_32 rfl (lv_at hl 0 rfl) ?_
        refine lv_iload_n hx hb dX8_product_33 rfl (lv_at hl 2 rfl) ?_
        refine lv_iload_n hx hb dX8_product_34 rfl (lv_at hl 3 rfl) ?_
        have hPc := hP.sub (ws' := [(q_10, .inr (5, [.ref q_11, .int o_7])), (q_11, .inl (cJ, 9600, .inr (.inl o_6)))]) [1, 2] rfl
        have hDc := hD.sub (ws' := [(q_10, .inr (5, [.ref q_11, .int o_7])), (q_11, .inl (cJ, 9600, .inr (.inl o_6)))]) [1, 2] (by decide) rfl
        have hFc := va_free (wc := [(q_10, .inr (5, [.ref q_11, .int o_7])), (q_11, .inl (cJ, 9600, .inr (.inl o_6)))]) hD hS hA [1, 2] rfl
        refine va_callv (va_runV (As := [.int r_5, .int p1, .int p2]) (rest := []) ⟨hx, hb, hml, hown, hts⟩ (c_X5_fillByProduct l dC dI cI cJ cZ _ q_10 o_6 q_11 o_7 r_5 p1 p2 _ h) (cwV 3 hts gX8_product_X5_fillByProduct rfl rfl rfl (by decide +kernel) ⟨Nat.le_of_ble_eq_true rfl, Nat.le_of_ble_eq_true rfl⟩) ⟨pre_fb, va_recv hK hPc (ci := 5) (q0 := 0) rfl rfl, pre_of hPc hDc hK hN⟩ rfl rfl hl.1 rfl (lv_room (Nat.le_of_ble_eq_true rfl)) dX8_product_35 ⟨by show _ ≤ mcP; omega, by show _ ≤ msP; omega⟩) hS (fun q _ h => hFc q h) hFc (fun u t H1 locs ht hvm h hB hz1 hk1 hS => ?_)
        obtain ⟨o_13, rfl⟩ : ∃ z, z = u := ⟨_, rfl⟩
        obtain ⟨hP1, hD1⟩ := hB
        rw [ht] at hP1
        try dsimp only at h
        obtain ⟨hP, hD⟩ := va_join (wr := [(h_a0, .inr (7, [w_a0_primes, w_a0_sieved, w_a0_parting, w_a0_primeSums, w_a0_progression, .ref q_10]))]) (w1 := [(q_10, .inr (5, [.ref q_11, .int o_7])), (q_11, .inl (cJ, 9600, .inr (.inl o_13)))]) hP hD [1, 2] [0] rfl rfl (by decide) (by decide) hk1 hFc hP1 hD1
        generalize H1 = H at hP hS ⊢
        have hP : va_P (dC, dI) vwCl [(h_a0, .inr (7, [w_a0_primes, w_a0_sieved, w_a0_parting, w_a0_primeSums, w_a0_progression, .ref q_10])), (q_10, .inr (5, [.ref q_11, .int o_7])), (q_11, .inl (cJ, 9600, .inr (.inl o_13)))] H := hP
        have hD : va_D A [(h_a0, .inr (7, [w_a0_primes, w_a0_sieved, w_a0_parting, w_a0_primeSums, w_a0_progression, .ref q_10])), (q_10, .inr (5, [.ref q_11, .int o_7])), (q_11, .inl (cJ, 9600, .inr (.inl o_13)))] := hD
        refine lv_iload_n hx hb dX8_product_38 rfl (lv_at hl 0 rfl) ?_
        have hP9 := hP.sub (ws' := [(h_a0, .inr (7, [w_a0_primes, w_a0_sieved, w_a0_parting, w_a0_primeSums, w_a0_progression, .ref q_10])), (q_10, .inr (5, [.ref q_11, .int o_7])), (q_11, .inl (cJ, 9600, .inr (.inl o_13)))]) [0, 1, 2] rfl
        have hD9 := hD.sub (ws' := [(h_a0, .inr (7, [w_a0_primes, w_a0_sieved, w_a0_parting, w_a0_primeSums, w_a0_progression, .ref q_10])), (q_10, .inr (5, [.ref q_11, .int o_7])), (q_11, .inl (cJ, 9600, .inr (.inl o_13)))]) [0, 1, 2] (by decide) rfl
        refine W.widen (k := mcP) (n := msP) (by first | omega | exact Nat.le_of_ble_eq_true rfl) (by first | omega | exact Nat.le_of_ble_eq_true rfl) ?_
        exact W.iret (v := r_5) hx hb hr (fun t ht hW => ⟨⟨_, some ((q_10, q_11), (o_13, o_7)), rfl, h, by rw [ht]; exact hP9, hD9⟩, hS.F ht⟩) hS.2.2 dX8_product_39
    · replace h := h.1 c_4
      refine lv_iconst (v := (-1 : Int32)) hx hb dX8_product_16 (by decide) ?_
      have hP9 := hP.sub (ws' := [(h_a0, .inr (7, [w_a0_primes, w_a0_sieved, w_a0_parting, w_a0_primeSums, w_a0_progression, .null]))]) [0] rfl
      have hD9 := hD.sub (ws' := [(h_a0, .inr (7, [w_a0_primes, w_a0_sieved, w_a0_parting, w_a0_primeSums, w_a0_progression, .null]))]) [0] (by decide) rfl
      refine W.widen (k := mcP) (n := msP) (by first | omega | exact Nat.le_of_ble_eq_true rfl) (by first | omega | exact Nat.le_of_ble_eq_true rfl) ?_
      exact W.iret (v := (-1 : Int32)) hx hb hr (fun t ht hW => ⟨⟨_, none, rfl, h, by rw [ht]; exact hP9, hD9⟩, hS.F ht⟩) hS.2.2 dX8_product_17
def wp_X8_product_c1 (a0_rows_values : Nat → Int64) (a0_rows_many : Int32) (p1 : Int32) (p2 : Int32) (Q : Int32 → Int32 → (Nat → Int64) → Prop) : Prop :=
  wp_X8_hasRow_c1 a0_rows_many p1 (fun r_1 => ((r_1 = (0 : Int32) → Q (-1 : Int32) a0_rows_many a0_rows_values) ∧ (¬ r_1 = (0 : Int32) → wp_X8_hasRow_c1 a0_rows_many p2 (fun r_3 => ((r_3 = (0 : Int32) → Q (-1 : Int32) a0_rows_many a0_rows_values) ∧ (¬ r_3 = (0 : Int32) → wp_X8_newRow_c1 a0_rows_values a0_rows_many (fun r_5 o_6 o_7 => ((r_5 = (-1 : Int32) → Q r_5 o_6 o_7) ∧ (¬ r_5 = (-1 : Int32) → wp_X5_fillByProduct o_7 r_5 p1 p2 (fun o_9 => Q r_5 o_6 o_9))))))))))
abbrev rm_X8_product_c1 : Room := { frames := 4, cells := 0, slots := 0, locals := 96 }
abbrev qc_X8_product_c1 (dC : Nat → ClassId) (dI : Nat → Nat → Nat) (cI cJ cZ : ClassId) (h_a0 : Nat) (w_a0_primes : Value) (w_a0_sieved : Value) (w_a0_parting : Value) (w_a0_primeSums : Value) (w_a0_progression : Value) (h_a0_rows : Nat) (a0_rows_values : Nat → Int64) (q_a0_rows_values : Nat) (a0_rows_many : Int32) (Q : Int32 → Int32 → (Nat → Int64) → Prop) (A : Nat → Prop) : Array Value → State → Outcome → State → Prop := va_Qi (fun (r : Int32) (u : Int32 × (Nat → Int64)) => Q r u.1 u.2) (post_ dC dI A (fun (u : Int32 × (Nat → Int64)) => ([(h_a0, .inr (7, [w_a0_primes, w_a0_sieved, w_a0_parting, w_a0_primeSums, w_a0_progression, .ref h_a0_rows])), (h_a0_rows, .inr (5, [.ref q_a0_rows_values, .int u.1])), (q_a0_rows_values, .inl (cJ, 9600, .inr (.inl (u.2))))] : va_W))) A
set_option maxHeartbeats 4000000 in
set_option maxRecDepth 100000 in
theorem c_X8_product_c1 (l : Launch) (dC : Nat → ClassId) (dI : Nat → Nat → Nat) (cI cJ cZ : ClassId) (sz : Nat) (h_a0 : Nat) (w_a0_primes : Value) (w_a0_sieved : Value) (w_a0_parting : Value) (w_a0_primeSums : Value) (w_a0_progression : Value) (h_a0_rows : Nat) (a0_rows_values : Nat → Int64) (q_a0_rows_values : Nat) (a0_rows_many : Int32) (p1 : Int32) (p2 : Int32) (Q : Int32 → Int32 → (Nat → Int64) → Prop) (hQ : wp_X8_product_c1 a0_rows_values a0_rows_many p1 p2 Q) : Met l yX8_product wsX8_product rm_X8_product_c1 (pre_ dC dI cI cJ cZ [.ref h_a0, .int p1, .int p2] [(h_a0, .inr (7, [w_a0_primes, w_a0_sieved, w_a0_parting, w_a0_primeSums, w_a0_progression, .ref h_a0_rows])), (h_a0_rows, .inr (5, [.ref q_a0_rows_values, .int a0_rows_many])), (q_a0_rows_values, .inl (cJ, 9600, .inr (.inl a0_rows_values)))] sz) (qc_X8_product_c1 dC dI cI cJ cZ h_a0 w_a0_primes w_a0_sieved w_a0_parting w_a0_primeSums w_a0_progression h_a0_rows a0_rows_values q_a0_rows_values a0_rows_many Q (va_A [(h_a0, .inr (7, [w_a0_primes, w_a0_sieved, w_a0_parting, w_a0_primeSums, w_a0_progression, .ref h_a0_rows])), (h_a0_rows, .inr (5, [.ref q_a0_rows_values, .int a0_rows_many])), (q_a0_rows_values, .inl (cJ, 9600, .inr (.inl a0_rows_values)))] sz)) 0 0 (va_A [(h_a0, .inr (7, [w_a0_primes, w_a0_sieved, w_a0_parting, w_a0_primeSums, w_a0_progression, .ref h_a0_rows])), (h_a0_rows, .inr (5, [.ref q_a0_rows_values, .int a0_rows_many])), (q_a0_rows_values, .inl (cJ, 9600, .inr (.inl a0_rows_values)))] sz) := by
  refine Met.ofW (cc := cX8_product) (maxL := 4) (ret := (some .int)) (by decide) rfl ?_
  intro p e s m args below meth c s₁ B hml hv
  obtain ⟨rfl, hsz, hP, hK, hN, hD0⟩ := hv
  have hx := B.exec
  have hb := B.bytes
  have hr := B.returns
  have hts := atoms_spec (ws := wsX8_product) B.pre
  have hown : s.vm.findClass RX8 = some m.cls := findClass_of_methodNamed B.named
  subst hsz
  have hD := hD0.self (sz := s.heap.size)
  generalize hAe : va_A [(h_a0, .inr (7, [w_a0_primes, w_a0_sieved, w_a0_parting, w_a0_primeSums, w_a0_progression, .ref h_a0_rows])), (h_a0_rows, .inr (5, [.ref q_a0_rows_values, .int a0_rows_many])), (q_a0_rows_values, .inl (cJ, 9600, .inr (.inl a0_rows_values)))] s.heap.size = A at hD ⊢
  have hA : ∀ q : Nat, s.heap.size ≤ q → A q := fun q h => by rw [← hAe]; exact Or.inr h
  have hS : va_S A s.heap s.heap [] := va_S.rf
  have hl := lv_entry ([.ref h_a0, .int p1, .int p2]) (n := 4) (Nat.le_of_ble_eq_true rfl)
  rw [lg_entry_eq]
  generalize (lg_sl ([.ref h_a0, .int p1, .int p2]) ++ List.replicate (4 - (lg_sl ([.ref h_a0, .int p1, .int p2])).length) Slot.unset).toArray = ls at hl ⊢
  have hl : lv_has ls 4 [(0, .ref h_a0), (1, .int p1), (2, .int p2)] := hl
  have h := hQ
  unfold wp_X8_product_c1 at h
  have hw_0 := hts (.fieldLink RX8 147 "NumberSieves" "rows" "LNumberSieves$Rows;") (by decide +kernel)
  have hin_X8 : ∀ w ∈ wsX80, w ∈ wsX8_product := by decide +kernel
  refine lv_aload_n hx hb dX8_product_0 rfl (lv_at hl 0 rfl) ?_
  refine lv_iload_n hx hb dX8_product_1 rfl (lv_at hl 1 rfl) ?_
  have hPc := hP.sub (ws' := [(h_a0, .inr (7, [w_a0_primes, w_a0_sieved, w_a0_parting, w_a0_primeSums, w_a0_progression, .ref h_a0_rows])), (h_a0_rows, .inr (5, [.ref q_a0_rows_values, .int a0_rows_many])), (q_a0_rows_values, .inl (cJ, 9600, .inr (.inl a0_rows_values)))]) [0, 1, 2] rfl
  have hDc := hD.sub (ws' := [(h_a0, .inr (7, [w_a0_primes, w_a0_sieved, w_a0_parting, w_a0_primeSums, w_a0_progression, .ref h_a0_rows])), (h_a0_rows, .inr (5, [.ref q_a0_rows_values, .int a0_rows_many])), (q_a0_rows_values, .inl (cJ, 9600, .inr (.inl a0_rows_values)))]) [0, 1, 2] (by decide) rfl
  have hFc := va_free (wc := [(h_a0, .inr (7, [w_a0_primes, w_a0_sieved, w_a0_parting, w_a0_primeSums, w_a0_progression, .ref h_a0_rows])), (h_a0_rows, .inr (5, [.ref q_a0_rows_values, .int a0_rows_many])), (q_a0_rows_values, .inl (cJ, 9600, .inr (.inl a0_rows_values)))]) hD hS hA [0, 1, 2] rfl
  refine va_calli (va_runV (As := [.int p1]) (rest := []) ⟨hx, hb, hml, hown, hts⟩ (c_X8_hasRow_c1 l dC dI cI cJ cZ _ h_a0 (w_a0_primes) (w_a0_sieved) (w_a0_parting) (w_a0_primeSums) (w_a0_progression) h_a0_rows a0_rows_values q_a0_rows_values a0_rows_many p1 _ h) (cwV 1 hts gX8_product_X8_hasRow rfl rfl rfl (by decide +kernel) ⟨Nat.le_of_ble_eq_true rfl, Nat.le_of_ble_eq_true rfl⟩) ⟨pre_fb, va_recv hK hPc (ci := 7) (q0 := 0) rfl rfl, pre_of hPc hDc hK hN⟩ rfl rfl hl.1 rfl (lv_room (Nat.le_of_ble_eq_true rfl)) dX8_product_2 ⟨by first | exact Nat.le_of_ble_eq_true rfl | exact Nat.le_refl _, by first | exact Nat.le_of_ble_eq_true rfl | exact Nat.le_refl _⟩) hS (fun q _ h => hFc q h) hFc (fun r_1 u t H1 locs ht hvm h hB hz1 hk1 hS => ?_)
  obtain ⟨hP1, hD1⟩ := hB
  rw [ht] at hP1
  try dsimp only at h
  obtain ⟨hP, hD⟩ := va_join (wr := []) (w1 := [(h_a0, .inr (7, [w_a0_primes, w_a0_sieved, w_a0_parting, w_a0_primeSums, w_a0_progression, .ref h_a0_rows])), (h_a0_rows, .inr (5, [.ref q_a0_rows_values, .int a0_rows_many])), (q_a0_rows_values, .inl (cJ, 9600, .inr (.inl a0_rows_values)))]) hP hD [0, 1, 2] [] rfl rfl (by decide) (by decide) hk1 hFc hP1 hD1
  generalize H1 = H at hP hS ⊢
  have hP : va_P (dC, dI) vwCl [(h_a0, .inr (7, [w_a0_primes, w_a0_sieved, w_a0_parting, w_a0_primeSums, w_a0_progression, .ref h_a0_rows])), (h_a0_rows, .inr (5, [.ref q_a0_rows_values, .int a0_rows_many])), (q_a0_rows_values, .inl (cJ, 9600, .inr (.inl a0_rows_values)))] H := hP
  have hD : va_D A [(h_a0, .inr (7, [w_a0_primes, w_a0_sieved, w_a0_parting, w_a0_primeSums, w_a0_progression, .ref h_a0_rows])), (h_a0_rows, .inr (5, [.ref q_a0_rows_values, .int a0_rows_many])), (q_a0_rows_values, .inl (cJ, 9600, .inr (.inl a0_rows_values)))] := hD
  refine lv_if_eq (tgt := 16) hx hb dX8_product_5 (by decide) (fun c_2 => ?_) (fun c_2 => ?_)
  · replace h := h.1 c_2
    refine lv_iconst (v := (-1 : Int32)) hx hb dX8_product_16 (by decide) ?_
    have hP9 := hP.sub (ws' := [(h_a0, .inr (7, [w_a0_primes, w_a0_sieved, w_a0_parting, w_a0_primeSums, w_a0_progression, .ref h_a0_rows])), (h_a0_rows, .inr (5, [.ref q_a0_rows_values, .int a0_rows_many])), (q_a0_rows_values, .inl (cJ, 9600, .inr (.inl a0_rows_values)))]) [0, 1, 2] rfl
    have hD9 := hD.sub (ws' := [(h_a0, .inr (7, [w_a0_primes, w_a0_sieved, w_a0_parting, w_a0_primeSums, w_a0_progression, .ref h_a0_rows])), (h_a0_rows, .inr (5, [.ref q_a0_rows_values, .int a0_rows_many])), (q_a0_rows_values, .inl (cJ, 9600, .inr (.inl a0_rows_values)))]) [0, 1, 2] (by decide) rfl
    exact W.iret (v := (-1 : Int32)) hx hb hr (fun t ht hW => ⟨⟨_, (a0_rows_many, a0_rows_values), rfl, h, by rw [ht]; exact hP9, hD9⟩, hS.F ht⟩) hS.2.2 dX8_product_17
  · replace h := h.2 c_2
    refine lv_aload_n hx hb dX8_product_8 rfl (lv_at hl 0 rfl) ?_
    refine lv_iload_n hx hb dX8_product_9 rfl (lv_at hl 2 rfl) ?_
    have hPc := hP.sub (ws' := [(h_a0, .inr (7, [w_a0_primes, w_a0_sieved, w_a0_parting, w_a0_primeSums, w_a0_progression, .ref h_a0_rows])), (h_a0_rows, .inr (5, [.ref q_a0_rows_values, .int a0_rows_many])), (q_a0_rows_values, .inl (cJ, 9600, .inr (.inl a0_rows_values)))]) [0, 1, 2] rfl
    have hDc := hD.sub (ws' := [(h_a0, .inr (7, [w_a0_primes, w_a0_sieved, w_a0_parting, w_a0_primeSums, w_a0_progression, .ref h_a0_rows])), (h_a0_rows, .inr (5, [.ref q_a0_rows_values, .int a0_rows_many])), (q_a0_rows_values, .inl (cJ, 9600, .inr (.inl a0_rows_values)))]) [0, 1, 2] (by decide) rfl
    have hFc := va_free (wc := [(h_a0, .inr (7, [w_a0_primes, w_a0_sieved, w_a0_parting, w_a0_primeSums, w_a0_progression, .ref h_a0_rows])), (h_a0_rows, .inr (5, [.ref q_a0_rows_values, .int a0_rows_many])), (q_a0_rows_values, .inl (cJ, 9600, .inr (.inl a0_rows_values)))]) hD hS hA [0, 1, 2] rfl
    refine va_calli (va_runV (As := [.int p2]) (rest := []) ⟨hx, hb, hml, hown, hts⟩ (c_X8_hasRow_c1 l dC dI cI cJ cZ _ h_a0 (w_a0_primes) (w_a0_sieved) (w_a0_parting) (w_a0_primeSums) (w_a0_progression) h_a0_rows a0_rows_values q_a0_rows_values a0_rows_many p2 _ h) (cwV 1 hts gX8_product_X8_hasRow rfl rfl rfl (by decide +kernel) ⟨Nat.le_of_ble_eq_true rfl, Nat.le_of_ble_eq_true rfl⟩) ⟨pre_fb, va_recv hK hPc (ci := 7) (q0 := 0) rfl rfl, pre_of hPc hDc hK hN⟩ rfl rfl hl.1 rfl (lv_room (Nat.le_of_ble_eq_true rfl)) dX8_product_10 ⟨by first | exact Nat.le_of_ble_eq_true rfl | exact Nat.le_refl _, by first | exact Nat.le_of_ble_eq_true rfl | exact Nat.le_refl _⟩) hS (fun q _ h => hFc q h) hFc (fun r_3 u t H1 locs ht hvm h hB hz1 hk1 hS => ?_)
    obtain ⟨hP1, hD1⟩ := hB
    rw [ht] at hP1
    try dsimp only at h
    obtain ⟨hP, hD⟩ := va_join (wr := []) (w1 := [(h_a0, .inr (7, [w_a0_primes, w_a0_sieved, w_a0_parting, w_a0_primeSums, w_a0_progression, .ref h_a0_rows])), (h_a0_rows, .inr (5, [.ref q_a0_rows_values, .int a0_rows_many])), (q_a0_rows_values, .inl (cJ, 9600, .inr (.inl a0_rows_values)))]) hP hD [0, 1, 2] [] rfl rfl (by decide) (by decide) hk1 hFc hP1 hD1
    generalize H1 = H at hP hS ⊢
    have hP : va_P (dC, dI) vwCl [(h_a0, .inr (7, [w_a0_primes, w_a0_sieved, w_a0_parting, w_a0_primeSums, w_a0_progression, .ref h_a0_rows])), (h_a0_rows, .inr (5, [.ref q_a0_rows_values, .int a0_rows_many])), (q_a0_rows_values, .inl (cJ, 9600, .inr (.inl a0_rows_values)))] H := hP
    have hD : va_D A [(h_a0, .inr (7, [w_a0_primes, w_a0_sieved, w_a0_parting, w_a0_primeSums, w_a0_progression, .ref h_a0_rows])), (h_a0_rows, .inr (5, [.ref q_a0_rows_values, .int a0_rows_many])), (q_a0_rows_values, .inl (cJ, 9600, .inr (.inl a0_rows_values)))] := hD
    refine lv_if_ne (tgt := 18) hx hb dX8_product_13 (by decide) (fun c_4 => ?_) (fun c_4 => ?_)
    · replace h := h.2 c_4
      refine lv_aload_n hx hb dX8_product_18 rfl (lv_at hl 0 rfl) ?_
      have hPc := hP.sub (ws' := [(h_a0, .inr (7, [w_a0_primes, w_a0_sieved, w_a0_parting, w_a0_primeSums, w_a0_progression, .ref h_a0_rows])), (h_a0_rows, .inr (5, [.ref q_a0_rows_values, .int a0_rows_many])), (q_a0_rows_values, .inl (cJ, 9600, .inr (.inl a0_rows_values)))]) [0, 1, 2] rfl
      have hDc := hD.sub (ws' := [(h_a0, .inr (7, [w_a0_primes, w_a0_sieved, w_a0_parting, w_a0_primeSums, w_a0_progression, .ref h_a0_rows])), (h_a0_rows, .inr (5, [.ref q_a0_rows_values, .int a0_rows_many])), (q_a0_rows_values, .inl (cJ, 9600, .inr (.inl a0_rows_values)))]) [0, 1, 2] (by decide) rfl
      have hFc := va_free (wc := [(h_a0, .inr (7, [w_a0_primes, w_a0_sieved, w_a0_parting, w_a0_primeSums, w_a0_progression, .ref h_a0_rows])), (h_a0_rows, .inr (5, [.ref q_a0_rows_values, .int a0_rows_many])), (q_a0_rows_values, .inl (cJ, 9600, .inr (.inl a0_rows_values)))]) hD hS hA [0, 1, 2] rfl
      refine va_calli (va_runV (As := []) (rest := []) ⟨hx, hb, hml, hown, hts⟩ (c_X8_newRow_c1 l dC dI cI cJ cZ _ h_a0 (w_a0_primes) (w_a0_sieved) (w_a0_parting) (w_a0_primeSums) (w_a0_progression) h_a0_rows a0_rows_values q_a0_rows_values a0_rows_many _ h) (cwV 0 hts gX8_product_X8_newRow rfl rfl rfl (by decide +kernel) ⟨Nat.le_of_ble_eq_true rfl, Nat.le_of_ble_eq_true rfl⟩) ⟨pre_fb, va_recv hK hPc (ci := 7) (q0 := 0) rfl rfl, pre_of hPc hDc hK hN⟩ rfl rfl hl.1 rfl (lv_room (Nat.le_of_ble_eq_true rfl)) dX8_product_19 ⟨by first | exact Nat.le_of_ble_eq_true rfl | exact Nat.le_refl _, by first | exact Nat.le_of_ble_eq_true rfl | exact Nat.le_refl _⟩) hS (fun q _ h => hFc q h) hFc (fun r_5 u t H1 locs ht hvm h hB hz1 hk1 hS => ?_)
      obtain ⟨o_6, o_7⟩ := u
      obtain ⟨hP1, hD1⟩ := hB
      rw [ht] at hP1
      try dsimp only at h
      obtain ⟨hP, hD⟩ := va_join (wr := []) (w1 := [(h_a0, .inr (7, [w_a0_primes, w_a0_sieved, w_a0_parting, w_a0_primeSums, w_a0_progression, .ref h_a0_rows])), (h_a0_rows, .inr (5, [.ref q_a0_rows_values, .int o_6])), (q_a0_rows_values, .inl (cJ, 9600, .inr (.inl o_7)))]) hP hD [0, 1, 2] [] rfl rfl (by decide) (by decide) hk1 hFc hP1 hD1
      generalize H1 = H at hP hS ⊢
      have hP : va_P (dC, dI) vwCl [(h_a0, .inr (7, [w_a0_primes, w_a0_sieved, w_a0_parting, w_a0_primeSums, w_a0_progression, .ref h_a0_rows])), (h_a0_rows, .inr (5, [.ref q_a0_rows_values, .int o_6])), (q_a0_rows_values, .inl (cJ, 9600, .inr (.inl o_7)))] H := hP
      have hD : va_D A [(h_a0, .inr (7, [w_a0_primes, w_a0_sieved, w_a0_parting, w_a0_primeSums, w_a0_progression, .ref h_a0_rows])), (h_a0_rows, .inr (5, [.ref q_a0_rows_values, .int o_6])), (q_a0_rows_values, .inl (cJ, 9600, .inr (.inl o_7)))] := hD
      refine lv_istore_n (lv' := [(3, .int r_5), (0, .ref h_a0), (1, .int p1), (2, .int p2)]) hx hb dX8_product_22 rfl hl (by decide) rfl (fun ls hl => ?_)
      refine lv_iload_n hx hb dX8_product_23 rfl (lv_at hl 0 rfl) ?_
      refine lv_iconst (v := (-1 : Int32)) hx hb dX8_product_24 (by decide) ?_
      refine lv_icmp_eq (tgt := 38) hx hb dX8_product_25 (by decide) (fun c_8 => ?_) (fun c_8 => ?_)
      · replace h := h.1 c_8
        refine lv_iload_n hx hb dX8_product_38 rfl (lv_at hl 0 rfl) ?_
        have hP9 := hP.sub (ws' := [(h_a0, .inr (7, [w_a0_primes, w_a0_sieved, w_a0_parting, w_a0_primeSums, w_a0_progression, .ref h_a0_rows])), (h_a0_rows, .inr (5, [.ref q_a0_rows_values, .int o_6])), (q_a0_rows_values, .inl (cJ, 9600, .inr (.inl o_7)))]) [0, 1, 2] rfl
        have hD9 := hD.sub (ws' := [(h_a0, .inr (7, [w_a0_primes, w_a0_sieved, w_a0_parting, w_a0_primeSums, w_a0_progression, .ref h_a0_rows])), (h_a0_rows, .inr (5, [.ref q_a0_rows_values, .int o_6])), (q_a0_rows_values, .inl (cJ, 9600, .inr (.inl o_7)))]) [0, 1, 2] (by decide) rfl
        exact W.iret (v := r_5) hx hb hr (fun t ht hW => ⟨⟨_, (o_6, o_7), rfl, h, by rw [ht]; exact hP9, hD9⟩, hS.F ht⟩) hS.2.2 dX8_product_39
      · replace h := h.2 c_8
        refine lv_aload_n hx hb dX8_product_28 rfl (lv_at hl 1 rfl) ?_
        refine va_get (D := (dC, dI)) (ci := 7) (v := .ref h_a0_rows) (C := RX8) (T := TX8) (N := 6) hx hb hts hin_X8 hown hK hP 0 rfl rfl 5 (by decide) hw_0 (fun _ h9 => h9) rfl dX8_product_29 ?_
        refine lv_iload_n hx hb dX8_product_32 rfl (lv_at hl 0 rfl) ?_
        refine lv_iload_n hx hb dX8_product_33 rfl (lv_at hl 2 rfl) ?_
        refine lv_iload_n hx hb dX8_product_34 rfl (lv_at hl 3 rfl) ?_
        have hPc := hP.sub (ws' := [(h_a0_rows, .inr (5, [.ref q_a0_rows_values, .int o_6])), (q_a0_rows_values, .inl (cJ, 9600, .inr (.inl o_7)))]) [1, 2] rfl
        have hDc := hD.sub (ws' := [(h_a0_rows, .inr (5, [.ref q_a0_rows_values, .int o_6])), (q_a0_rows_values, .inl (cJ, 9600, .inr (.inl o_7)))]) [1, 2] (by decide) rfl
        have hFc := va_free (wc := [(h_a0_rows, .inr (5, [.ref q_a0_rows_values, .int o_6])), (q_a0_rows_values, .inl (cJ, 9600, .inr (.inl o_7)))]) hD hS hA [1, 2] rfl
        refine va_callv (va_runV (As := [.int r_5, .int p1, .int p2]) (rest := []) ⟨hx, hb, hml, hown, hts⟩ (c_X5_fillByProduct l dC dI cI cJ cZ _ h_a0_rows o_7 q_a0_rows_values o_6 r_5 p1 p2 _ h) (cwV 3 hts gX8_product_X5_fillByProduct rfl rfl rfl (by decide +kernel) ⟨Nat.le_of_ble_eq_true rfl, Nat.le_of_ble_eq_true rfl⟩) ⟨pre_fb, va_recv hK hPc (ci := 5) (q0 := 0) rfl rfl, pre_of hPc hDc hK hN⟩ rfl rfl hl.1 rfl (lv_room (Nat.le_of_ble_eq_true rfl)) dX8_product_35 ⟨by first | exact Nat.le_of_ble_eq_true rfl | exact Nat.le_refl _, by first | exact Nat.le_of_ble_eq_true rfl | exact Nat.le_refl _⟩) hS (fun q _ h => hFc q h) hFc (fun u t H1 locs ht hvm h hB hz1 hk1 hS => ?_)
        obtain ⟨o_9, rfl⟩ : ∃ z, z = u := ⟨_, rfl⟩
        obtain ⟨hP1, hD1⟩ := hB
        rw [ht] at hP1
        try dsimp only at h
        obtain ⟨hP, hD⟩ := va_join (wr := [(h_a0, .inr (7, [w_a0_primes, w_a0_sieved, w_a0_parting, w_a0_primeSums, w_a0_progression, .ref h_a0_rows]))]) (w1 := [(h_a0_rows, .inr (5, [.ref q_a0_rows_values, .int o_6])), (q_a0_rows_values, .inl (cJ, 9600, .inr (.inl o_9)))]) hP hD [1, 2] [0] rfl rfl (by decide) (by decide) hk1 hFc hP1 hD1
        generalize H1 = H at hP hS ⊢
        have hP : va_P (dC, dI) vwCl [(h_a0, .inr (7, [w_a0_primes, w_a0_sieved, w_a0_parting, w_a0_primeSums, w_a0_progression, .ref h_a0_rows])), (h_a0_rows, .inr (5, [.ref q_a0_rows_values, .int o_6])), (q_a0_rows_values, .inl (cJ, 9600, .inr (.inl o_9)))] H := hP
        have hD : va_D A [(h_a0, .inr (7, [w_a0_primes, w_a0_sieved, w_a0_parting, w_a0_primeSums, w_a0_progression, .ref h_a0_rows])), (h_a0_rows, .inr (5, [.ref q_a0_rows_values, .int o_6])), (q_a0_rows_values, .inl (cJ, 9600, .inr (.inl o_9)))] := hD
        refine lv_iload_n hx hb dX8_product_38 rfl (lv_at hl 0 rfl) ?_
        have hP9 := hP.sub (ws' := [(h_a0, .inr (7, [w_a0_primes, w_a0_sieved, w_a0_parting, w_a0_primeSums, w_a0_progression, .ref h_a0_rows])), (h_a0_rows, .inr (5, [.ref q_a0_rows_values, .int o_6])), (q_a0_rows_values, .inl (cJ, 9600, .inr (.inl o_9)))]) [0, 1, 2] rfl
        have hD9 := hD.sub (ws' := [(h_a0, .inr (7, [w_a0_primes, w_a0_sieved, w_a0_parting, w_a0_primeSums, w_a0_progression, .ref h_a0_rows])), (h_a0_rows, .inr (5, [.ref q_a0_rows_values, .int o_6])), (q_a0_rows_values, .inl (cJ, 9600, .inr (.inl o_9)))]) [0, 1, 2] (by decide) rfl
        exact W.iret (v := r_5) hx hb hr (fun t ht hW => ⟨⟨_, (o_6, o_9), rfl, h, by rw [ht]; exact hP9, hD9⟩, hS.F ht⟩) hS.2.2 dX8_product_39
    · replace h := h.1 c_4
      refine lv_iconst (v := (-1 : Int32)) hx hb dX8_product_16 (by decide) ?_
      have hP9 := hP.sub (ws' := [(h_a0, .inr (7, [w_a0_primes, w_a0_sieved, w_a0_parting, w_a0_primeSums, w_a0_progression, .ref h_a0_rows])), (h_a0_rows, .inr (5, [.ref q_a0_rows_values, .int a0_rows_many])), (q_a0_rows_values, .inl (cJ, 9600, .inr (.inl a0_rows_values)))]) [0, 1, 2] rfl
      have hD9 := hD.sub (ws' := [(h_a0, .inr (7, [w_a0_primes, w_a0_sieved, w_a0_parting, w_a0_primeSums, w_a0_progression, .ref h_a0_rows])), (h_a0_rows, .inr (5, [.ref q_a0_rows_values, .int a0_rows_many])), (q_a0_rows_values, .inl (cJ, 9600, .inr (.inl a0_rows_values)))]) [0, 1, 2] (by decide) rfl
      exact W.iret (v := (-1 : Int32)) hx hb hr (fun t ht hW => ⟨⟨_, (a0_rows_many, a0_rows_values), rfl, h, by rw [ht]; exact hP9, hD9⟩, hS.F ht⟩) hS.2.2 dX8_product_17
def wp_X8_turned_c0  (p1 : Int32) (Q : Int32 → Prop) : Prop :=
  wp_X8_hasRow_c0 p1 (fun r_1 => ((r_1 = (0 : Int32) → Q (-1 : Int32)) ∧ (¬ r_1 = (0 : Int32) → False)))
abbrev rm_X8_turned_c0 : Room := { frames := 4, cells := 0, slots := 0, locals := 97 }
abbrev qc_X8_turned_c0 (dC : Nat → ClassId) (dI : Nat → Nat → Nat) (cI cJ cZ : ClassId) (h_a0 : Nat) (w_a0_primes : Value) (w_a0_sieved : Value) (w_a0_parting : Value) (w_a0_primeSums : Value) (w_a0_progression : Value) (Q : Int32 → Prop) (A : Nat → Prop) : Array Value → State → Outcome → State → Prop := va_Qi (fun (r : Int32) (_ : Unit) => Q r) (post_ dC dI A (fun (u : Unit) => ([(h_a0, .inr (7, [w_a0_primes, w_a0_sieved, w_a0_parting, w_a0_primeSums, w_a0_progression, .null]))] : va_W))) A
set_option maxHeartbeats 4000000 in
set_option maxRecDepth 100000 in
theorem c_X8_turned_c0 (l : Launch) (dC : Nat → ClassId) (dI : Nat → Nat → Nat) (cI cJ cZ : ClassId) (sz : Nat) (h_a0 : Nat) (w_a0_primes : Value) (w_a0_sieved : Value) (w_a0_parting : Value) (w_a0_primeSums : Value) (w_a0_progression : Value) (p1 : Int32) (Q : Int32 → Prop) (hQ : wp_X8_turned_c0 p1 Q) : Met l yX8_turned wsX8_turned rm_X8_turned_c0 (pre_ dC dI cI cJ cZ [.ref h_a0, .int p1] [(h_a0, .inr (7, [w_a0_primes, w_a0_sieved, w_a0_parting, w_a0_primeSums, w_a0_progression, .null]))] sz) (qc_X8_turned_c0 dC dI cI cJ cZ h_a0 w_a0_primes w_a0_sieved w_a0_parting w_a0_primeSums w_a0_progression Q (va_A [(h_a0, .inr (7, [w_a0_primes, w_a0_sieved, w_a0_parting, w_a0_primeSums, w_a0_progression, .null]))] sz)) 0 0 (va_A [(h_a0, .inr (7, [w_a0_primes, w_a0_sieved, w_a0_parting, w_a0_primeSums, w_a0_progression, .null]))] sz) := by
  refine Met.ofW (cc := cX8_turned) (maxL := 3) (ret := (some .int)) (by decide) rfl ?_
  intro p e s m args below meth c s₁ B hml hv
  obtain ⟨rfl, hsz, hP, hK, hN, hD0⟩ := hv
  have hx := B.exec
  have hb := B.bytes
  have hr := B.returns
  have hts := atoms_spec (ws := wsX8_turned) B.pre
  have hown : s.vm.findClass RX8 = some m.cls := findClass_of_methodNamed B.named
  subst hsz
  have hD := hD0.self (sz := s.heap.size)
  generalize hAe : va_A [(h_a0, .inr (7, [w_a0_primes, w_a0_sieved, w_a0_parting, w_a0_primeSums, w_a0_progression, .null]))] s.heap.size = A at hD ⊢
  have hA : ∀ q : Nat, s.heap.size ≤ q → A q := fun q h => by rw [← hAe]; exact Or.inr h
  have hS : va_S A s.heap s.heap [] := va_S.rf
  have hl := lv_entry ([.ref h_a0, .int p1]) (n := 3) (Nat.le_of_ble_eq_true rfl)
  rw [lg_entry_eq]
  generalize (lg_sl ([.ref h_a0, .int p1]) ++ List.replicate (3 - (lg_sl ([.ref h_a0, .int p1])).length) Slot.unset).toArray = ls at hl ⊢
  have hl : lv_has ls 3 [(0, .ref h_a0), (1, .int p1)] := hl
  have h := hQ
  unfold wp_X8_turned_c0 at h
  have hw_0 := hts (.fieldLink RX8 147 "NumberSieves" "rows" "LNumberSieves$Rows;") (by decide +kernel)
  have hin_X8 : ∀ w ∈ wsX80, w ∈ wsX8_turned := by decide +kernel
  refine lv_aload_n hx hb dX8_turned_0 rfl (lv_at hl 0 rfl) ?_
  refine lv_iload_n hx hb dX8_turned_1 rfl (lv_at hl 1 rfl) ?_
  have hPc := hP.sub (ws' := [(h_a0, .inr (7, [w_a0_primes, w_a0_sieved, w_a0_parting, w_a0_primeSums, w_a0_progression, .null]))]) [0] rfl
  have hDc := hD.sub (ws' := [(h_a0, .inr (7, [w_a0_primes, w_a0_sieved, w_a0_parting, w_a0_primeSums, w_a0_progression, .null]))]) [0] (by decide) rfl
  have hFc := va_free (wc := [(h_a0, .inr (7, [w_a0_primes, w_a0_sieved, w_a0_parting, w_a0_primeSums, w_a0_progression, .null]))]) hD hS hA [0] rfl
  refine va_calli (va_runV (As := [.int p1]) (rest := []) ⟨hx, hb, hml, hown, hts⟩ (c_X8_hasRow_c0 l dC dI cI cJ cZ _ h_a0 (w_a0_primes) (w_a0_sieved) (w_a0_parting) (w_a0_primeSums) (w_a0_progression) p1 _ h) (cwV 1 hts gX8_turned_X8_hasRow rfl rfl rfl (by decide +kernel) ⟨Nat.le_of_ble_eq_true rfl, Nat.le_of_ble_eq_true rfl⟩) ⟨pre_fb, va_recv hK hPc (ci := 7) (q0 := 0) rfl rfl, pre_of hPc hDc hK hN⟩ rfl rfl hl.1 rfl (lv_room (Nat.le_of_ble_eq_true rfl)) dX8_turned_2 ⟨by first | exact Nat.le_of_ble_eq_true rfl | exact Nat.le_refl _, by first | exact Nat.le_of_ble_eq_true rfl | exact Nat.le_refl _⟩) hS (fun q _ h => hFc q h) hFc (fun r_1 u t H1 locs ht hvm h hB hz1 hk1 hS => ?_)
  obtain ⟨hP1, hD1⟩ := hB
  rw [ht] at hP1
  try dsimp only at h
  obtain ⟨hP, hD⟩ := va_join (wr := []) (w1 := [(h_a0, .inr (7, [w_a0_primes, w_a0_sieved, w_a0_parting, w_a0_primeSums, w_a0_progression, .null]))]) hP hD [0] [] rfl rfl (by decide) (by decide) hk1 hFc hP1 hD1
  generalize H1 = H at hP hS ⊢
  have hP : va_P (dC, dI) vwCl [(h_a0, .inr (7, [w_a0_primes, w_a0_sieved, w_a0_parting, w_a0_primeSums, w_a0_progression, .null]))] H := hP
  have hD : va_D A [(h_a0, .inr (7, [w_a0_primes, w_a0_sieved, w_a0_parting, w_a0_primeSums, w_a0_progression, .null]))] := hD
  refine lv_if_eq (tgt := 19) hx hb dX8_turned_5 (by decide) (fun c_2 => ?_) (fun c_2 => ?_)
  · replace h := h.1 c_2
    refine lv_iconst (v := (-1 : Int32)) hx hb dX8_turned_19 (by decide) ?_
    have hP9 := hP.sub (ws' := [(h_a0, .inr (7, [w_a0_primes, w_a0_sieved, w_a0_parting, w_a0_primeSums, w_a0_progression, .null]))]) [0] rfl
    have hD9 := hD.sub (ws' := [(h_a0, .inr (7, [w_a0_primes, w_a0_sieved, w_a0_parting, w_a0_primeSums, w_a0_progression, .null]))]) [0] (by decide) rfl
    exact W.iret (v := (-1 : Int32)) hx hb hr (fun t ht hW => ⟨⟨_, (), rfl, h, by rw [ht]; exact hP9, hD9⟩, hS.F ht⟩) hS.2.2 dX8_turned_20
  · replace h := h.2 c_2
    refine lv_aload_n hx hb dX8_turned_8 rfl (lv_at hl 0 rfl) ?_
    refine va_get (D := (dC, dI)) (ci := 7) (v := .null) (C := RX8) (T := TX8) (N := 6) hx hb hts hin_X8 hown hK hP 0 rfl rfl 5 (by decide) hw_0 (fun _ h9 => h9) rfl dX8_turned_9 ?_
    refine lv_iload_n hx hb dX8_turned_12 rfl (lv_at hl 1 rfl) ?_
    exact h.elim
def wp_X8_turned_c1 (a0_rows_values : Nat → Int64) (a0_rows_many : Int32) (p1 : Int32) (Q : Int32 → Int32 → (Nat → Int64) → Prop) : Prop :=
  wp_X8_hasRow_c1 a0_rows_many p1 (fun r_1 => ((r_1 = (0 : Int32) → Q (-1 : Int32) a0_rows_many a0_rows_values) ∧ (¬ r_1 = (0 : Int32) → wp_X5_canTurn a0_rows_values p1 (fun r_3 => ((r_3 = (0 : Int32) → Q (-1 : Int32) a0_rows_many a0_rows_values) ∧ (¬ r_3 = (0 : Int32) → wp_X8_newRow_c1 a0_rows_values a0_rows_many (fun r_5 o_6 o_7 => ((r_5 = (-1 : Int32) → Q r_5 o_6 o_7) ∧ (¬ r_5 = (-1 : Int32) → wp_X5_fillTurned o_7 r_5 p1 (fun o_9 => Q r_5 o_6 o_9))))))))))
abbrev rm_X8_turned_c1 : Room := { frames := 4, cells := 0, slots := 0, locals := 97 }
abbrev qc_X8_turned_c1 (dC : Nat → ClassId) (dI : Nat → Nat → Nat) (cI cJ cZ : ClassId) (h_a0 : Nat) (w_a0_primes : Value) (w_a0_sieved : Value) (w_a0_parting : Value) (w_a0_primeSums : Value) (w_a0_progression : Value) (h_a0_rows : Nat) (a0_rows_values : Nat → Int64) (q_a0_rows_values : Nat) (a0_rows_many : Int32) (Q : Int32 → Int32 → (Nat → Int64) → Prop) (A : Nat → Prop) : Array Value → State → Outcome → State → Prop := va_Qi (fun (r : Int32) (u : Int32 × (Nat → Int64)) => Q r u.1 u.2) (post_ dC dI A (fun (u : Int32 × (Nat → Int64)) => ([(h_a0, .inr (7, [w_a0_primes, w_a0_sieved, w_a0_parting, w_a0_primeSums, w_a0_progression, .ref h_a0_rows])), (h_a0_rows, .inr (5, [.ref q_a0_rows_values, .int u.1])), (q_a0_rows_values, .inl (cJ, 9600, .inr (.inl (u.2))))] : va_W))) A
set_option maxHeartbeats 4000000 in
set_option maxRecDepth 100000 in
theorem c_X8_turned_c1 (l : Launch) (dC : Nat → ClassId) (dI : Nat → Nat → Nat) (cI cJ cZ : ClassId) (sz : Nat) (h_a0 : Nat) (w_a0_primes : Value) (w_a0_sieved : Value) (w_a0_parting : Value) (w_a0_primeSums : Value) (w_a0_progression : Value) (h_a0_rows : Nat) (a0_rows_values : Nat → Int64) (q_a0_rows_values : Nat) (a0_rows_many : Int32) (p1 : Int32) (Q : Int32 → Int32 → (Nat → Int64) → Prop) (hQ : wp_X8_turned_c1 a0_rows_values a0_rows_many p1 Q) : Met l yX8_turned wsX8_turned rm_X8_turned_c1 (pre_ dC dI cI cJ cZ [.ref h_a0, .int p1] [(h_a0, .inr (7, [w_a0_primes, w_a0_sieved, w_a0_parting, w_a0_primeSums, w_a0_progression, .ref h_a0_rows])), (h_a0_rows, .inr (5, [.ref q_a0_rows_values, .int a0_rows_many])), (q_a0_rows_values, .inl (cJ, 9600, .inr (.inl a0_rows_values)))] sz) (qc_X8_turned_c1 dC dI cI cJ cZ h_a0 w_a0_primes w_a0_sieved w_a0_parting w_a0_primeSums w_a0_progression h_a0_rows a0_rows_values q_a0_rows_values a0_rows_many Q (va_A [(h_a0, .inr (7, [w_a0_primes, w_a0_sieved, w_a0_parting, w_a0_primeSums, w_a0_progression, .ref h_a0_rows])), (h_a0_rows, .inr (5, [.ref q_a0_rows_values, .int a0_rows_many])), (q_a0_rows_values, .inl (cJ, 9600, .inr (.inl a0_rows_values)))] sz)) 0 0 (va_A [(h_a0, .inr (7, [w_a0_primes, w_a0_sieved, w_a0_parting, w_a0_primeSums, w_a0_progression, .ref h_a0_rows])), (h_a0_rows, .inr (5, [.ref q_a0_rows_values, .int a0_rows_many])), (q_a0_rows_values, .inl (cJ, 9600, .inr (.inl a0_rows_values)))] sz) := by
  refine Met.ofW (cc := cX8_turned) (maxL := 3) (ret := (some .int)) (by decide) rfl ?_
  intro p e s m args below meth c s₁ B hml hv
  obtain ⟨rfl, hsz, hP, hK, hN, hD0⟩ := hv
  have hx := B.exec
  have hb := B.bytes
  have hr := B.returns
  have hts := atoms_spec (ws := wsX8_turned) B.pre
  have hown : s.vm.findClass RX8 = some m.cls := findClass_of_methodNamed B.named
  subst hsz
  have hD := hD0.self (sz := s.heap.size)
  generalize hAe : va_A [(h_a0, .inr (7, [w_a0_primes, w_a0_sieved, w_a0_parting, w_a0_primeSums, w_a0_progression, .ref h_a0_rows])), (h_a0_rows, .inr (5, [.ref q_a0_rows_values, .int a0_rows_many])), (q_a0_rows_values, .inl (cJ, 9600, .inr (.inl a0_rows_values)))] s.heap.size = A at hD ⊢
  have hA : ∀ q : Nat, s.heap.size ≤ q → A q := fun q h => by rw [← hAe]; exact Or.inr h
  have hS : va_S A s.heap s.heap [] := va_S.rf
  have hl := lv_entry ([.ref h_a0, .int p1]) (n := 3) (Nat.le_of_ble_eq_true rfl)
  rw [lg_entry_eq]
  generalize (lg_sl ([.ref h_a0, .int p1]) ++ List.replicate (3 - (lg_sl ([.ref h_a0, .int p1])).length) Slot.unset).toArray = ls at hl ⊢
  have hl : lv_has ls 3 [(0, .ref h_a0), (1, .int p1)] := hl
  have h := hQ
  unfold wp_X8_turned_c1 at h
  have hw_0 := hts (.fieldLink RX8 147 "NumberSieves" "rows" "LNumberSieves$Rows;") (by decide +kernel)
  have hin_X8 : ∀ w ∈ wsX80, w ∈ wsX8_turned := by decide +kernel
  refine lv_aload_n hx hb dX8_turned_0 rfl (lv_at hl 0 rfl) ?_
  refine lv_iload_n hx hb dX8_turned_1 rfl (lv_at hl 1 rfl) ?_
  have hPc := hP.sub (ws' := [(h_a0, .inr (7, [w_a0_primes, w_a0_sieved, w_a0_parting, w_a0_primeSums, w_a0_progression, .ref h_a0_rows])), (h_a0_rows, .inr (5, [.ref q_a0_rows_values, .int a0_rows_many])), (q_a0_rows_values, .inl (cJ, 9600, .inr (.inl a0_rows_values)))]) [0, 1, 2] rfl
  have hDc := hD.sub (ws' := [(h_a0, .inr (7, [w_a0_primes, w_a0_sieved, w_a0_parting, w_a0_primeSums, w_a0_progression, .ref h_a0_rows])), (h_a0_rows, .inr (5, [.ref q_a0_rows_values, .int a0_rows_many])), (q_a0_rows_values, .inl (cJ, 9600, .inr (.inl a0_rows_values)))]) [0, 1, 2] (by decide) rfl
  have hFc := va_free (wc := [(h_a0, .inr (7, [w_a0_primes, w_a0_sieved, w_a0_parting, w_a0_primeSums, w_a0_progression, .ref h_a0_rows])), (h_a0_rows, .inr (5, [.ref q_a0_rows_values, .int a0_rows_many])), (q_a0_rows_values, .inl (cJ, 9600, .inr (.inl a0_rows_values)))]) hD hS hA [0, 1, 2] rfl
  refine va_calli (va_runV (As := [.int p1]) (rest := []) ⟨hx, hb, hml, hown, hts⟩ (c_X8_hasRow_c1 l dC dI cI cJ cZ _ h_a0 (w_a0_primes) (w_a0_sieved) (w_a0_parting) (w_a0_primeSums) (w_a0_progression) h_a0_rows a0_rows_values q_a0_rows_values a0_rows_many p1 _ h) (cwV 1 hts gX8_turned_X8_hasRow rfl rfl rfl (by decide +kernel) ⟨Nat.le_of_ble_eq_true rfl, Nat.le_of_ble_eq_true rfl⟩) ⟨pre_fb, va_recv hK hPc (ci := 7) (q0 := 0) rfl rfl, pre_of hPc hDc hK hN⟩ rfl rfl hl.1 rfl (lv_room (Nat.le_of_ble_eq_true rfl)) dX8_turned_2 ⟨by first | exact Nat.le_of_ble_eq_true rfl | exact Nat.le_refl _, by first | exact Nat.le_of_ble_eq_true rfl | exact Nat.le_refl _⟩) hS (fun q _ h => hFc q h) hFc (fun r_1 u t H1 locs ht hvm h hB hz1 hk1 hS => ?_)
  obtain ⟨hP1, hD1⟩ := hB
  rw [ht] at hP1
  try dsimp only at h
  obtain ⟨hP, hD⟩ := va_join (wr := []) (w1 := [(h_a0, .inr (7, [w_a0_primes, w_a0_sieved, w_a0_parting, w_a0_primeSums, w_a0_progression, .ref h_a0_rows])), (h_a0_rows, .inr (5, [.ref q_a0_rows_values, .int a0_rows_many])), (q_a0_rows_values, .inl (cJ, 9600, .inr (.inl a0_rows_values)))]) hP hD [0, 1, 2] [] rfl rfl (by decide) (by decide) hk1 hFc hP1 hD1
  generalize H1 = H at hP hS ⊢
  have hP : va_P (dC, dI) vwCl [(h_a0, .inr (7, [w_a0_primes, w_a0_sieved, w_a0_parting, w_a0_primeSums, w_a0_progression, .ref h_a0_rows])), (h_a0_rows, .inr (5, [.ref q_a0_rows_values, .int a0_rows_many])), (q_a0_rows_values, .inl (cJ, 9600, .inr (.inl a0_rows_values)))] H := hP
  have hD : va_D A [(h_a0, .inr (7, [w_a0_primes, w_a0_sieved, w_a0_parting, w_a0_primeSums, w_a0_progression, .ref h_a0_rows])), (h_a0_rows, .inr (5, [.ref q_a0_rows_values, .int a0_rows_many])), (q_a0_rows_values, .inl (cJ, 9600, .inr (.inl a0_rows_values)))] := hD
  refine lv_if_eq (tgt := 19) hx hb dX8_turned_5 (by decide) (fun c_2 => ?_) (fun c_2 => ?_)
  · replace h := h.1 c_2
    refine lv_iconst (v := (-1 : Int32)) hx hb dX8_turned_19 (by decide) ?_
    have hP9 := hP.sub (ws' := [(h_a0, .inr (7, [w_a0_primes, w_a0_sieved, w_a0_parting, w_a0_primeSums, w_a0_progression, .ref h_a0_rows])), (h_a0_rows, .inr (5, [.ref q_a0_rows_values, .int a0_rows_many])), (q_a0_rows_values, .inl (cJ, 9600, .inr (.inl a0_rows_values)))]) [0, 1, 2] rfl
    have hD9 := hD.sub (ws' := [(h_a0, .inr (7, [w_a0_primes, w_a0_sieved, w_a0_parting, w_a0_primeSums, w_a0_progression, .ref h_a0_rows])), (h_a0_rows, .inr (5, [.ref q_a0_rows_values, .int a0_rows_many])), (q_a0_rows_values, .inl (cJ, 9600, .inr (.inl a0_rows_values)))]) [0, 1, 2] (by decide) rfl
    exact W.iret (v := (-1 : Int32)) hx hb hr (fun t ht hW => ⟨⟨_, (a0_rows_many, a0_rows_values), rfl, h, by rw [ht]; exact hP9, hD9⟩, hS.F ht⟩) hS.2.2 dX8_turned_20
  · replace h := h.2 c_2
    refine lv_aload_n hx hb dX8_turned_8 rfl (lv_at hl 0 rfl) ?_
    refine va_get (D := (dC, dI)) (ci := 7) (v := .ref h_a0_rows) (C := RX8) (T := TX8) (N := 6) hx hb hts hin_X8 hown hK hP 0 rfl rfl 5 (by decide) hw_0 (fun _ h9 => h9) rfl dX8_turned_9 ?_
    refine lv_iload_n hx hb dX8_turned_12 rfl (lv_at hl 1 rfl) ?_
    have hPc := hP.sub (ws' := [(h_a0_rows, .inr (5, [.ref q_a0_rows_values, .int a0_rows_many])), (q_a0_rows_values, .inl (cJ, 9600, .inr (.inl a0_rows_values)))]) [1, 2] rfl
    have hDc := hD.sub (ws' := [(h_a0_rows, .inr (5, [.ref q_a0_rows_values, .int a0_rows_many])), (q_a0_rows_values, .inl (cJ, 9600, .inr (.inl a0_rows_values)))]) [1, 2] (by decide) rfl
    have hFc := va_free (wc := [(h_a0_rows, .inr (5, [.ref q_a0_rows_values, .int a0_rows_many])), (q_a0_rows_values, .inl (cJ, 9600, .inr (.inl a0_rows_values)))]) hD hS hA [1, 2] rfl
    refine va_calli (va_runV (As := [.int p1]) (rest := []) ⟨hx, hb, hml, hown, hts⟩ (c_X5_canTurn l dC dI cI cJ cZ _ h_a0_rows a0_rows_values q_a0_rows_values a0_rows_many p1 _ h) (cwV 1 hts gX8_turned_X5_canTurn rfl rfl rfl (by decide +kernel) ⟨Nat.le_of_ble_eq_true rfl, Nat.le_of_ble_eq_true rfl⟩) ⟨pre_fb, va_recv hK hPc (ci := 5) (q0 := 0) rfl rfl, pre_of hPc hDc hK hN⟩ rfl rfl hl.1 rfl (lv_room (Nat.le_of_ble_eq_true rfl)) dX8_turned_13 ⟨by first | exact Nat.le_of_ble_eq_true rfl | exact Nat.le_refl _, by first | exact Nat.le_of_ble_eq_true rfl | exact Nat.le_refl _⟩) hS (fun q _ h => hFc q h) hFc (fun r_3 u t H1 locs ht hvm h hB hz1 hk1 hS => ?_)
    obtain ⟨hP1, hD1⟩ := hB
    rw [ht] at hP1
    try dsimp only at h
    obtain ⟨hP, hD⟩ := va_join (wr := [(h_a0, .inr (7, [w_a0_primes, w_a0_sieved, w_a0_parting, w_a0_primeSums, w_a0_progression, .ref h_a0_rows]))]) (w1 := [(h_a0_rows, .inr (5, [.ref q_a0_rows_values, .int a0_rows_many])), (q_a0_rows_values, .inl (cJ, 9600, .inr (.inl a0_rows_values)))]) hP hD [1, 2] [0] rfl rfl (by decide) (by decide) hk1 hFc hP1 hD1
    generalize H1 = H at hP hS ⊢
    have hP : va_P (dC, dI) vwCl [(h_a0, .inr (7, [w_a0_primes, w_a0_sieved, w_a0_parting, w_a0_primeSums, w_a0_progression, .ref h_a0_rows])), (h_a0_rows, .inr (5, [.ref q_a0_rows_values, .int a0_rows_many])), (q_a0_rows_values, .inl (cJ, 9600, .inr (.inl a0_rows_values)))] H := hP
    have hD : va_D A [(h_a0, .inr (7, [w_a0_primes, w_a0_sieved, w_a0_parting, w_a0_primeSums, w_a0_progression, .ref h_a0_rows])), (h_a0_rows, .inr (5, [.ref q_a0_rows_values, .int a0_rows_many])), (q_a0_rows_values, .inl (cJ, 9600, .inr (.inl a0_rows_values)))] := hD
    refine lv_if_ne (tgt := 21) hx hb dX8_turned_16 (by decide) (fun c_4 => ?_) (fun c_4 => ?_)
    · replace h := h.2 c_4
      refine lv_aload_n hx hb dX8_turned_21 rfl (lv_at hl 0 rfl) ?_
      have hPc := hP.sub (ws' := [(h_a0, .inr (7, [w_a0_primes, w_a0_sieved, w_a0_parting, w_a0_primeSums, w_a0_progression, .ref h_a0_rows])), (h_a0_rows, .inr (5, [.ref q_a0_rows_values, .int a0_rows_many])), (q_a0_rows_values, .inl (cJ, 9600, .inr (.inl a0_rows_values)))]) [0, 1, 2] rfl
      have hDc := hD.sub (ws' := [(h_a0, .inr (7, [w_a0_primes, w_a0_sieved, w_a0_parting, w_a0_primeSums, w_a0_progression, .ref h_a0_rows])), (h_a0_rows, .inr (5, [.ref q_a0_rows_values, .int a0_rows_many])), (q_a0_rows_values, .inl (cJ, 9600, .inr (.inl a0_rows_values)))]) [0, 1, 2] (by decide) rfl
      have hFc := va_free (wc := [(h_a0, .inr (7, [w_a0_primes, w_a0_sieved, w_a0_parting, w_a0_primeSums, w_a0_progression, .ref h_a0_rows])), (h_a0_rows, .inr (5, [.ref q_a0_rows_values, .int a0_rows_many])), (q_a0_rows_values, .inl (cJ, 9600, .inr (.inl a0_rows_values)))]) hD hS hA [0, 1, 2] rfl
      refine va_calli (va_runV (As := []) (rest := []) ⟨hx, hb, hml, hown, hts⟩ (c_X8_newRow_c1 l dC dI cI cJ cZ _ h_a0 (w_a0_primes) (w_a0_sieved) (w_a0_parting) (w_a0_primeSums) (w_a0_progression) h_a0_rows a0_rows_values q_a0_rows_values a0_rows_many _ h) (cwV 0 hts gX8_turned_X8_newRow rfl rfl rfl (by decide +kernel) ⟨Nat.le_of_ble_eq_true rfl, Nat.le_of_ble_eq_true rfl⟩) ⟨pre_fb, va_recv hK hPc (ci := 7) (q0 := 0) rfl rfl, pre_of hPc hDc hK hN⟩ rfl rfl hl.1 rfl (lv_room (Nat.le_of_ble_eq_true rfl)) dX8_turned_22 ⟨by first | exact Nat.le_of_ble_eq_true rfl | exact Nat.le_refl _, by first | exact Nat.le_of_ble_eq_true rfl | exact Nat.le_refl _⟩) hS (fun q _ h => hFc q h) hFc (fun r_5 u t H1 locs ht hvm h hB hz1 hk1 hS => ?_)
      obtain ⟨o_6, o_7⟩ := u
      obtain ⟨hP1, hD1⟩ := hB
      rw [ht] at hP1
      try dsimp only at h
      obtain ⟨hP, hD⟩ := va_join (wr := []) (w1 := [(h_a0, .inr (7, [w_a0_primes, w_a0_sieved, w_a0_parting, w_a0_primeSums, w_a0_progression, .ref h_a0_rows])), (h_a0_rows, .inr (5, [.ref q_a0_rows_values, .int o_6])), (q_a0_rows_values, .inl (cJ, 9600, .inr (.inl o_7)))]) hP hD [0, 1, 2] [] rfl rfl (by decide) (by decide) hk1 hFc hP1 hD1
      generalize H1 = H at hP hS ⊢
      have hP : va_P (dC, dI) vwCl [(h_a0, .inr (7, [w_a0_primes, w_a0_sieved, w_a0_parting, w_a0_primeSums, w_a0_progression, .ref h_a0_rows])), (h_a0_rows, .inr (5, [.ref q_a0_rows_values, .int o_6])), (q_a0_rows_values, .inl (cJ, 9600, .inr (.inl o_7)))] H := hP
      have hD : va_D A [(h_a0, .inr (7, [w_a0_primes, w_a0_sieved, w_a0_parting, w_a0_primeSums, w_a0_progression, .ref h_a0_rows])), (h_a0_rows, .inr (5, [.ref q_a0_rows_values, .int o_6])), (q_a0_rows_values, .inl (cJ, 9600, .inr (.inl o_7)))] := hD
      refine lv_istore_n (lv' := [(2, .int r_5), (0, .ref h_a0), (1, .int p1)]) hx hb dX8_turned_25 rfl hl (by decide) rfl (fun ls hl => ?_)
      refine lv_iload_n hx hb dX8_turned_26 rfl (lv_at hl 0 rfl) ?_
      refine lv_iconst (v := (-1 : Int32)) hx hb dX8_turned_27 (by decide) ?_
      refine lv_icmp_eq (tgt := 40) hx hb dX8_turned_28 (by decide) (fun c_8 => ?_) (fun c_8 => ?_)
      · replace h := h.1 c_8
        refine lv_iload_n hx hb dX8_turned_40 rfl (lv_at hl 0 rfl) ?_
        have hP9 := hP.sub (ws' := [(h_a0, .inr (7, [w_a0_primes, w_a0_sieved, w_a0_parting, w_a0_primeSums, w_a0_progression, .ref h_a0_rows])), (h_a0_rows, .inr (5, [.ref q_a0_rows_values, .int o_6])), (q_a0_rows_values, .inl (cJ, 9600, .inr (.inl o_7)))]) [0, 1, 2] rfl
        have hD9 := hD.sub (ws' := [(h_a0, .inr (7, [w_a0_primes, w_a0_sieved, w_a0_parting, w_a0_primeSums, w_a0_progression, .ref h_a0_rows])), (h_a0_rows, .inr (5, [.ref q_a0_rows_values, .int o_6])), (q_a0_rows_values, .inl (cJ, 9600, .inr (.inl o_7)))]) [0, 1, 2] (by decide) rfl
        exact W.iret (v := r_5) hx hb hr (fun t ht hW => ⟨⟨_, (o_6, o_7), rfl, h, by rw [ht]; exact hP9, hD9⟩, hS.F ht⟩) hS.2.2 dX8_turned_41
      · replace h := h.2 c_8
        refine lv_aload_n hx hb dX8_turned_31 rfl (lv_at hl 1 rfl) ?_
        refine va_get (D := (dC, dI)) (ci := 7) (v := .ref h_a0_rows) (C := RX8) (T := TX8) (N := 6) hx hb hts hin_X8 hown hK hP 0 rfl rfl 5 (by decide) hw_0 (fun _ h9 => h9) rfl dX8_turned_32 ?_
        refine lv_iload_n hx hb dX8_turned_35 rfl (lv_at hl 0 rfl) ?_
        refine lv_iload_n hx hb dX8_turned_36 rfl (lv_at hl 2 rfl) ?_
        have hPc := hP.sub (ws' := [(h_a0_rows, .inr (5, [.ref q_a0_rows_values, .int o_6])), (q_a0_rows_values, .inl (cJ, 9600, .inr (.inl o_7)))]) [1, 2] rfl
        have hDc := hD.sub (ws' := [(h_a0_rows, .inr (5, [.ref q_a0_rows_values, .int o_6])), (q_a0_rows_values, .inl (cJ, 9600, .inr (.inl o_7)))]) [1, 2] (by decide) rfl
        have hFc := va_free (wc := [(h_a0_rows, .inr (5, [.ref q_a0_rows_values, .int o_6])), (q_a0_rows_values, .inl (cJ, 9600, .inr (.inl o_7)))]) hD hS hA [1, 2] rfl
        refine va_callv (va_runV (As := [.int r_5, .int p1]) (rest := []) ⟨hx, hb, hml, hown, hts⟩ (c_X5_fillTurned l dC dI cI cJ cZ _ h_a0_rows o_7 q_a0_rows_values o_6 r_5 p1 _ h) (cwV 2 hts gX8_turned_X5_fillTurned rfl rfl rfl (by decide +kernel) ⟨Nat.le_of_ble_eq_true rfl, Nat.le_of_ble_eq_true rfl⟩) ⟨pre_fb, va_recv hK hPc (ci := 5) (q0 := 0) rfl rfl, pre_of hPc hDc hK hN⟩ rfl rfl hl.1 rfl (lv_room (Nat.le_of_ble_eq_true rfl)) dX8_turned_37 ⟨by first | exact Nat.le_of_ble_eq_true rfl | exact Nat.le_refl _, by first | exact Nat.le_of_ble_eq_true rfl | exact Nat.le_refl _⟩) hS (fun q _ h => hFc q h) hFc (fun u t H1 locs ht hvm h hB hz1 hk1 hS => ?_)
        obtain ⟨o_9, rfl⟩ : ∃ z, z = u := ⟨_, rfl⟩
        obtain ⟨hP1, hD1⟩ := hB
        rw [ht] at hP1
        try dsimp only at h
        obtain ⟨hP, hD⟩ := va_join (wr := [(h_a0, .inr (7, [w_a0_primes, w_a0_sieved, w_a0_parting, w_a0_primeSums, w_a0_progression, .ref h_a0_rows]))]) (w1 := [(h_a0_rows, .inr (5, [.ref q_a0_rows_values, .int o_6])), (q_a0_rows_values, .inl (cJ, 9600, .inr (.inl o_9)))]) hP hD [1, 2] [0] rfl rfl (by decide) (by decide) hk1 hFc hP1 hD1
        generalize H1 = H at hP hS ⊢
        have hP : va_P (dC, dI) vwCl [(h_a0, .inr (7, [w_a0_primes, w_a0_sieved, w_a0_parting, w_a0_primeSums, w_a0_progression, .ref h_a0_rows])), (h_a0_rows, .inr (5, [.ref q_a0_rows_values, .int o_6])), (q_a0_rows_values, .inl (cJ, 9600, .inr (.inl o_9)))] H := hP
        have hD : va_D A [(h_a0, .inr (7, [w_a0_primes, w_a0_sieved, w_a0_parting, w_a0_primeSums, w_a0_progression, .ref h_a0_rows])), (h_a0_rows, .inr (5, [.ref q_a0_rows_values, .int o_6])), (q_a0_rows_values, .inl (cJ, 9600, .inr (.inl o_9)))] := hD
        refine lv_iload_n hx hb dX8_turned_40 rfl (lv_at hl 0 rfl) ?_
        have hP9 := hP.sub (ws' := [(h_a0, .inr (7, [w_a0_primes, w_a0_sieved, w_a0_parting, w_a0_primeSums, w_a0_progression, .ref h_a0_rows])), (h_a0_rows, .inr (5, [.ref q_a0_rows_values, .int o_6])), (q_a0_rows_values, .inl (cJ, 9600, .inr (.inl o_9)))]) [0, 1, 2] rfl
        have hD9 := hD.sub (ws' := [(h_a0, .inr (7, [w_a0_primes, w_a0_sieved, w_a0_parting, w_a0_primeSums, w_a0_progression, .ref h_a0_rows])), (h_a0_rows, .inr (5, [.ref q_a0_rows_values, .int o_6])), (q_a0_rows_values, .inl (cJ, 9600, .inr (.inl o_9)))]) [0, 1, 2] (by decide) rfl
        exact W.iret (v := r_5) hx hb hr (fun t ht hW => ⟨⟨_, (o_6, o_9), rfl, h, by rw [ht]; exact hP9, hD9⟩, hS.F ht⟩) hS.2.2 dX8_turned_41
    · replace h := h.1 c_4
      refine lv_iconst (v := (-1 : Int32)) hx hb dX8_turned_19 (by decide) ?_
      have hP9 := hP.sub (ws' := [(h_a0, .inr (7, [w_a0_primes, w_a0_sieved, w_a0_parting, w_a0_primeSums, w_a0_progression, .ref h_a0_rows])), (h_a0_rows, .inr (5, [.ref q_a0_rows_values, .int a0_rows_many])), (q_a0_rows_values, .inl (cJ, 9600, .inr (.inl a0_rows_values)))]) [0, 1, 2] rfl
      have hD9 := hD.sub (ws' := [(h_a0, .inr (7, [w_a0_primes, w_a0_sieved, w_a0_parting, w_a0_primeSums, w_a0_progression, .ref h_a0_rows])), (h_a0_rows, .inr (5, [.ref q_a0_rows_values, .int a0_rows_many])), (q_a0_rows_values, .inl (cJ, 9600, .inr (.inl a0_rows_values)))]) [0, 1, 2] (by decide) rfl
      exact W.iret (v := (-1 : Int32)) hx hb hr (fun t ht hW => ⟨⟨_, (a0_rows_many, a0_rows_values), rfl, h, by rw [ht]; exact hP9, hD9⟩, hS.F ht⟩) hS.2.2 dX8_turned_20
def wp_X8_clear_c0   (Q : Prop) : Prop :=
  Q
abbrev rm_X8_clear_c0 : Room := { frames := 0, cells := 0, slots := 0, locals := 0 }
abbrev qc_X8_clear_c0 (dC : Nat → ClassId) (dI : Nat → Nat → Nat) (cI cJ cZ : ClassId) (h_a0 : Nat) (w_a0_primes : Value) (w_a0_sieved : Value) (w_a0_parting : Value) (w_a0_primeSums : Value) (w_a0_progression : Value) (Q : Prop) (A : Nat → Prop) : Array Value → State → Outcome → State → Prop := va_Qv (fun (_ : Unit) => Q) (post_ dC dI A (fun (u : Unit) => ([(h_a0, .inr (7, [w_a0_primes, w_a0_sieved, w_a0_parting, w_a0_primeSums, w_a0_progression, .null]))] : va_W))) A
set_option maxHeartbeats 4000000 in
set_option maxRecDepth 100000 in
theorem c_X8_clear_c0 (l : Launch) (dC : Nat → ClassId) (dI : Nat → Nat → Nat) (cI cJ cZ : ClassId) (sz : Nat) (h_a0 : Nat) (w_a0_primes : Value) (w_a0_sieved : Value) (w_a0_parting : Value) (w_a0_primeSums : Value) (w_a0_progression : Value)  (Q : Prop) (hQ : wp_X8_clear_c0  Q) : Met l yX8_clear wsX8_clear rm_X8_clear_c0 (pre_ dC dI cI cJ cZ [.ref h_a0] [(h_a0, .inr (7, [w_a0_primes, w_a0_sieved, w_a0_parting, w_a0_primeSums, w_a0_progression, .null]))] sz) (qc_X8_clear_c0 dC dI cI cJ cZ h_a0 w_a0_primes w_a0_sieved w_a0_parting w_a0_primeSums w_a0_progression Q (va_A [(h_a0, .inr (7, [w_a0_primes, w_a0_sieved, w_a0_parting, w_a0_primeSums, w_a0_progression, .null]))] sz)) 0 0 (va_A [(h_a0, .inr (7, [w_a0_primes, w_a0_sieved, w_a0_parting, w_a0_primeSums, w_a0_progression, .null]))] sz) := by
  refine Met.ofW (cc := cX8_clear) (maxL := 1) (ret := none) (by decide) rfl ?_
  intro p e s m args below meth c s₁ B hml hv
  obtain ⟨rfl, hsz, hP, hK, hN, hD0⟩ := hv
  have hx := B.exec
  have hb := B.bytes
  have hr := B.returns
  have hts := atoms_spec (ws := wsX8_clear) B.pre
  have hown : s.vm.findClass RX8 = some m.cls := findClass_of_methodNamed B.named
  subst hsz
  have hD := hD0.self (sz := s.heap.size)
  generalize hAe : va_A [(h_a0, .inr (7, [w_a0_primes, w_a0_sieved, w_a0_parting, w_a0_primeSums, w_a0_progression, .null]))] s.heap.size = A at hD ⊢
  have hA : ∀ q : Nat, s.heap.size ≤ q → A q := fun q h => by rw [← hAe]; exact Or.inr h
  have hS : va_S A s.heap s.heap [] := va_S.rf
  have hl := lv_entry ([.ref h_a0]) (n := 1) (Nat.le_of_ble_eq_true rfl)
  rw [lg_entry_eq]
  generalize (lg_sl ([.ref h_a0]) ++ List.replicate (1 - (lg_sl ([.ref h_a0])).length) Slot.unset).toArray = ls at hl ⊢
  have hl : lv_has ls 1 [(0, .ref h_a0)] := hl
  have h := hQ
  unfold wp_X8_clear_c0 at h
  have hw_0 := hts (.fieldLink RX8 147 "NumberSieves" "rows" "LNumberSieves$Rows;") (by decide +kernel)
  have hin_X8 : ∀ w ∈ wsX80, w ∈ wsX8_clear := by decide +kernel
  refine lv_aload_n hx hb dX8_clear_0 rfl (lv_at hl 0 rfl) ?_
  refine va_get (D := (dC, dI)) (ci := 7) (v := .null) (C := RX8) (T := TX8) (N := 6) hx hb hts hin_X8 hown hK hP 0 rfl rfl 5 (by decide) hw_0 (fun _ h9 => h9) rfl dX8_clear_1 ?_
  refine lv_ifnullN (tgt := 15) hx hb dX8_clear_4 (by decide) ?_
  have hP9 := hP.sub (ws' := [(h_a0, .inr (7, [w_a0_primes, w_a0_sieved, w_a0_parting, w_a0_primeSums, w_a0_progression, .null]))]) [0] rfl
  have hD9 := hD.sub (ws' := [(h_a0, .inr (7, [w_a0_primes, w_a0_sieved, w_a0_parting, w_a0_primeSums, w_a0_progression, .null]))]) [0] (by decide) rfl
  exact W.vret hx hb hr (fun t ht hW => ⟨⟨(), rfl, h, by rw [ht]; exact hP9, hD9⟩, hS.F ht⟩) hS.2.2 dX8_clear_15
def wp_X8_clear_c1 (a0_rows_many : Int32)  (Q : Int32 → Prop) : Prop :=
  Q (0 : Int32)
abbrev rm_X8_clear_c1 : Room := { frames := 0, cells := 0, slots := 0, locals := 0 }
abbrev qc_X8_clear_c1 (dC : Nat → ClassId) (dI : Nat → Nat → Nat) (cI cJ cZ : ClassId) (h_a0 : Nat) (w_a0_primes : Value) (w_a0_sieved : Value) (w_a0_parting : Value) (w_a0_primeSums : Value) (w_a0_progression : Value) (h_a0_rows : Nat) (a0_rows_values : Nat → Int64) (q_a0_rows_values : Nat) (a0_rows_many : Int32) (Q : Int32 → Prop) (A : Nat → Prop) : Array Value → State → Outcome → State → Prop := va_Qv (fun (u : Int32) => Q u) (post_ dC dI A (fun (u : Int32) => ([(h_a0, .inr (7, [w_a0_primes, w_a0_sieved, w_a0_parting, w_a0_primeSums, w_a0_progression, .ref h_a0_rows])), (h_a0_rows, .inr (5, [.ref q_a0_rows_values, .int u])), (q_a0_rows_values, .inl (cJ, 9600, .inr (.inl a0_rows_values)))] : va_W))) A
set_option maxHeartbeats 4000000 in
set_option maxRecDepth 100000 in
theorem c_X8_clear_c1 (l : Launch) (dC : Nat → ClassId) (dI : Nat → Nat → Nat) (cI cJ cZ : ClassId) (sz : Nat) (h_a0 : Nat) (w_a0_primes : Value) (w_a0_sieved : Value) (w_a0_parting : Value) (w_a0_primeSums : Value) (w_a0_progression : Value) (h_a0_rows : Nat) (a0_rows_values : Nat → Int64) (q_a0_rows_values : Nat) (a0_rows_many : Int32)  (Q : Int32 → Prop) (hQ : wp_X8_clear_c1 a0_rows_many Q) : Met l yX8_clear wsX8_clear rm_X8_clear_c1 (pre_ dC dI cI cJ cZ [.ref h_a0] [(h_a0, .inr (7, [w_a0_primes, w_a0_sieved, w_a0_parting, w_a0_primeSums, w_a0_progression, .ref h_a0_rows])), (h_a0_rows, .inr (5, [.ref q_a0_rows_values, .int a0_rows_many])), (q_a0_rows_values, .inl (cJ, 9600, .inr (.inl a0_rows_values)))] sz) (qc_X8_clear_c1 dC dI cI cJ cZ h_a0 w_a0_primes w_a0_sieved w_a0_parting w_a0_primeSums w_a0_progression h_a0_rows a0_rows_values q_a0_rows_values a0_rows_many Q (va_A [(h_a0, .inr (7, [w_a0_primes, w_a0_sieved, w_a0_parting, w_a0_primeSums, w_a0_progression, .ref h_a0_rows])), (h_a0_rows, .inr (5, [.ref q_a0_rows_values, .int a0_rows_many])), (q_a0_rows_values, .inl (cJ, 9600, .inr (.inl a0_rows_values)))] sz)) 0 0 (va_A [(h_a0, .inr (7, [w_a0_primes, w_a0_sieved, w_a0_parting, w_a0_primeSums, w_a0_progression, .ref h_a0_rows])), (h_a0_rows, .inr (5, [.ref q_a0_rows_values, .int a0_rows_many])), (q_a0_rows_values, .inl (cJ, 9600, .inr (.inl a0_rows_values)))] sz) := by
  refine Met.ofW (cc := cX8_clear) (maxL := 1) (ret := none) (by decide) rfl ?_
  intro p e s m args below meth c s₁ B hml hv
  obtain ⟨rfl, hsz, hP, hK, hN, hD0⟩ := hv
  have hx := B.exec
  have hb := B.bytes
  have hr := B.returns
  have hts := atoms_spec (ws := wsX8_clear) B.pre
  have hown : s.vm.findClass RX8 = some m.cls := findClass_of_methodNamed B.named
  subst hsz
  have hD := hD0.self (sz := s.heap.size)
  generalize hAe : va_A [(h_a0, .inr (7, [w_a0_primes, w_a0_sieved, w_a0_parting, w_a0_primeSums, w_a0_progression, .ref h_a0_rows])), (h_a0_rows, .inr (5, [.ref q_a0_rows_values, .int a0_rows_many])), (q_a0_rows_values, .inl (cJ, 9600, .inr (.inl a0_rows_values)))] s.heap.size = A at hD ⊢
  have hA : ∀ q : Nat, s.heap.size ≤ q → A q := fun q h => by rw [← hAe]; exact Or.inr h
  have hS : va_S A s.heap s.heap [] := va_S.rf
  have hl := lv_entry ([.ref h_a0]) (n := 1) (Nat.le_of_ble_eq_true rfl)
  rw [lg_entry_eq]
  generalize (lg_sl ([.ref h_a0]) ++ List.replicate (1 - (lg_sl ([.ref h_a0])).length) Slot.unset).toArray = ls at hl ⊢
  have hl : lv_has ls 1 [(0, .ref h_a0)] := hl
  have h := hQ
  unfold wp_X8_clear_c1 at h
  have hw_0 := hts (.fieldLink RX8 147 "NumberSieves" "rows" "LNumberSieves$Rows;") (by decide +kernel)
  have hin_X8 : ∀ w ∈ wsX80, w ∈ wsX8_clear := by decide +kernel
  have hin_X5 : ∀ w ∈ wsX50, w ∈ wsX8_clear := by decide +kernel
  refine lv_aload_n hx hb dX8_clear_0 rfl (lv_at hl 0 rfl) ?_
  refine va_get (D := (dC, dI)) (ci := 7) (v := .ref h_a0_rows) (C := RX8) (T := TX8) (N := 6) hx hb hts hin_X8 hown hK hP 0 rfl rfl 5 (by decide) hw_0 (fun _ h9 => h9) rfl dX8_clear_1 ?_
  refine lv_ifnull hx hb dX8_clear_4 ?_
  refine lv_aload_n hx hb dX8_clear_7 rfl (lv_at hl 0 rfl) ?_
  refine va_get (D := (dC, dI)) (ci := 7) (v := .ref h_a0_rows) (C := RX8) (T := TX8) (N := 6) hx hb hts hin_X8 hown hK hP 0 rfl rfl 5 (by decide) hw_0 (fun _ h9 => h9) rfl dX8_clear_8 ?_
  refine lv_iconst (v := (0 : Int32)) hx hb dX8_clear_11 (by decide) ?_
  refine va_putN (D := (dC, dI)) (ci := 5) (v := .int (0 : Int32)) (ty := .int) (C := RX5) (T := TX5) (N := 2) hx hb hts hin_X5 tyX5 tyX5_ok nmX5 hown hK hP hD hS 1 rfl rfl 1 (by decide) (nw_10 hN) (fun _ h9 => h9) rfl (by decide +kernel) rfl rfl (Nat.le_of_ble_eq_true rfl) dX8_clear_12 (fun H locs hP hD hS => ?_)
  have hP : va_P (dC, dI) vwCl [(h_a0, .inr (7, [w_a0_primes, w_a0_sieved, w_a0_parting, w_a0_primeSums, w_a0_progression, .ref h_a0_rows])), (h_a0_rows, .inr (5, [.ref q_a0_rows_values, .int (0 : Int32)])), (q_a0_rows_values, .inl (cJ, 9600, .inr (.inl a0_rows_values)))] H := hP
  have hD : va_D A [(h_a0, .inr (7, [w_a0_primes, w_a0_sieved, w_a0_parting, w_a0_primeSums, w_a0_progression, .ref h_a0_rows])), (h_a0_rows, .inr (5, [.ref q_a0_rows_values, .int (0 : Int32)])), (q_a0_rows_values, .inl (cJ, 9600, .inr (.inl a0_rows_values)))] := hD
  have hP9 := hP.sub (ws' := [(h_a0, .inr (7, [w_a0_primes, w_a0_sieved, w_a0_parting, w_a0_primeSums, w_a0_progression, .ref h_a0_rows])), (h_a0_rows, .inr (5, [.ref q_a0_rows_values, .int (0 : Int32)])), (q_a0_rows_values, .inl (cJ, 9600, .inr (.inl a0_rows_values)))]) [0, 1, 2] rfl
  have hD9 := hD.sub (ws' := [(h_a0, .inr (7, [w_a0_primes, w_a0_sieved, w_a0_parting, w_a0_primeSums, w_a0_progression, .ref h_a0_rows])), (h_a0_rows, .inr (5, [.ref q_a0_rows_values, .int (0 : Int32)])), (q_a0_rows_values, .inl (cJ, 9600, .inr (.inl a0_rows_values)))]) [0, 1, 2] (by decide) rfl
  exact W.vret hx hb hr (fun t ht hW => ⟨⟨(0 : Int32), rfl, h, by rw [ht]; exact hP9, hD9⟩, hS.F ht⟩) hS.2.2 dX8_clear_15
def wp_X8_at_c0  (p1 : Int32) (p2 : Int32) (Q : Int64 → Prop) : Prop :=
  wp_X8_hasRow_c0 p1 (fun r_1 => ((r_1 = (0 : Int32) → Q (0 : Int64)) ∧ (¬ r_1 = (0 : Int32) → False)))
abbrev rm_X8_at_c0 : Room := { frames := 2, cells := 0, slots := 0, locals := 43 }
abbrev qc_X8_at_c0 (dC : Nat → ClassId) (dI : Nat → Nat → Nat) (cI cJ cZ : ClassId) (h_a0 : Nat) (w_a0_primes : Value) (w_a0_sieved : Value) (w_a0_parting : Value) (w_a0_primeSums : Value) (w_a0_progression : Value) (Q : Int64 → Prop) (A : Nat → Prop) : Array Value → State → Outcome → State → Prop := va_Ql (fun (r : Int64) (_ : Unit) => Q r) (post_ dC dI A (fun (u : Unit) => ([(h_a0, .inr (7, [w_a0_primes, w_a0_sieved, w_a0_parting, w_a0_primeSums, w_a0_progression, .null]))] : va_W))) A
set_option maxHeartbeats 4000000 in
set_option maxRecDepth 100000 in
theorem c_X8_at_c0 (l : Launch) (dC : Nat → ClassId) (dI : Nat → Nat → Nat) (cI cJ cZ : ClassId) (sz : Nat) (h_a0 : Nat) (w_a0_primes : Value) (w_a0_sieved : Value) (w_a0_parting : Value) (w_a0_primeSums : Value) (w_a0_progression : Value) (p1 : Int32) (p2 : Int32) (Q : Int64 → Prop) (hQ : wp_X8_at_c0 p1 p2 Q) : Met l yX8_at wsX8_at rm_X8_at_c0 (pre_ dC dI cI cJ cZ [.ref h_a0, .int p1, .int p2] [(h_a0, .inr (7, [w_a0_primes, w_a0_sieved, w_a0_parting, w_a0_primeSums, w_a0_progression, .null]))] sz) (qc_X8_at_c0 dC dI cI cJ cZ h_a0 w_a0_primes w_a0_sieved w_a0_parting w_a0_primeSums w_a0_progression Q (va_A [(h_a0, .inr (7, [w_a0_primes, w_a0_sieved, w_a0_parting, w_a0_primeSums, w_a0_progression, .null]))] sz)) 0 0 (va_A [(h_a0, .inr (7, [w_a0_primes, w_a0_sieved, w_a0_parting, w_a0_primeSums, w_a0_progression, .null]))] sz) := by
  refine Met.ofW (cc := cX8_at) (maxL := 3) (ret := (some .long)) (by decide) rfl ?_
  intro p e s m args below meth c s₁ B hml hv
  obtain ⟨rfl, hsz, hP, hK, hN, hD0⟩ := hv
  have hx := B.exec
  have hb := B.bytes
  have hr := B.returns
  have hts := atoms_spec (ws := wsX8_at) B.pre
  have hown : s.vm.findClass RX8 = some m.cls := findClass_of_methodNamed B.named
  subst hsz
  have hD := hD0.self (sz := s.heap.size)
  generalize hAe : va_A [(h_a0, .inr (7, [w_a0_primes, w_a0_sieved, w_a0_parting, w_a0_primeSums, w_a0_progression, .null]))] s.heap.size = A at hD ⊢
  have hA : ∀ q : Nat, s.heap.size ≤ q → A q := fun q h => by rw [← hAe]; exact Or.inr h
  have hS : va_S A s.heap s.heap [] := va_S.rf
  have hl := lv_entry ([.ref h_a0, .int p1, .int p2]) (n := 3) (Nat.le_of_ble_eq_true rfl)
  rw [lg_entry_eq]
  generalize (lg_sl ([.ref h_a0, .int p1, .int p2]) ++ List.replicate (3 - (lg_sl ([.ref h_a0, .int p1, .int p2])).length) Slot.unset).toArray = ls at hl ⊢
  have hl : lv_has ls 3 [(0, .ref h_a0), (1, .int p1), (2, .int p2)] := hl
  have h := hQ
  unfold wp_X8_at_c0 at h
  have hw_0 := hts (.fieldLink RX8 147 "NumberSieves" "rows" "LNumberSieves$Rows;") (by decide +kernel)
  have hin_X8 : ∀ w ∈ wsX80, w ∈ wsX8_at := by decide +kernel
  refine lv_aload_n hx hb dX8_at_0 rfl (lv_at hl 0 rfl) ?_
  refine lv_iload_n hx hb dX8_at_1 rfl (lv_at hl 1 rfl) ?_
  have hPc := hP.sub (ws' := [(h_a0, .inr (7, [w_a0_primes, w_a0_sieved, w_a0_parting, w_a0_primeSums, w_a0_progression, .null]))]) [0] rfl
  have hDc := hD.sub (ws' := [(h_a0, .inr (7, [w_a0_primes, w_a0_sieved, w_a0_parting, w_a0_primeSums, w_a0_progression, .null]))]) [0] (by decide) rfl
  have hFc := va_free (wc := [(h_a0, .inr (7, [w_a0_primes, w_a0_sieved, w_a0_parting, w_a0_primeSums, w_a0_progression, .null]))]) hD hS hA [0] rfl
  refine va_calli (va_runV (As := [.int p1]) (rest := []) ⟨hx, hb, hml, hown, hts⟩ (c_X8_hasRow_c0 l dC dI cI cJ cZ _ h_a0 (w_a0_primes) (w_a0_sieved) (w_a0_parting) (w_a0_primeSums) (w_a0_progression) p1 _ h) (cwV 1 hts gX8_at_X8_hasRow rfl rfl rfl (by decide +kernel) ⟨Nat.le_of_ble_eq_true rfl, Nat.le_of_ble_eq_true rfl⟩) ⟨pre_fb, va_recv hK hPc (ci := 7) (q0 := 0) rfl rfl, pre_of hPc hDc hK hN⟩ rfl rfl hl.1 rfl (lv_room (Nat.le_of_ble_eq_true rfl)) dX8_at_2 ⟨by first | exact Nat.le_of_ble_eq_true rfl | exact Nat.le_refl _, by first | exact Nat.le_of_ble_eq_true rfl | exact Nat.le_refl _⟩) hS (fun q _ h => hFc q h) hFc (fun r_1 u t H1 locs ht hvm h hB hz1 hk1 hS => ?_)
  obtain ⟨hP1, hD1⟩ := hB
  rw [ht] at hP1
  try dsimp only at h
  obtain ⟨hP, hD⟩ := va_join (wr := []) (w1 := [(h_a0, .inr (7, [w_a0_primes, w_a0_sieved, w_a0_parting, w_a0_primeSums, w_a0_progression, .null]))]) hP hD [0] [] rfl rfl (by decide) (by decide) hk1 hFc hP1 hD1
  generalize H1 = H at hP hS ⊢
  have hP : va_P (dC, dI) vwCl [(h_a0, .inr (7, [w_a0_primes, w_a0_sieved, w_a0_parting, w_a0_primeSums, w_a0_progression, .null]))] H := hP
  have hD : va_D A [(h_a0, .inr (7, [w_a0_primes, w_a0_sieved, w_a0_parting, w_a0_primeSums, w_a0_progression, .null]))] := hD
  refine lv_if_eq (tgt := 20) hx hb dX8_at_5 (by decide) (fun c_2 => ?_) (fun c_2 => ?_)
  · replace h := h.1 c_2
    refine lv_lconst (v := (0 : Int64)) hx hb dX8_at_20 (by decide) ?_
    have hP9 := hP.sub (ws' := [(h_a0, .inr (7, [w_a0_primes, w_a0_sieved, w_a0_parting, w_a0_primeSums, w_a0_progression, .null]))]) [0] rfl
    have hD9 := hD.sub (ws' := [(h_a0, .inr (7, [w_a0_primes, w_a0_sieved, w_a0_parting, w_a0_primeSums, w_a0_progression, .null]))]) [0] (by decide) rfl
    exact W.lret (v := (0 : Int64)) hx hb hr (fun t ht hW => ⟨⟨_, (), rfl, h, by rw [ht]; exact hP9, hD9⟩, hS.F ht⟩) hS.2.2 dX8_at_21
  · replace h := h.2 c_2
    refine lv_aload_n hx hb dX8_at_8 rfl (lv_at hl 0 rfl) ?_
    refine va_get (D := (dC, dI)) (ci := 7) (v := .null) (C := RX8) (T := TX8) (N := 6) hx hb hts hin_X8 hown hK hP 0 rfl rfl 5 (by decide) hw_0 (fun _ h9 => h9) rfl dX8_at_9 ?_
    refine lv_iload_n hx hb dX8_at_12 rfl (lv_at hl 1 rfl) ?_
    refine lv_iload_n hx hb dX8_at_13 rfl (lv_at hl 2 rfl) ?_
    exact h.elim
def wp_X8_at_c1 (a0_rows_values : Nat → Int64) (a0_rows_many : Int32) (p1 : Int32) (p2 : Int32) (Q : Int64 → Prop) : Prop :=
  wp_X8_hasRow_c1 a0_rows_many p1 (fun r_1 => ((r_1 = (0 : Int32) → Q (0 : Int64)) ∧ (¬ r_1 = (0 : Int32) → wp_X5_look a0_rows_values p1 p2 (fun r_3 => Q r_3))))
abbrev rm_X8_at_c1 : Room := { frames := 2, cells := 0, slots := 0, locals := 43 }
abbrev qc_X8_at_c1 (dC : Nat → ClassId) (dI : Nat → Nat → Nat) (cI cJ cZ : ClassId) (h_a0 : Nat) (w_a0_primes : Value) (w_a0_sieved : Value) (w_a0_parting : Value) (w_a0_primeSums : Value) (w_a0_progression : Value) (h_a0_rows : Nat) (a0_rows_values : Nat → Int64) (q_a0_rows_values : Nat) (a0_rows_many : Int32) (Q : Int64 → Prop) (A : Nat → Prop) : Array Value → State → Outcome → State → Prop := va_Ql (fun (r : Int64) (_ : Unit) => Q r) (post_ dC dI A (fun (u : Unit) => ([(h_a0, .inr (7, [w_a0_primes, w_a0_sieved, w_a0_parting, w_a0_primeSums, w_a0_progression, .ref h_a0_rows])), (h_a0_rows, .inr (5, [.ref q_a0_rows_values, .int a0_rows_many])), (q_a0_rows_values, .inl (cJ, 9600, .inr (.inl a0_rows_values)))] : va_W))) A
set_option maxHeartbeats 4000000 in
set_option maxRecDepth 100000 in
theorem c_X8_at_c1 (l : Launch) (dC : Nat → ClassId) (dI : Nat → Nat → Nat) (cI cJ cZ : ClassId) (sz : Nat) (h_a0 : Nat) (w_a0_primes : Value) (w_a0_sieved : Value) (w_a0_parting : Value) (w_a0_primeSums : Value) (w_a0_progression : Value) (h_a0_rows : Nat) (a0_rows_values : Nat → Int64) (q_a0_rows_values : Nat) (a0_rows_many : Int32) (p1 : Int32) (p2 : Int32) (Q : Int64 → Prop) (hQ : wp_X8_at_c1 a0_rows_values a0_rows_many p1 p2 Q) : Met l yX8_at wsX8_at rm_X8_at_c1 (pre_ dC dI cI cJ cZ [.ref h_a0, .int p1, .int p2] [(h_a0, .inr (7, [w_a0_primes, w_a0_sieved, w_a0_parting, w_a0_primeSums, w_a0_progression, .ref h_a0_rows])), (h_a0_rows, .inr (5, [.ref q_a0_rows_values, .int a0_rows_many])), (q_a0_rows_values, .inl (cJ, 9600, .inr (.inl a0_rows_values)))] sz) (qc_X8_at_c1 dC dI cI cJ cZ h_a0 w_a0_primes w_a0_sieved w_a0_parting w_a0_primeSums w_a0_progression h_a0_rows a0_rows_values q_a0_rows_values a0_rows_many Q (va_A [(h_a0, .inr (7, [w_a0_primes, w_a0_sieved, w_a0_parting, w_a0_primeSums, w_a0_progression, .ref h_a0_rows])), (h_a0_rows, .inr (5, [.ref q_a0_rows_values, .int a0_rows_many])), (q_a0_rows_values, .inl (cJ, 9600, .inr (.inl a0_rows_values)))] sz)) 0 0 (va_A [(h_a0, .inr (7, [w_a0_primes, w_a0_sieved, w_a0_parting, w_a0_primeSums, w_a0_progression, .ref h_a0_rows])), (h_a0_rows, .inr (5, [.ref q_a0_rows_values, .int a0_rows_many])), (q_a0_rows_values, .inl (cJ, 9600, .inr (.inl a0_rows_values)))] sz) := by
  refine Met.ofW (cc := cX8_at) (maxL := 3) (ret := (some .long)) (by decide) rfl ?_
  intro p e s m args below meth c s₁ B hml hv
  obtain ⟨rfl, hsz, hP, hK, hN, hD0⟩ := hv
  have hx := B.exec
  have hb := B.bytes
  have hr := B.returns
  have hts := atoms_spec (ws := wsX8_at) B.pre
  have hown : s.vm.findClass RX8 = some m.cls := findClass_of_methodNamed B.named
  subst hsz
  have hD := hD0.self (sz := s.heap.size)
  generalize hAe : va_A [(h_a0, .inr (7, [w_a0_primes, w_a0_sieved, w_a0_parting, w_a0_primeSums, w_a0_progression, .ref h_a0_rows])), (h_a0_rows, .inr (5, [.ref q_a0_rows_values, .int a0_rows_many])), (q_a0_rows_values, .inl (cJ, 9600, .inr (.inl a0_rows_values)))] s.heap.size = A at hD ⊢
  have hA : ∀ q : Nat, s.heap.size ≤ q → A q := fun q h => by rw [← hAe]; exact Or.inr h
  have hS : va_S A s.heap s.heap [] := va_S.rf
  have hl := lv_entry ([.ref h_a0, .int p1, .int p2]) (n := 3) (Nat.le_of_ble_eq_true rfl)
  rw [lg_entry_eq]
  generalize (lg_sl ([.ref h_a0, .int p1, .int p2]) ++ List.replicate (3 - (lg_sl ([.ref h_a0, .int p1, .int p2])).length) Slot.unset).toArray = ls at hl ⊢
  have hl : lv_has ls 3 [(0, .ref h_a0), (1, .int p1), (2, .int p2)] := hl
  have h := hQ
  unfold wp_X8_at_c1 at h
  have hw_0 := hts (.fieldLink RX8 147 "NumberSieves" "rows" "LNumberSieves$Rows;") (by decide +kernel)
  have hin_X8 : ∀ w ∈ wsX80, w ∈ wsX8_at := by decide +kernel
  refine lv_aload_n hx hb dX8_at_0 rfl (lv_at hl 0 rfl) ?_
  refine lv_iload_n hx hb dX8_at_1 rfl (lv_at hl 1 rfl) ?_
  have hPc := hP.sub (ws' := [(h_a0, .inr (7, [w_a0_primes, w_a0_sieved, w_a0_parting, w_a0_primeSums, w_a0_progression, .ref h_a0_rows])), (h_a0_rows, .inr (5, [.ref q_a0_rows_values, .int a0_rows_many])), (q_a0_rows_values, .inl (cJ, 9600, .inr (.inl a0_rows_values)))]) [0, 1, 2] rfl
  have hDc := hD.sub (ws' := [(h_a0, .inr (7, [w_a0_primes, w_a0_sieved, w_a0_parting, w_a0_primeSums, w_a0_progression, .ref h_a0_rows])), (h_a0_rows, .inr (5, [.ref q_a0_rows_values, .int a0_rows_many])), (q_a0_rows_values, .inl (cJ, 9600, .inr (.inl a0_rows_values)))]) [0, 1, 2] (by decide) rfl
  have hFc := va_free (wc := [(h_a0, .inr (7, [w_a0_primes, w_a0_sieved, w_a0_parting, w_a0_primeSums, w_a0_progression, .ref h_a0_rows])), (h_a0_rows, .inr (5, [.ref q_a0_rows_values, .int a0_rows_many])), (q_a0_rows_values, .inl (cJ, 9600, .inr (.inl a0_rows_values)))]) hD hS hA [0, 1, 2] rfl
  refine va_calli (va_runV (As := [.int p1]) (rest := []) ⟨hx, hb, hml, hown, hts⟩ (c_X8_hasRow_c1 l dC dI cI cJ cZ _ h_a0 (w_a0_primes) (w_a0_sieved) (w_a0_parting) (w_a0_primeSums) (w_a0_progression) h_a0_rows a0_rows_values q_a0_rows_values a0_rows_many p1 _ h) (cwV 1 hts gX8_at_X8_hasRow rfl rfl rfl (by decide +kernel) ⟨Nat.le_of_ble_eq_true rfl, Nat.le_of_ble_eq_true rfl⟩) ⟨pre_fb, va_recv hK hPc (ci := 7) (q0 := 0) rfl rfl, pre_of hPc hDc hK hN⟩ rfl rfl hl.1 rfl (lv_room (Nat.le_of_ble_eq_true rfl)) dX8_at_2 ⟨by first | exact Nat.le_of_ble_eq_true rfl | exact Nat.le_refl _, by first | exact Nat.le_of_ble_eq_true rfl | exact Nat.le_refl _⟩) hS (fun q _ h => hFc q h) hFc (fun r_1 u t H1 locs ht hvm h hB hz1 hk1 hS => ?_)
  obtain ⟨hP1, hD1⟩ := hB
  rw [ht] at hP1
  try dsimp only at h
  obtain ⟨hP, hD⟩ := va_join (wr := []) (w1 := [(h_a0, .inr (7, [w_a0_primes, w_a0_sieved, w_a0_parting, w_a0_primeSums, w_a0_progression, .ref h_a0_rows])), (h_a0_rows, .inr (5, [.ref q_a0_rows_values, .int a0_rows_many])), (q_a0_rows_values, .inl (cJ, 9600, .inr (.inl a0_rows_values)))]) hP hD [0, 1, 2] [] rfl rfl (by decide) (by decide) hk1 hFc hP1 hD1
  generalize H1 = H at hP hS ⊢
  have hP : va_P (dC, dI) vwCl [(h_a0, .inr (7, [w_a0_primes, w_a0_sieved, w_a0_parting, w_a0_primeSums, w_a0_progression, .ref h_a0_rows])), (h_a0_rows, .inr (5, [.ref q_a0_rows_values, .int a0_rows_many])), (q_a0_rows_values, .inl (cJ, 9600, .inr (.inl a0_rows_values)))] H := hP
  have hD : va_D A [(h_a0, .inr (7, [w_a0_primes, w_a0_sieved, w_a0_parting, w_a0_primeSums, w_a0_progression, .ref h_a0_rows])), (h_a0_rows, .inr (5, [.ref q_a0_rows_values, .int a0_rows_many])), (q_a0_rows_values, .inl (cJ, 9600, .inr (.inl a0_rows_values)))] := hD
  refine lv_if_eq (tgt := 20) hx hb dX8_at_5 (by decide) (fun c_2 => ?_) (fun c_2 => ?_)
  · replace h := h.1 c_2
    refine lv_lconst (v := (0 : Int64)) hx hb dX8_at_20 (by decide) ?_
    have hP9 := hP.sub (ws' := [(h_a0, .inr (7, [w_a0_primes, w_a0_sieved, w_a0_parting, w_a0_primeSums, w_a0_progression, .ref h_a0_rows])), (h_a0_rows, .inr (5, [.ref q_a0_rows_values, .int a0_rows_many])), (q_a0_rows_values, .inl (cJ, 9600, .inr (.inl a0_rows_values)))]) [0, 1, 2] rfl
    have hD9 := hD.sub (ws' := [(h_a0, .inr (7, [w_a0_primes, w_a0_sieved, w_a0_parting, w_a0_primeSums, w_a0_progression, .ref h_a0_rows])), (h_a0_rows, .inr (5, [.ref q_a0_rows_values, .int a0_rows_many])), (q_a0_rows_values, .inl (cJ, 9600, .inr (.inl a0_rows_values)))]) [0, 1, 2] (by decide) rfl
    exact W.lret (v := (0 : Int64)) hx hb hr (fun t ht hW => ⟨⟨_, (), rfl, h, by rw [ht]; exact hP9, hD9⟩, hS.F ht⟩) hS.2.2 dX8_at_21
  · replace h := h.2 c_2
    refine lv_aload_n hx hb dX8_at_8 rfl (lv_at hl 0 rfl) ?_
    refine va_get (D := (dC, dI)) (ci := 7) (v := .ref h_a0_rows) (C := RX8) (T := TX8) (N := 6) hx hb hts hin_X8 hown hK hP 0 rfl rfl 5 (by decide) hw_0 (fun _ h9 => h9) rfl dX8_at_9 ?_
    refine lv_iload_n hx hb dX8_at_12 rfl (lv_at hl 1 rfl) ?_
    refine lv_iload_n hx hb dX8_at_13 rfl (lv_at hl 2 rfl) ?_
    have hPc := hP.sub (ws' := [(h_a0_rows, .inr (5, [.ref q_a0_rows_values, .int a0_rows_many])), (q_a0_rows_values, .inl (cJ, 9600, .inr (.inl a0_rows_values)))]) [1, 2] rfl
    have hDc := hD.sub (ws' := [(h_a0_rows, .inr (5, [.ref q_a0_rows_values, .int a0_rows_many])), (q_a0_rows_values, .inl (cJ, 9600, .inr (.inl a0_rows_values)))]) [1, 2] (by decide) rfl
    have hFc := va_free (wc := [(h_a0_rows, .inr (5, [.ref q_a0_rows_values, .int a0_rows_many])), (q_a0_rows_values, .inl (cJ, 9600, .inr (.inl a0_rows_values)))]) hD hS hA [1, 2] rfl
    refine va_calll (va_runV (As := [.int p1, .int p2]) (rest := []) ⟨hx, hb, hml, hown, hts⟩ (c_X5_look l dC dI cI cJ cZ _ h_a0_rows a0_rows_values q_a0_rows_values a0_rows_many p1 p2 _ h) (cwV 2 hts gX8_at_X5_look rfl rfl rfl (by decide +kernel) ⟨Nat.le_of_ble_eq_true rfl, Nat.le_of_ble_eq_true rfl⟩) ⟨pre_fb, va_recv hK hPc (ci := 5) (q0 := 0) rfl rfl, pre_of hPc hDc hK hN⟩ rfl rfl hl.1 rfl (lv_room (Nat.le_of_ble_eq_true rfl)) dX8_at_14 ⟨by first | exact Nat.le_of_ble_eq_true rfl | exact Nat.le_refl _, by first | exact Nat.le_of_ble_eq_true rfl | exact Nat.le_refl _⟩) hS (fun q _ h => hFc q h) hFc (fun r_3 u t H1 locs ht hvm h hB hz1 hk1 hS => ?_)
    obtain ⟨hP1, hD1⟩ := hB
    rw [ht] at hP1
    try dsimp only at h
    obtain ⟨hP, hD⟩ := va_join (wr := [(h_a0, .inr (7, [w_a0_primes, w_a0_sieved, w_a0_parting, w_a0_primeSums, w_a0_progression, .ref h_a0_rows]))]) (w1 := [(h_a0_rows, .inr (5, [.ref q_a0_rows_values, .int a0_rows_many])), (q_a0_rows_values, .inl (cJ, 9600, .inr (.inl a0_rows_values)))]) hP hD [1, 2] [0] rfl rfl (by decide) (by decide) hk1 hFc hP1 hD1
    generalize H1 = H at hP hS ⊢
    have hP : va_P (dC, dI) vwCl [(h_a0, .inr (7, [w_a0_primes, w_a0_sieved, w_a0_parting, w_a0_primeSums, w_a0_progression, .ref h_a0_rows])), (h_a0_rows, .inr (5, [.ref q_a0_rows_values, .int a0_rows_many])), (q_a0_rows_values, .inl (cJ, 9600, .inr (.inl a0_rows_values)))] H := hP
    have hD : va_D A [(h_a0, .inr (7, [w_a0_primes, w_a0_sieved, w_a0_parting, w_a0_primeSums, w_a0_progression, .ref h_a0_rows])), (h_a0_rows, .inr (5, [.ref q_a0_rows_values, .int a0_rows_many])), (q_a0_rows_values, .inl (cJ, 9600, .inr (.inl a0_rows_values)))] := hD
    refine lv_goto (tgt := 21) hx hb dX8_at_17 (by decide) ?_
    have hP9 := hP.sub (ws' := [(h_a0, .inr (7, [w_a0_primes, w_a0_sieved, w_a0_parting, w_a0_primeSums, w_a0_progression, .ref h_a0_rows])), (h_a0_rows, .inr (5, [.ref q_a0_rows_values, .int a0_rows_many])), (q_a0_rows_values, .inl (cJ, 9600, .inr (.inl a0_rows_values)))]) [0, 1, 2] rfl
    have hD9 := hD.sub (ws' := [(h_a0, .inr (7, [w_a0_primes, w_a0_sieved, w_a0_parting, w_a0_primeSums, w_a0_progression, .ref h_a0_rows])), (h_a0_rows, .inr (5, [.ref q_a0_rows_values, .int a0_rows_many])), (q_a0_rows_values, .inl (cJ, 9600, .inr (.inl a0_rows_values)))]) [0, 1, 2] (by decide) rfl
    exact W.lret (v := r_3) hx hb hr (fun t ht hW => ⟨⟨_, (), rfl, h, by rw [ht]; exact hP9, hD9⟩, hS.F ht⟩) hS.2.2 dX8_at_21
def wp_X8_sumOf_c0  (p1 : Int32) (p2 : Int32) (Q : Int64 → Prop) : Prop :=
  wp_X8_hasRow_c0 p1 (fun r_1 => ((r_1 = (0 : Int32) → Q (0 : Int64)) ∧ (¬ r_1 = (0 : Int32) → ((p2 < (0 : Int32) → Q (0 : Int64)) ∧ (¬ p2 < (0 : Int32) → ((p2 ≤ (600 : Int32) → False) ∧ (¬ p2 ≤ (600 : Int32) → Q (0 : Int64))))))))
abbrev rm_X8_sumOf_c0 : Room := { frames := 3, cells := 0, slots := 0, locals := 68 }
abbrev qc_X8_sumOf_c0 (dC : Nat → ClassId) (dI : Nat → Nat → Nat) (cI cJ cZ : ClassId) (h_a0 : Nat) (w_a0_primes : Value) (w_a0_sieved : Value) (w_a0_parting : Value) (w_a0_primeSums : Value) (w_a0_progression : Value) (Q : Int64 → Prop) (A : Nat → Prop) : Array Value → State → Outcome → State → Prop := va_Ql (fun (r : Int64) (_ : Unit) => Q r) (post_ dC dI A (fun (u : Unit) => ([(h_a0, .inr (7, [w_a0_primes, w_a0_sieved, w_a0_parting, w_a0_primeSums, w_a0_progression, .null]))] : va_W))) A
set_option maxHeartbeats 4000000 in
set_option maxRecDepth 100000 in
theorem c_X8_sumOf_c0 (l : Launch) (dC : Nat → ClassId) (dI : Nat → Nat → Nat) (cI cJ cZ : ClassId) (sz : Nat) (h_a0 : Nat) (w_a0_primes : Value) (w_a0_sieved : Value) (w_a0_parting : Value) (w_a0_primeSums : Value) (w_a0_progression : Value) (p1 : Int32) (p2 : Int32) (Q : Int64 → Prop) (hQ : wp_X8_sumOf_c0 p1 p2 Q) : Met l yX8_sumOf wsX8_sumOf rm_X8_sumOf_c0 (pre_ dC dI cI cJ cZ [.ref h_a0, .int p1, .int p2] [(h_a0, .inr (7, [w_a0_primes, w_a0_sieved, w_a0_parting, w_a0_primeSums, w_a0_progression, .null]))] sz) (qc_X8_sumOf_c0 dC dI cI cJ cZ h_a0 w_a0_primes w_a0_sieved w_a0_parting w_a0_primeSums w_a0_progression Q (va_A [(h_a0, .inr (7, [w_a0_primes, w_a0_sieved, w_a0_parting, w_a0_primeSums, w_a0_progression, .null]))] sz)) 0 0 (va_A [(h_a0, .inr (7, [w_a0_primes, w_a0_sieved, w_a0_parting, w_a0_primeSums, w_a0_progression, .null]))] sz) := by
  refine Met.ofW (cc := cX8_sumOf) (maxL := 3) (ret := (some .long)) (by decide) rfl ?_
  intro p e s m args below meth c s₁ B hml hv
  obtain ⟨rfl, hsz, hP, hK, hN, hD0⟩ := hv
  have hx := B.exec
  have hb := B.bytes
  have hr := B.returns
  have hts := atoms_spec (ws := wsX8_sumOf) B.pre
  have hown : s.vm.findClass RX8 = some m.cls := findClass_of_methodNamed B.named
  subst hsz
  have hD := hD0.self (sz := s.heap.size)
  generalize hAe : va_A [(h_a0, .inr (7, [w_a0_primes, w_a0_sieved, w_a0_parting, w_a0_primeSums, w_a0_progression, .null]))] s.heap.size = A at hD ⊢
  have hA : ∀ q : Nat, s.heap.size ≤ q → A q := fun q h => by rw [← hAe]; exact Or.inr h
  have hS : va_S A s.heap s.heap [] := va_S.rf
  have hl := lv_entry ([.ref h_a0, .int p1, .int p2]) (n := 3) (Nat.le_of_ble_eq_true rfl)
  rw [lg_entry_eq]
  generalize (lg_sl ([.ref h_a0, .int p1, .int p2]) ++ List.replicate (3 - (lg_sl ([.ref h_a0, .int p1, .int p2])).length) Slot.unset).toArray = ls at hl ⊢
  have hl : lv_has ls 3 [(0, .ref h_a0), (1, .int p1), (2, .int p2)] := hl
  have h := hQ
  unfold wp_X8_sumOf_c0 at h
  have hw_0 := hts (.fieldLink RX8 147 "NumberSieves" "rows" "LNumberSieves$Rows;") (by decide +kernel)
  have hin_X8 : ∀ w ∈ wsX80, w ∈ wsX8_sumOf := by decide +kernel
  refine lv_aload_n hx hb dX8_sumOf_0 rfl (lv_at hl 0 rfl) ?_
  refine lv_iload_n hx hb dX8_sumOf_1 rfl (lv_at hl 1 rfl) ?_
  have hPc := hP.sub (ws' := [(h_a0, .inr (7, [w_a0_primes, w_a0_sieved, w_a0_parting, w_a0_primeSums, w_a0_progression, .null]))]) [0] rfl
  have hDc := hD.sub (ws' := [(h_a0, .inr (7, [w_a0_primes, w_a0_sieved, w_a0_parting, w_a0_primeSums, w_a0_progression, .null]))]) [0] (by decide) rfl
  have hFc := va_free (wc := [(h_a0, .inr (7, [w_a0_primes, w_a0_sieved, w_a0_parting, w_a0_primeSums, w_a0_progression, .null]))]) hD hS hA [0] rfl
  refine va_calli (va_runV (As := [.int p1]) (rest := []) ⟨hx, hb, hml, hown, hts⟩ (c_X8_hasRow_c0 l dC dI cI cJ cZ _ h_a0 (w_a0_primes) (w_a0_sieved) (w_a0_parting) (w_a0_primeSums) (w_a0_progression) p1 _ h) (cwV 1 hts gX8_sumOf_X8_hasRow rfl rfl rfl (by decide +kernel) ⟨Nat.le_of_ble_eq_true rfl, Nat.le_of_ble_eq_true rfl⟩) ⟨pre_fb, va_recv hK hPc (ci := 7) (q0 := 0) rfl rfl, pre_of hPc hDc hK hN⟩ rfl rfl hl.1 rfl (lv_room (Nat.le_of_ble_eq_true rfl)) dX8_sumOf_2 ⟨by first | exact Nat.le_of_ble_eq_true rfl | exact Nat.le_refl _, by first | exact Nat.le_of_ble_eq_true rfl | exact Nat.le_refl _⟩) hS (fun q _ h => hFc q h) hFc (fun r_1 u t H1 locs ht hvm h hB hz1 hk1 hS => ?_)
  obtain ⟨hP1, hD1⟩ := hB
  rw [ht] at hP1
  try dsimp only at h
  obtain ⟨hP, hD⟩ := va_join (wr := []) (w1 := [(h_a0, .inr (7, [w_a0_primes, w_a0_sieved, w_a0_parting, w_a0_primeSums, w_a0_progression, .null]))]) hP hD [0] [] rfl rfl (by decide) (by decide) hk1 hFc hP1 hD1
  generalize H1 = H at hP hS ⊢
  have hP : va_P (dC, dI) vwCl [(h_a0, .inr (7, [w_a0_primes, w_a0_sieved, w_a0_parting, w_a0_primeSums, w_a0_progression, .null]))] H := hP
  have hD : va_D A [(h_a0, .inr (7, [w_a0_primes, w_a0_sieved, w_a0_parting, w_a0_primeSums, w_a0_progression, .null]))] := hD
  refine lv_if_eq (tgt := 19) hx hb dX8_sumOf_5 (by decide) (fun c_2 => ?_) (fun c_2 => ?_)
  · replace h := h.1 c_2
    refine lv_lconst (v := (0 : Int64)) hx hb dX8_sumOf_19 (by decide) ?_
    have hP9 := hP.sub (ws' := [(h_a0, .inr (7, [w_a0_primes, w_a0_sieved, w_a0_parting, w_a0_primeSums, w_a0_progression, .null]))]) [0] rfl
    have hD9 := hD.sub (ws' := [(h_a0, .inr (7, [w_a0_primes, w_a0_sieved, w_a0_parting, w_a0_primeSums, w_a0_progression, .null]))]) [0] (by decide) rfl
    exact W.lret (v := (0 : Int64)) hx hb hr (fun t ht hW => ⟨⟨_, (), rfl, h, by rw [ht]; exact hP9, hD9⟩, hS.F ht⟩) hS.2.2 dX8_sumOf_20
  · replace h := h.2 c_2
    refine lv_iload_n hx hb dX8_sumOf_8 rfl (lv_at hl 2 rfl) ?_
    refine lv_if_lt (tgt := 19) hx hb dX8_sumOf_9 (by decide) (fun c_3 => ?_) (fun c_3 => ?_)
    · replace h := h.1 c_3
      refine lv_lconst (v := (0 : Int64)) hx hb dX8_sumOf_19 (by decide) ?_
      have hP9 := hP.sub (ws' := [(h_a0, .inr (7, [w_a0_primes, w_a0_sieved, w_a0_parting, w_a0_primeSums, w_a0_progression, .null]))]) [0] rfl
      have hD9 := hD.sub (ws' := [(h_a0, .inr (7, [w_a0_primes, w_a0_sieved, w_a0_parting, w_a0_primeSums, w_a0_progression, .null]))]) [0] (by decide) rfl
      exact W.lret (v := (0 : Int64)) hx hb hr (fun t ht hW => ⟨⟨_, (), rfl, h, by rw [ht]; exact hP9, hD9⟩, hS.F ht⟩) hS.2.2 dX8_sumOf_20
    · replace h := h.2 c_3
      refine lv_iload_n hx hb dX8_sumOf_12 rfl (lv_at hl 2 rfl) ?_
      refine lv_sipush (v := (600 : Int32)) hx hb dX8_sumOf_13 (by decide) ?_
      refine lv_icmp_le (tgt := 21) hx hb dX8_sumOf_16 (by decide) (fun c_4 => ?_) (fun c_4 => ?_)
      · replace h := h.1 c_4
        refine lv_aload_n hx hb dX8_sumOf_21 rfl (lv_at hl 0 rfl) ?_
        refine va_get (D := (dC, dI)) (ci := 7) (v := .null) (C := RX8) (T := TX8) (N := 6) hx hb hts hin_X8 hown hK hP 0 rfl rfl 5 (by decide) hw_0 (fun _ h9 => h9) rfl dX8_sumOf_22 ?_
        refine lv_iload_n hx hb dX8_sumOf_25 rfl (lv_at hl 1 rfl) ?_
        refine lv_iload_n hx hb dX8_sumOf_26 rfl (lv_at hl 2 rfl) ?_
        exact h.elim
      · replace h := h.2 c_4
        refine lv_lconst (v := (0 : Int64)) hx hb dX8_sumOf_19 (by decide) ?_
        have hP9 := hP.sub (ws' := [(h_a0, .inr (7, [w_a0_primes, w_a0_sieved, w_a0_parting, w_a0_primeSums, w_a0_progression, .null]))]) [0] rfl
        have hD9 := hD.sub (ws' := [(h_a0, .inr (7, [w_a0_primes, w_a0_sieved, w_a0_parting, w_a0_primeSums, w_a0_progression, .null]))]) [0] (by decide) rfl
        exact W.lret (v := (0 : Int64)) hx hb hr (fun t ht hW => ⟨⟨_, (), rfl, h, by rw [ht]; exact hP9, hD9⟩, hS.F ht⟩) hS.2.2 dX8_sumOf_20
def wp_X8_sumOf_c1 (a0_rows_values : Nat → Int64) (a0_rows_many : Int32) (p1 : Int32) (p2 : Int32) (Q : Int64 → Prop) : Prop :=
  wp_X8_hasRow_c1 a0_rows_many p1 (fun r_1 => ((r_1 = (0 : Int32) → Q (0 : Int64)) ∧ (¬ r_1 = (0 : Int32) → ((p2 < (0 : Int32) → Q (0 : Int64)) ∧ (¬ p2 < (0 : Int32) → ((p2 ≤ (600 : Int32) → wp_X5_sumTo a0_rows_values p1 p2 (fun r_5 => Q r_5)) ∧ (¬ p2 ≤ (600 : Int32) → Q (0 : Int64))))))))
abbrev rm_X8_sumOf_c1 : Room := { frames := 3, cells := 0, slots := 0, locals := 68 }
abbrev qc_X8_sumOf_c1 (dC : Nat → ClassId) (dI : Nat → Nat → Nat) (cI cJ cZ : ClassId) (h_a0 : Nat) (w_a0_primes : Value) (w_a0_sieved : Value) (w_a0_parting : Value) (w_a0_primeSums : Value) (w_a0_progression : Value) (h_a0_rows : Nat) (a0_rows_values : Nat → Int64) (q_a0_rows_values : Nat) (a0_rows_many : Int32) (Q : Int64 → Prop) (A : Nat → Prop) : Array Value → State → Outcome → State → Prop := va_Ql (fun (r : Int64) (_ : Unit) => Q r) (post_ dC dI A (fun (u : Unit) => ([(h_a0, .inr (7, [w_a0_primes, w_a0_sieved, w_a0_parting, w_a0_primeSums, w_a0_progression, .ref h_a0_rows])), (h_a0_rows, .inr (5, [.ref q_a0_rows_values, .int a0_rows_many])), (q_a0_rows_values, .inl (cJ, 9600, .inr (.inl a0_rows_values)))] : va_W))) A
set_option maxHeartbeats 4000000 in
set_option maxRecDepth 100000 in
theorem c_X8_sumOf_c1 (l : Launch) (dC : Nat → ClassId) (dI : Nat → Nat → Nat) (cI cJ cZ : ClassId) (sz : Nat) (h_a0 : Nat) (w_a0_primes : Value) (w_a0_sieved : Value) (w_a0_parting : Value) (w_a0_primeSums : Value) (w_a0_progression : Value) (h_a0_rows : Nat) (a0_rows_values : Nat → Int64) (q_a0_rows_values : Nat) (a0_rows_many : Int32) (p1 : Int32) (p2 : Int32) (Q : Int64 → Prop) (hQ : wp_X8_sumOf_c1 a0_rows_values a0_rows_many p1 p2 Q) : Met l yX8_sumOf wsX8_sumOf rm_X8_sumOf_c1 (pre_ dC dI cI cJ cZ [.ref h_a0, .int p1, .int p2] [(h_a0, .inr (7, [w_a0_primes, w_a0_sieved, w_a0_parting, w_a0_primeSums, w_a0_progression, .ref h_a0_rows])), (h_a0_rows, .inr (5, [.ref q_a0_rows_values, .int a0_rows_many])), (q_a0_rows_values, .inl (cJ, 9600, .inr (.inl a0_rows_values)))] sz) (qc_X8_sumOf_c1 dC dI cI cJ cZ h_a0 w_a0_primes w_a0_sieved w_a0_parting w_a0_primeSums w_a0_progression h_a0_rows a0_rows_values q_a0_rows_values a0_rows_many Q (va_A [(h_a0, .inr (7, [w_a0_primes, w_a0_sieved, w_a0_parting, w_a0_primeSums, w_a0_progression, .ref h_a0_rows])), (h_a0_rows, .inr (5, [.ref q_a0_rows_values, .int a0_rows_many])), (q_a0_rows_values, .inl (cJ, 9600, .inr (.inl a0_rows_values)))] sz)) 0 0 (va_A [(h_a0, .inr (7, [w_a0_primes, w_a0_sieved, w_a0_parting, w_a0_primeSums, w_a0_progression, .ref h_a0_rows])), (h_a0_rows, .inr (5, [.ref q_a0_rows_values, .int a0_rows_many])), (q_a0_rows_values, .inl (cJ, 9600, .inr (.inl a0_rows_values)))] sz) := by
  refine Met.ofW (cc := cX8_sumOf) (maxL := 3) (ret := (some .long)) (by decide) rfl ?_
  intro p e s m args below meth c s₁ B hml hv
  obtain ⟨rfl, hsz, hP, hK, hN, hD0⟩ := hv
  have hx := B.exec
  have hb := B.bytes
  have hr := B.returns
  have hts := atoms_spec (ws := wsX8_sumOf) B.pre
  have hown : s.vm.findClass RX8 = some m.cls := findClass_of_methodNamed B.named
  subst hsz
  have hD := hD0.self (sz := s.heap.size)
  generalize hAe : va_A [(h_a0, .inr (7, [w_a0_primes, w_a0_sieved, w_a0_parting, w_a0_primeSums, w_a0_progression, .ref h_a0_rows])), (h_a0_rows, .inr (5, [.ref q_a0_rows_values, .int a0_rows_many])), (q_a0_rows_values, .inl (cJ, 9600, .inr (.inl a0_rows_values)))] s.heap.size = A at hD ⊢
  have hA : ∀ q : Nat, s.heap.size ≤ q → A q := fun q h => by rw [← hAe]; exact Or.inr h
  have hS : va_S A s.heap s.heap [] := va_S.rf
  have hl := lv_entry ([.ref h_a0, .int p1, .int p2]) (n := 3) (Nat.le_of_ble_eq_true rfl)
  rw [lg_entry_eq]
  generalize (lg_sl ([.ref h_a0, .int p1, .int p2]) ++ List.replicate (3 - (lg_sl ([.ref h_a0, .int p1, .int p2])).length) Slot.unset).toArray = ls at hl ⊢
  have hl : lv_has ls 3 [(0, .ref h_a0), (1, .int p1), (2, .int p2)] := hl
  have h := hQ
  unfold wp_X8_sumOf_c1 at h
  have hw_0 := hts (.fieldLink RX8 147 "NumberSieves" "rows" "LNumberSieves$Rows;") (by decide +kernel)
  have hin_X8 : ∀ w ∈ wsX80, w ∈ wsX8_sumOf := by decide +kernel
  refine lv_aload_n hx hb dX8_sumOf_0 rfl (lv_at hl 0 rfl) ?_
  refine lv_iload_n hx hb dX8_sumOf_1 rfl (lv_at hl 1 rfl) ?_
  have hPc := hP.sub (ws' := [(h_a0, .inr (7, [w_a0_primes, w_a0_sieved, w_a0_parting, w_a0_primeSums, w_a0_progression, .ref h_a0_rows])), (h_a0_rows, .inr (5, [.ref q_a0_rows_values, .int a0_rows_many])), (q_a0_rows_values, .inl (cJ, 9600, .inr (.inl a0_rows_values)))]) [0, 1, 2] rfl
  have hDc := hD.sub (ws' := [(h_a0, .inr (7, [w_a0_primes, w_a0_sieved, w_a0_parting, w_a0_primeSums, w_a0_progression, .ref h_a0_rows])), (h_a0_rows, .inr (5, [.ref q_a0_rows_values, .int a0_rows_many])), (q_a0_rows_values, .inl (cJ, 9600, .inr (.inl a0_rows_values)))]) [0, 1, 2] (by decide) rfl
  have hFc := va_free (wc := [(h_a0, .inr (7, [w_a0_primes, w_a0_sieved, w_a0_parting, w_a0_primeSums, w_a0_progression, .ref h_a0_rows])), (h_a0_rows, .inr (5, [.ref q_a0_rows_values, .int a0_rows_many])), (q_a0_rows_values, .inl (cJ, 9600, .inr (.inl a0_rows_values)))]) hD hS hA [0, 1, 2] rfl
  refine va_calli (va_runV (As := [.int p1]) (rest := []) ⟨hx, hb, hml, hown, hts⟩ (c_X8_hasRow_c1 l dC dI cI cJ cZ _ h_a0 (w_a0_primes) (w_a0_sieved) (w_a0_parting) (w_a0_primeSums) (w_a0_progression) h_a0_rows a0_rows_values q_a0_rows_values a0_rows_many p1 _ h) (cwV 1 hts gX8_sumOf_X8_hasRow rfl rfl rfl (by decide +kernel) ⟨Nat.le_of_ble_eq_true rfl, Nat.le_of_ble_eq_true rfl⟩) ⟨pre_fb, va_recv hK hPc (ci := 7) (q0 := 0) rfl rfl, pre_of hPc hDc hK hN⟩ rfl rfl hl.1 rfl (lv_room (Nat.le_of_ble_eq_true rfl)) dX8_sumOf_2 ⟨by first | exact Nat.le_of_ble_eq_true rfl | exact Nat.le_refl _, by first | exact Nat.le_of_ble_eq_true rfl | exact Nat.le_refl _⟩) hS (fun q _ h => hFc q h) hFc (fun r_1 u t H1 locs ht hvm h hB hz1 hk1 hS => ?_)
  obtain ⟨hP1, hD1⟩ := hB
  rw [ht] at hP1
  try dsimp only at h
  obtain ⟨hP, hD⟩ := va_join (wr := []) (w1 := [(h_a0, .inr (7, [w_a0_primes, w_a0_sieved, w_a0_parting, w_a0_primeSums, w_a0_progression, .ref h_a0_rows])), (h_a0_rows, .inr (5, [.ref q_a0_rows_values, .int a0_rows_many])), (q_a0_rows_values, .inl (cJ, 9600, .inr (.inl a0_rows_values)))]) hP hD [0, 1, 2] [] rfl rfl (by decide) (by decide) hk1 hFc hP1 hD1
  generalize H1 = H at hP hS ⊢
  have hP : va_P (dC, dI) vwCl [(h_a0, .inr (7, [w_a0_primes, w_a0_sieved, w_a0_parting, w_a0_primeSums, w_a0_progression, .ref h_a0_rows])), (h_a0_rows, .inr (5, [.ref q_a0_rows_values, .int a0_rows_many])), (q_a0_rows_values, .inl (cJ, 9600, .inr (.inl a0_rows_values)))] H := hP
  have hD : va_D A [(h_a0, .inr (7, [w_a0_primes, w_a0_sieved, w_a0_parting, w_a0_primeSums, w_a0_progression, .ref h_a0_rows])), (h_a0_rows, .inr (5, [.ref q_a0_rows_values, .int a0_rows_many])), (q_a0_rows_values, .inl (cJ, 9600, .inr (.inl a0_rows_values)))] := hD
  refine lv_if_eq (tgt := 19) hx hb dX8_sumOf_5 (by decide) (fun c_2 => ?_) (fun c_2 => ?_)
  · replace h := h.1 c_2
    refine lv_lconst (v := (0 : Int64)) hx hb dX8_sumOf_19 (by decide) ?_
    have hP9 := hP.sub (ws' := [(h_a0, .inr (7, [w_a0_primes, w_a0_sieved, w_a0_parting, w_a0_primeSums, w_a0_progression, .ref h_a0_rows])), (h_a0_rows, .inr (5, [.ref q_a0_rows_values, .int a0_rows_many])), (q_a0_rows_values, .inl (cJ, 9600, .inr (.inl a0_rows_values)))]) [0, 1, 2] rfl
    have hD9 := hD.sub (ws' := [(h_a0, .inr (7, [w_a0_primes, w_a0_sieved, w_a0_parting, w_a0_primeSums, w_a0_progression, .ref h_a0_rows])), (h_a0_rows, .inr (5, [.ref q_a0_rows_values, .int a0_rows_many])), (q_a0_rows_values, .inl (cJ, 9600, .inr (.inl a0_rows_values)))]) [0, 1, 2] (by decide) rfl
    exact W.lret (v := (0 : Int64)) hx hb hr (fun t ht hW => ⟨⟨_, (), rfl, h, by rw [ht]; exact hP9, hD9⟩, hS.F ht⟩) hS.2.2 dX8_sumOf_20
  · replace h := h.2 c_2
    refine lv_iload_n hx hb dX8_sumOf_8 rfl (lv_at hl 2 rfl) ?_
    refine lv_if_lt (tgt := 19) hx hb dX8_sumOf_9 (by decide) (fun c_3 => ?_) (fun c_3 => ?_)
    · replace h := h.1 c_3
      refine lv_lconst (v := (0 : Int64)) hx hb dX8_sumOf_19 (by decide) ?_
      have hP9 := hP.sub (ws' := [(h_a0, .inr (7, [w_a0_primes, w_a0_sieved, w_a0_parting, w_a0_primeSums, w_a0_progression, .ref h_a0_rows])), (h_a0_rows, .inr (5, [.ref q_a0_rows_values, .int a0_rows_many])), (q_a0_rows_values, .inl (cJ, 9600, .inr (.inl a0_rows_values)))]) [0, 1, 2] rfl
      have hD9 := hD.sub (ws' := [(h_a0, .inr (7, [w_a0_primes, w_a0_sieved, w_a0_parting, w_a0_primeSums, w_a0_progression, .ref h_a0_rows])), (h_a0_rows, .inr (5, [.ref q_a0_rows_values, .int a0_rows_many])), (q_a0_rows_values, .inl (cJ, 9600, .inr (.inl a0_rows_values)))]) [0, 1, 2] (by decide) rfl
      exact W.lret (v := (0 : Int64)) hx hb hr (fun t ht hW => ⟨⟨_, (), rfl, h, by rw [ht]; exact hP9, hD9⟩, hS.F ht⟩) hS.2.2 dX8_sumOf_20
    · replace h := h.2 c_3
      refine lv_iload_n hx hb dX8_sumOf_12 rfl (lv_at hl 2 rfl) ?_
      refine lv_sipush (v := (600 : Int32)) hx hb dX8_sumOf_13 (by decide) ?_
      refine lv_icmp_le (tgt := 21) hx hb dX8_sumOf_16 (by decide) (fun c_4 => ?_) (fun c_4 => ?_)
      · replace h := h.1 c_4
        refine lv_aload_n hx hb dX8_sumOf_21 rfl (lv_at hl 0 rfl) ?_
        refine va_get (D := (dC, dI)) (ci := 7) (v := .ref h_a0_rows) (C := RX8) (T := TX8) (N := 6) hx hb hts hin_X8 hown hK hP 0 rfl rfl 5 (by decide) hw_0 (fun _ h9 => h9) rfl dX8_sumOf_22 ?_
        refine lv_iload_n hx hb dX8_sumOf_25 rfl (lv_at hl 1 rfl) ?_
        refine lv_iload_n hx hb dX8_sumOf_26 rfl (lv_at hl 2 rfl) ?_
        have hPc := hP.sub (ws' := [(h_a0_rows, .inr (5, [.ref q_a0_rows_values, .int a0_rows_many])), (q_a0_rows_values, .inl (cJ, 9600, .inr (.inl a0_rows_values)))]) [1, 2] rfl
        have hDc := hD.sub (ws' := [(h_a0_rows, .inr (5, [.ref q_a0_rows_values, .int a0_rows_many])), (q_a0_rows_values, .inl (cJ, 9600, .inr (.inl a0_rows_values)))]) [1, 2] (by decide) rfl
        have hFc := va_free (wc := [(h_a0_rows, .inr (5, [.ref q_a0_rows_values, .int a0_rows_many])), (q_a0_rows_values, .inl (cJ, 9600, .inr (.inl a0_rows_values)))]) hD hS hA [1, 2] rfl
        refine va_calll (va_runV (As := [.int p1, .int p2]) (rest := []) ⟨hx, hb, hml, hown, hts⟩ (c_X5_sumTo l dC dI cI cJ cZ _ h_a0_rows a0_rows_values q_a0_rows_values a0_rows_many p1 p2 _ h) (cwV 2 hts gX8_sumOf_X5_sumTo rfl rfl rfl (by decide +kernel) ⟨Nat.le_of_ble_eq_true rfl, Nat.le_of_ble_eq_true rfl⟩) ⟨pre_fb, va_recv hK hPc (ci := 5) (q0 := 0) rfl rfl, pre_of hPc hDc hK hN⟩ rfl rfl hl.1 rfl (lv_room (Nat.le_of_ble_eq_true rfl)) dX8_sumOf_27 ⟨by first | exact Nat.le_of_ble_eq_true rfl | exact Nat.le_refl _, by first | exact Nat.le_of_ble_eq_true rfl | exact Nat.le_refl _⟩) hS (fun q _ h => hFc q h) hFc (fun r_5 u t H1 locs ht hvm h hB hz1 hk1 hS => ?_)
        obtain ⟨hP1, hD1⟩ := hB
        rw [ht] at hP1
        try dsimp only at h
        obtain ⟨hP, hD⟩ := va_join (wr := [(h_a0, .inr (7, [w_a0_primes, w_a0_sieved, w_a0_parting, w_a0_primeSums, w_a0_progression, .ref h_a0_rows]))]) (w1 := [(h_a0_rows, .inr (5, [.ref q_a0_rows_values, .int a0_rows_many])), (q_a0_rows_values, .inl (cJ, 9600, .inr (.inl a0_rows_values)))]) hP hD [1, 2] [0] rfl rfl (by decide) (by decide) hk1 hFc hP1 hD1
        generalize H1 = H at hP hS ⊢
        have hP : va_P (dC, dI) vwCl [(h_a0, .inr (7, [w_a0_primes, w_a0_sieved, w_a0_parting, w_a0_primeSums, w_a0_progression, .ref h_a0_rows])), (h_a0_rows, .inr (5, [.ref q_a0_rows_values, .int a0_rows_many])), (q_a0_rows_values, .inl (cJ, 9600, .inr (.inl a0_rows_values)))] H := hP
        have hD : va_D A [(h_a0, .inr (7, [w_a0_primes, w_a0_sieved, w_a0_parting, w_a0_primeSums, w_a0_progression, .ref h_a0_rows])), (h_a0_rows, .inr (5, [.ref q_a0_rows_values, .int a0_rows_many])), (q_a0_rows_values, .inl (cJ, 9600, .inr (.inl a0_rows_values)))] := hD
        have hP9 := hP.sub (ws' := [(h_a0, .inr (7, [w_a0_primes, w_a0_sieved, w_a0_parting, w_a0_primeSums, w_a0_progression, .ref h_a0_rows])), (h_a0_rows, .inr (5, [.ref q_a0_rows_values, .int a0_rows_many])), (q_a0_rows_values, .inl (cJ, 9600, .inr (.inl a0_rows_values)))]) [0, 1, 2] rfl
        have hD9 := hD.sub (ws' := [(h_a0, .inr (7, [w_a0_primes, w_a0_sieved, w_a0_parting, w_a0_primeSums, w_a0_progression, .ref h_a0_rows])), (h_a0_rows, .inr (5, [.ref q_a0_rows_values, .int a0_rows_many])), (q_a0_rows_values, .inl (cJ, 9600, .inr (.inl a0_rows_values)))]) [0, 1, 2] (by decide) rfl
        exact W.lret (v := r_5) hx hb hr (fun t ht hW => ⟨⟨_, (), rfl, h, by rw [ht]; exact hP9, hD9⟩, hS.F ht⟩) hS.2.2 dX8_sumOf_30
      · replace h := h.2 c_4
        refine lv_lconst (v := (0 : Int64)) hx hb dX8_sumOf_19 (by decide) ?_
        have hP9 := hP.sub (ws' := [(h_a0, .inr (7, [w_a0_primes, w_a0_sieved, w_a0_parting, w_a0_primeSums, w_a0_progression, .ref h_a0_rows])), (h_a0_rows, .inr (5, [.ref q_a0_rows_values, .int a0_rows_many])), (q_a0_rows_values, .inl (cJ, 9600, .inr (.inl a0_rows_values)))]) [0, 1, 2] rfl
        have hD9 := hD.sub (ws' := [(h_a0, .inr (7, [w_a0_primes, w_a0_sieved, w_a0_parting, w_a0_primeSums, w_a0_progression, .ref h_a0_rows])), (h_a0_rows, .inr (5, [.ref q_a0_rows_values, .int a0_rows_many])), (q_a0_rows_values, .inl (cJ, 9600, .inr (.inl a0_rows_values)))]) [0, 1, 2] (by decide) rfl
        exact W.lret (v := (0 : Int64)) hx hb hr (fun t ht hW => ⟨⟨_, (), rfl, h, by rw [ht]; exact hP9, hD9⟩, hS.F ht⟩) hS.2.2 dX8_sumOf_20
def wp_X8_same_c0  (p1 : Int32) (p2 : Int32) (Q : Int32 → Prop) : Prop :=
  wp_X8_hasRow_c0 p1 (fun r_1 => ((r_1 = (0 : Int32) → Q (-1 : Int32)) ∧ (¬ r_1 = (0 : Int32) → wp_X8_hasRow_c0 p2 (fun r_3 => ((r_3 = (0 : Int32) → Q (-1 : Int32)) ∧ (¬ r_3 = (0 : Int32) → False))))))
abbrev rm_X8_same_c0 : Room := { frames := 3, cells := 0, slots := 0, locals := 66 }
abbrev qc_X8_same_c0 (dC : Nat → ClassId) (dI : Nat → Nat → Nat) (cI cJ cZ : ClassId) (h_a0 : Nat) (w_a0_primes : Value) (w_a0_sieved : Value) (w_a0_parting : Value) (w_a0_primeSums : Value) (w_a0_progression : Value) (Q : Int32 → Prop) (A : Nat → Prop) : Array Value → State → Outcome → State → Prop := va_Qi (fun (r : Int32) (_ : Unit) => Q r) (post_ dC dI A (fun (u : Unit) => ([(h_a0, .inr (7, [w_a0_primes, w_a0_sieved, w_a0_parting, w_a0_primeSums, w_a0_progression, .null]))] : va_W))) A
set_option maxHeartbeats 4000000 in
set_option maxRecDepth 100000 in
theorem c_X8_same_c0 (l : Launch) (dC : Nat → ClassId) (dI : Nat → Nat → Nat) (cI cJ cZ : ClassId) (sz : Nat) (h_a0 : Nat) (w_a0_primes : Value) (w_a0_sieved : Value) (w_a0_parting : Value) (w_a0_primeSums : Value) (w_a0_progression : Value) (p1 : Int32) (p2 : Int32) (Q : Int32 → Prop) (hQ : wp_X8_same_c0 p1 p2 Q) : Met l yX8_same wsX8_same rm_X8_same_c0 (pre_ dC dI cI cJ cZ [.ref h_a0, .int p1, .int p2] [(h_a0, .inr (7, [w_a0_primes, w_a0_sieved, w_a0_parting, w_a0_primeSums, w_a0_progression, .null]))] sz) (qc_X8_same_c0 dC dI cI cJ cZ h_a0 w_a0_primes w_a0_sieved w_a0_parting w_a0_primeSums w_a0_progression Q (va_A [(h_a0, .inr (7, [w_a0_primes, w_a0_sieved, w_a0_parting, w_a0_primeSums, w_a0_progression, .null]))] sz)) 0 0 (va_A [(h_a0, .inr (7, [w_a0_primes, w_a0_sieved, w_a0_parting, w_a0_primeSums, w_a0_progression, .null]))] sz) := by
  refine Met.ofW (cc := cX8_same) (maxL := 3) (ret := (some .int)) (by decide) rfl ?_
  intro p e s m args below meth c s₁ B hml hv
  obtain ⟨rfl, hsz, hP, hK, hN, hD0⟩ := hv
  have hx := B.exec
  have hb := B.bytes
  have hr := B.returns
  have hts := atoms_spec (ws := wsX8_same) B.pre
  have hown : s.vm.findClass RX8 = some m.cls := findClass_of_methodNamed B.named
  subst hsz
  have hD := hD0.self (sz := s.heap.size)
  generalize hAe : va_A [(h_a0, .inr (7, [w_a0_primes, w_a0_sieved, w_a0_parting, w_a0_primeSums, w_a0_progression, .null]))] s.heap.size = A at hD ⊢
  have hA : ∀ q : Nat, s.heap.size ≤ q → A q := fun q h => by rw [← hAe]; exact Or.inr h
  have hS : va_S A s.heap s.heap [] := va_S.rf
  have hl := lv_entry ([.ref h_a0, .int p1, .int p2]) (n := 3) (Nat.le_of_ble_eq_true rfl)
  rw [lg_entry_eq]
  generalize (lg_sl ([.ref h_a0, .int p1, .int p2]) ++ List.replicate (3 - (lg_sl ([.ref h_a0, .int p1, .int p2])).length) Slot.unset).toArray = ls at hl ⊢
  have hl : lv_has ls 3 [(0, .ref h_a0), (1, .int p1), (2, .int p2)] := hl
  have h := hQ
  unfold wp_X8_same_c0 at h
  have hw_0 := hts (.fieldLink RX8 147 "NumberSieves" "rows" "LNumberSieves$Rows;") (by decide +kernel)
  have hin_X8 : ∀ w ∈ wsX80, w ∈ wsX8_same := by decide +kernel
  refine lv_aload_n hx hb dX8_same_0 rfl (lv_at hl 0 rfl) ?_
  refine lv_iload_n hx hb dX8_same_1 rfl (lv_at hl 1 rfl) ?_
  have hPc := hP.sub (ws' := [(h_a0, .inr (7, [w_a0_primes, w_a0_sieved, w_a0_parting, w_a0_primeSums, w_a0_progression, .null]))]) [0] rfl
  have hDc := hD.sub (ws' := [(h_a0, .inr (7, [w_a0_primes, w_a0_sieved, w_a0_parting, w_a0_primeSums, w_a0_progression, .null]))]) [0] (by decide) rfl
  have hFc := va_free (wc := [(h_a0, .inr (7, [w_a0_primes, w_a0_sieved, w_a0_parting, w_a0_primeSums, w_a0_progression, .null]))]) hD hS hA [0] rfl
  refine va_calli (va_runV (As := [.int p1]) (rest := []) ⟨hx, hb, hml, hown, hts⟩ (c_X8_hasRow_c0 l dC dI cI cJ cZ _ h_a0 (w_a0_primes) (w_a0_sieved) (w_a0_parting) (w_a0_primeSums) (w_a0_progression) p1 _ h) (cwV 1 hts gX8_same_X8_hasRow rfl rfl rfl (by decide +kernel) ⟨Nat.le_of_ble_eq_true rfl, Nat.le_of_ble_eq_true rfl⟩) ⟨pre_fb, va_recv hK hPc (ci := 7) (q0 := 0) rfl rfl, pre_of hPc hDc hK hN⟩ rfl rfl hl.1 rfl (lv_room (Nat.le_of_ble_eq_true rfl)) dX8_same_2 ⟨by first | exact Nat.le_of_ble_eq_true rfl | exact Nat.le_refl _, by first | exact Nat.le_of_ble_eq_true rfl | exact Nat.le_refl _⟩) hS (fun q _ h => hFc q h) hFc (fun r_1 u t H1 locs ht hvm h hB hz1 hk1 hS => ?_)
  obtain ⟨hP1, hD1⟩ := hB
  rw [ht] at hP1
  try dsimp only at h
  obtain ⟨hP, hD⟩ := va_join (wr := []) (w1 := [(h_a0, .inr (7, [w_a0_primes, w_a0_sieved, w_a0_parting, w_a0_primeSums, w_a0_progression, .null]))]) hP hD [0] [] rfl rfl (by decide) (by decide) hk1 hFc hP1 hD1
  generalize H1 = H at hP hS ⊢
  have hP : va_P (dC, dI) vwCl [(h_a0, .inr (7, [w_a0_primes, w_a0_sieved, w_a0_parting, w_a0_primeSums, w_a0_progression, .null]))] H := hP
  have hD : va_D A [(h_a0, .inr (7, [w_a0_primes, w_a0_sieved, w_a0_parting, w_a0_primeSums, w_a0_progression, .null]))] := hD
  refine lv_if_eq (tgt := 16) hx hb dX8_same_5 (by decide) (fun c_2 => ?_) (fun c_2 => ?_)
  · replace h := h.1 c_2
    refine lv_iconst (v := (-1 : Int32)) hx hb dX8_same_16 (by decide) ?_
    have hP9 := hP.sub (ws' := [(h_a0, .inr (7, [w_a0_primes, w_a0_sieved, w_a0_parting, w_a0_primeSums, w_a0_progression, .null]))]) [0] rfl
    have hD9 := hD.sub (ws' := [(h_a0, .inr (7, [w_a0_primes, w_a0_sieved, w_a0_parting, w_a0_primeSums, w_a0_progression, .null]))]) [0] (by decide) rfl
    exact W.iret (v := (-1 : Int32)) hx hb hr (fun t ht hW => ⟨⟨_, (), rfl, h, by rw [ht]; exact hP9, hD9⟩, hS.F ht⟩) hS.2.2 dX8_same_17
  · replace h := h.2 c_2
    refine lv_aload_n hx hb dX8_same_8 rfl (lv_at hl 0 rfl) ?_
    refine lv_iload_n hx hb dX8_same_9 rfl (lv_at hl 2 rfl) ?_
    have hPc := hP.sub (ws' := [(h_a0, .inr (7, [w_a0_primes, w_a0_sieved, w_a0_parting, w_a0_primeSums, w_a0_progression, .null]))]) [0] rfl
    have hDc := hD.sub (ws' := [(h_a0, .inr (7, [w_a0_primes, w_a0_sieved, w_a0_parting, w_a0_primeSums, w_a0_progression, .null]))]) [0] (by decide) rfl
    have hFc := va_free (wc := [(h_a0, .inr (7, [w_a0_primes, w_a0_sieved, w_a0_parting, w_a0_primeSums, w_a0_progression, .null]))]) hD hS hA [0] rfl
    refine va_calli (va_runV (As := [.int p2]) (rest := []) ⟨hx, hb, hml, hown, hts⟩ (c_X8_hasRow_c0 l dC dI cI cJ cZ _ h_a0 (w_a0_primes) (w_a0_sieved) (w_a0_parting) (w_a0_primeSums) (w_a0_progression) p2 _ h) (cwV 1 hts gX8_same_X8_hasRow rfl rfl rfl (by decide +kernel) ⟨Nat.le_of_ble_eq_true rfl, Nat.le_of_ble_eq_true rfl⟩) ⟨pre_fb, va_recv hK hPc (ci := 7) (q0 := 0) rfl rfl, pre_of hPc hDc hK hN⟩ rfl rfl hl.1 rfl (lv_room (Nat.le_of_ble_eq_true rfl)) dX8_same_10 ⟨by first | exact Nat.le_of_ble_eq_true rfl | exact Nat.le_refl _, by first | exact Nat.le_of_ble_eq_true rfl | exact Nat.le_refl _⟩) hS (fun q _ h => hFc q h) hFc (fun r_3 u t H1 locs ht hvm h hB hz1 hk1 hS => ?_)
    obtain ⟨hP1, hD1⟩ := hB
    rw [ht] at hP1
    try dsimp only at h
    obtain ⟨hP, hD⟩ := va_join (wr := []) (w1 := [(h_a0, .inr (7, [w_a0_primes, w_a0_sieved, w_a0_parting, w_a0_primeSums, w_a0_progression, .null]))]) hP hD [0] [] rfl rfl (by decide) (by decide) hk1 hFc hP1 hD1
    generalize H1 = H at hP hS ⊢
    have hP : va_P (dC, dI) vwCl [(h_a0, .inr (7, [w_a0_primes, w_a0_sieved, w_a0_parting, w_a0_primeSums, w_a0_progression, .null]))] H := hP
    have hD : va_D A [(h_a0, .inr (7, [w_a0_primes, w_a0_sieved, w_a0_parting, w_a0_primeSums, w_a0_progression, .null]))] := hD
    refine lv_if_ne (tgt := 18) hx hb dX8_same_13 (by decide) (fun c_4 => ?_) (fun c_4 => ?_)
    · replace h := h.2 c_4
      refine lv_aload_n hx hb dX8_same_18 rfl (lv_at hl 0 rfl) ?_
      refine va_get (D := (dC, dI)) (ci := 7) (v := .null) (C := RX8) (T := TX8) (N := 6) hx hb hts hin_X8 hown hK hP 0 rfl rfl 5 (by decide) hw_0 (fun _ h9 => h9) rfl dX8_same_19 ?_
      refine lv_iload_n hx hb dX8_same_22 rfl (lv_at hl 1 rfl) ?_
      refine lv_iload_n hx hb dX8_same_23 rfl (lv_at hl 2 rfl) ?_
      exact h.elim
    · replace h := h.1 c_4
      refine lv_iconst (v := (-1 : Int32)) hx hb dX8_same_16 (by decide) ?_
      have hP9 := hP.sub (ws' := [(h_a0, .inr (7, [w_a0_primes, w_a0_sieved, w_a0_parting, w_a0_primeSums, w_a0_progression, .null]))]) [0] rfl
      have hD9 := hD.sub (ws' := [(h_a0, .inr (7, [w_a0_primes, w_a0_sieved, w_a0_parting, w_a0_primeSums, w_a0_progression, .null]))]) [0] (by decide) rfl
      exact W.iret (v := (-1 : Int32)) hx hb hr (fun t ht hW => ⟨⟨_, (), rfl, h, by rw [ht]; exact hP9, hD9⟩, hS.F ht⟩) hS.2.2 dX8_same_17
def wp_X8_same_c1 (a0_rows_values : Nat → Int64) (a0_rows_many : Int32) (p1 : Int32) (p2 : Int32) (Q : Int32 → Prop) : Prop :=
  wp_X8_hasRow_c1 a0_rows_many p1 (fun r_1 => ((r_1 = (0 : Int32) → Q (-1 : Int32)) ∧ (¬ r_1 = (0 : Int32) → wp_X8_hasRow_c1 a0_rows_many p2 (fun r_3 => ((r_3 = (0 : Int32) → Q (-1 : Int32)) ∧ (¬ r_3 = (0 : Int32) → wp_X5_firstDifference a0_rows_values p1 p2 (fun r_5 => Q r_5)))))))
abbrev rm_X8_same_c1 : Room := { frames := 3, cells := 0, slots := 0, locals := 66 }
abbrev qc_X8_same_c1 (dC : Nat → ClassId) (dI : Nat → Nat → Nat) (cI cJ cZ : ClassId) (h_a0 : Nat) (w_a0_primes : Value) (w_a0_sieved : Value) (w_a0_parting : Value) (w_a0_primeSums : Value) (w_a0_progression : Value) (h_a0_rows : Nat) (a0_rows_values : Nat → Int64) (q_a0_rows_values : Nat) (a0_rows_many : Int32) (Q : Int32 → Prop) (A : Nat → Prop) : Array Value → State → Outcome → State → Prop := va_Qi (fun (r : Int32) (_ : Unit) => Q r) (post_ dC dI A (fun (u : Unit) => ([(h_a0, .inr (7, [w_a0_primes, w_a0_sieved, w_a0_parting, w_a0_primeSums, w_a0_progression, .ref h_a0_rows])), (h_a0_rows, .inr (5, [.ref q_a0_rows_values, .int a0_rows_many])), (q_a0_rows_values, .inl (cJ, 9600, .inr (.inl a0_rows_values)))] : va_W))) A
set_option maxHeartbeats 4000000 in
set_option maxRecDepth 100000 in
theorem c_X8_same_c1 (l : Launch) (dC : Nat → ClassId) (dI : Nat → Nat → Nat) (cI cJ cZ : ClassId) (sz : Nat) (h_a0 : Nat) (w_a0_primes : Value) (w_a0_sieved : Value) (w_a0_parting : Value) (w_a0_primeSums : Value) (w_a0_progression : Value) (h_a0_rows : Nat) (a0_rows_values : Nat → Int64) (q_a0_rows_values : Nat) (a0_rows_many : Int32) (p1 : Int32) (p2 : Int32) (Q : Int32 → Prop) (hQ : wp_X8_same_c1 a0_rows_values a0_rows_many p1 p2 Q) : Met l yX8_same wsX8_same rm_X8_same_c1 (pre_ dC dI cI cJ cZ [.ref h_a0, .int p1, .int p2] [(h_a0, .inr (7, [w_a0_primes, w_a0_sieved, w_a0_parting, w_a0_primeSums, w_a0_progression, .ref h_a0_rows])), (h_a0_rows, .inr (5, [.ref q_a0_rows_values, .int a0_rows_many])), (q_a0_rows_values, .inl (cJ, 9600, .inr (.inl a0_rows_values)))] sz) (qc_X8_same_c1 dC dI cI cJ cZ h_a0 w_a0_primes w_a0_sieved w_a0_parting w_a0_primeSums w_a0_progression h_a0_rows a0_rows_values q_a0_rows_values a0_rows_many Q (va_A [(h_a0, .inr (7, [w_a0_primes, w_a0_sieved, w_a0_parting, w_a0_primeSums, w_a0_progression, .ref h_a0_rows])), (h_a0_rows, .inr (5, [.ref q_a0_rows_values, .int a0_rows_many])), (q_a0_rows_values, .inl (cJ, 9600, .inr (.inl a0_rows_values)))] sz)) 0 0 (va_A [(h_a0, .inr (7, [w_a0_primes, w_a0_sieved, w_a0_parting, w_a0_primeSums, w_a0_progression, .ref h_a0_rows])), (h_a0_rows, .inr (5, [.ref q_a0_rows_values, .int a0_rows_many])), (q_a0_rows_values, .inl (cJ, 9600, .inr (.inl a0_rows_values)))] sz) := by
  refine Met.ofW (cc := cX8_same) (maxL := 3) (ret := (some .int)) (by decide) rfl ?_
  intro p e s m args below meth c s₁ B hml hv
  obtain ⟨rfl, hsz, hP, hK, hN, hD0⟩ := hv
  have hx := B.exec
  have hb := B.bytes
  have hr := B.returns
  have hts := atoms_spec (ws := wsX8_same) B.pre
  have hown : s.vm.findClass RX8 = some m.cls := findClass_of_methodNamed B.named
  subst hsz
  have hD := hD0.self (sz := s.heap.size)
  generalize hAe : va_A [(h_a0, .inr (7, [w_a0_primes, w_a0_sieved, w_a0_parting, w_a0_primeSums, w_a0_progression, .ref h_a0_rows])), (h_a0_rows, .inr (5, [.ref q_a0_rows_values, .int a0_rows_many])), (q_a0_rows_values, .inl (cJ, 9600, .inr (.inl a0_rows_values)))] s.heap.size = A at hD ⊢
  have hA : ∀ q : Nat, s.heap.size ≤ q → A q := fun q h => by rw [← hAe]; exact Or.inr h
  have hS : va_S A s.heap s.heap [] := va_S.rf
  have hl := lv_entry ([.ref h_a0, .int p1, .int p2]) (n := 3) (Nat.le_of_ble_eq_true rfl)
  rw [lg_entry_eq]
  generalize (lg_sl ([.ref h_a0, .int p1, .int p2]) ++ List.replicate (3 - (lg_sl ([.ref h_a0, .int p1, .int p2])).length) Slot.unset).toArray = ls at hl ⊢
  have hl : lv_has ls 3 [(0, .ref h_a0), (1, .int p1), (2, .int p2)] := hl
  have h := hQ
  unfold wp_X8_same_c1 at h
  have hw_0 := hts (.fieldLink RX8 147 "NumberSieves" "rows" "LNumberSieves$Rows;") (by decide +kernel)
  have hin_X8 : ∀ w ∈ wsX80, w ∈ wsX8_same := by decide +kernel
  refine lv_aload_n hx hb dX8_same_0 rfl (lv_at hl 0 rfl) ?_
  refine lv_iload_n hx hb dX8_same_1 rfl (lv_at hl 1 rfl) ?_
  have hPc := hP.sub (ws' := [(h_a0, .inr (7, [w_a0_primes, w_a0_sieved, w_a0_parting, w_a0_primeSums, w_a0_progression, .ref h_a0_rows])), (h_a0_rows, .inr (5, [.ref q_a0_rows_values, .int a0_rows_many])), (q_a0_rows_values, .inl (cJ, 9600, .inr (.inl a0_rows_values)))]) [0, 1, 2] rfl
  have hDc := hD.sub (ws' := [(h_a0, .inr (7, [w_a0_primes, w_a0_sieved, w_a0_parting, w_a0_primeSums, w_a0_progression, .ref h_a0_rows])), (h_a0_rows, .inr (5, [.ref q_a0_rows_values, .int a0_rows_many])), (q_a0_rows_values, .inl (cJ, 9600, .inr (.inl a0_rows_values)))]) [0, 1, 2] (by decide) rfl
  have hFc := va_free (wc := [(h_a0, .inr (7, [w_a0_primes, w_a0_sieved, w_a0_parting, w_a0_primeSums, w_a0_progression, .ref h_a0_rows])), (h_a0_rows, .inr (5, [.ref q_a0_rows_values, .int a0_rows_many])), (q_a0_rows_values, .inl (cJ, 9600, .inr (.inl a0_rows_values)))]) hD hS hA [0, 1, 2] rfl
  refine va_calli (va_runV (As := [.int p1]) (rest := []) ⟨hx, hb, hml, hown, hts⟩ (c_X8_hasRow_c1 l dC dI cI cJ cZ _ h_a0 (w_a0_primes) (w_a0_sieved) (w_a0_parting) (w_a0_primeSums) (w_a0_progression) h_a0_rows a0_rows_values q_a0_rows_values a0_rows_many p1 _ h) (cwV 1 hts gX8_same_X8_hasRow rfl rfl rfl (by decide +kernel) ⟨Nat.le_of_ble_eq_true rfl, Nat.le_of_ble_eq_true rfl⟩) ⟨pre_fb, va_recv hK hPc (ci := 7) (q0 := 0) rfl rfl, pre_of hPc hDc hK hN⟩ rfl rfl hl.1 rfl (lv_room (Nat.le_of_ble_eq_true rfl)) dX8_same_2 ⟨by first | exact Nat.le_of_ble_eq_true rfl | exact Nat.le_refl _, by first | exact Nat.le_of_ble_eq_true rfl | exact Nat.le_refl _⟩) hS (fun q _ h => hFc q h) hFc (fun r_1 u t H1 locs ht hvm h hB hz1 hk1 hS => ?_)
  obtain ⟨hP1, hD1⟩ := hB
  rw [ht] at hP1
  try dsimp only at h
  obtain ⟨hP, hD⟩ := va_join (wr := []) (w1 := [(h_a0, .inr (7, [w_a0_primes, w_a0_sieved, w_a0_parting, w_a0_primeSums, w_a0_progression, .ref h_a0_rows])), (h_a0_rows, .inr (5, [.ref q_a0_rows_values, .int a0_rows_many])), (q_a0_rows_values, .inl (cJ, 9600, .inr (.inl a0_rows_values)))]) hP hD [0, 1, 2] [] rfl rfl (by decide) (by decide) hk1 hFc hP1 hD1
  generalize H1 = H at hP hS ⊢
  have hP : va_P (dC, dI) vwCl [(h_a0, .inr (7, [w_a0_primes, w_a0_sieved, w_a0_parting, w_a0_primeSums, w_a0_progression, .ref h_a0_rows])), (h_a0_rows, .inr (5, [.ref q_a0_rows_values, .int a0_rows_many])), (q_a0_rows_values, .inl (cJ, 9600, .inr (.inl a0_rows_values)))] H := hP
  have hD : va_D A [(h_a0, .inr (7, [w_a0_primes, w_a0_sieved, w_a0_parting, w_a0_primeSums, w_a0_progression, .ref h_a0_rows])), (h_a0_rows, .inr (5, [.ref q_a0_rows_values, .int a0_rows_many])), (q_a0_rows_values, .inl (cJ, 9600, .inr (.inl a0_rows_values)))] := hD
  refine lv_if_eq (tgt := 16) hx hb dX8_same_5 (by decide) (fun c_2 => ?_) (fun c_2 => ?_)
  · replace h := h.1 c_2
    refine lv_iconst (v := (-1 : Int32)) hx hb dX8_same_16 (by decide) ?_
    have hP9 := hP.sub (ws' := [(h_a0, .inr (7, [w_a0_primes, w_a0_sieved, w_a0_parting, w_a0_primeSums, w_a0_progression, .ref h_a0_rows])), (h_a0_rows, .inr (5, [.ref q_a0_rows_values, .int a0_rows_many])), (q_a0_rows_values, .inl (cJ, 9600, .inr (.inl a0_rows_values)))]) [0, 1, 2] rfl
    have hD9 := hD.sub (ws' := [(h_a0, .inr (7, [w_a0_primes, w_a0_sieved, w_a0_parting, w_a0_primeSums, w_a0_progression, .ref h_a0_rows])), (h_a0_rows, .inr (5, [.ref q_a0_rows_values, .int a0_rows_many])), (q_a0_rows_values, .inl (cJ, 9600, .inr (.inl a0_rows_values)))]) [0, 1, 2] (by decide) rfl
    exact W.iret (v := (-1 : Int32)) hx hb hr (fun t ht hW => ⟨⟨_, (), rfl, h, by rw [ht]; exact hP9, hD9⟩, hS.F ht⟩) hS.2.2 dX8_same_17
  · replace h := h.2 c_2
    refine lv_aload_n hx hb dX8_same_8 rfl (lv_at hl 0 rfl) ?_
    refine lv_iload_n hx hb dX8_same_9 rfl (lv_at hl 2 rfl) ?_
    have hPc := hP.sub (ws' := [(h_a0, .inr (7, [w_a0_primes, w_a0_sieved, w_a0_parting, w_a0_primeSums, w_a0_progression, .ref h_a0_rows])), (h_a0_rows, .inr (5, [.ref q_a0_rows_values, .int a0_rows_many])), (q_a0_rows_values, .inl (cJ, 9600, .inr (.inl a0_rows_values)))]) [0, 1, 2] rfl
    have hDc := hD.sub (ws' := [(h_a0, .inr (7, [w_a0_primes, w_a0_sieved, w_a0_parting, w_a0_primeSums, w_a0_progression, .ref h_a0_rows])), (h_a0_rows, .inr (5, [.ref q_a0_rows_values, .int a0_rows_many])), (q_a0_rows_values, .inl (cJ, 9600, .inr (.inl a0_rows_values)))]) [0, 1, 2] (by decide) rfl
    have hFc := va_free (wc := [(h_a0, .inr (7, [w_a0_primes, w_a0_sieved, w_a0_parting, w_a0_primeSums, w_a0_progression, .ref h_a0_rows])), (h_a0_rows, .inr (5, [.ref q_a0_rows_values, .int a0_rows_many])), (q_a0_rows_values, .inl (cJ, 9600, .inr (.inl a0_rows_values)))]) hD hS hA [0, 1, 2] rfl
    refine va_calli (va_runV (As := [.int p2]) (rest := []) ⟨hx, hb, hml, hown, hts⟩ (c_X8_hasRow_c1 l dC dI cI cJ cZ _ h_a0 (w_a0_primes) (w_a0_sieved) (w_a0_parting) (w_a0_primeSums) (w_a0_progression) h_a0_rows a0_rows_values q_a0_rows_values a0_rows_many p2 _ h) (cwV 1 hts gX8_same_X8_hasRow rfl rfl rfl (by decide +kernel) ⟨Nat.le_of_ble_eq_true rfl, Nat.le_of_ble_eq_true rfl⟩) ⟨pre_fb, va_recv hK hPc (ci := 7) (q0 := 0) rfl rfl, pre_of hPc hDc hK hN⟩ rfl rfl hl.1 rfl (lv_room (Nat.le_of_ble_eq_true rfl)) dX8_same_10 ⟨by first | exact Nat.le_of_ble_eq_true rfl | exact Nat.le_refl _, by first | exact Nat.le_of_ble_eq_true rfl | exact Nat.le_refl _⟩) hS (fun q _ h => hFc q h) hFc (fun r_3 u t H1 locs ht hvm h hB hz1 hk1 hS => ?_)
    obtain ⟨hP1, hD1⟩ := hB
    rw [ht] at hP1
    try dsimp only at h
    obtain ⟨hP, hD⟩ := va_join (wr := []) (w1 := [(h_a0, .inr (7, [w_a0_primes, w_a0_sieved, w_a0_parting, w_a0_primeSums, w_a0_progression, .ref h_a0_rows])), (h_a0_rows, .inr (5, [.ref q_a0_rows_values, .int a0_rows_many])), (q_a0_rows_values, .inl (cJ, 9600, .inr (.inl a0_rows_values)))]) hP hD [0, 1, 2] [] rfl rfl (by decide) (by decide) hk1 hFc hP1 hD1
    generalize H1 = H at hP hS ⊢
    have hP : va_P (dC, dI) vwCl [(h_a0, .inr (7, [w_a0_primes, w_a0_sieved, w_a0_parting, w_a0_primeSums, w_a0_progression, .ref h_a0_rows])), (h_a0_rows, .inr (5, [.ref q_a0_rows_values, .int a0_rows_many])), (q_a0_rows_values, .inl (cJ, 9600, .inr (.inl a0_rows_values)))] H := hP
    have hD : va_D A [(h_a0, .inr (7, [w_a0_primes, w_a0_sieved, w_a0_parting, w_a0_primeSums, w_a0_progression, .ref h_a0_rows])), (h_a0_rows, .inr (5, [.ref q_a0_rows_values, .int a0_rows_many])), (q_a0_rows_values, .inl (cJ, 9600, .inr (.inl a0_rows_values)))] := hD
    refine lv_if_ne (tgt := 18) hx hb dX8_same_13 (by decide) (fun c_4 => ?_) (fun c_4 => ?_)
    · replace h := h.2 c_4
      refine lv_aload_n hx hb dX8_same_18 rfl (lv_at hl 0 rfl) ?_
      refine va_get (D := (dC, dI)) (ci := 7) (v := .ref h_a0_rows) (C := RX8) (T := TX8) (N := 6) hx hb hts hin_X8 hown hK hP 0 rfl rfl 5 (by decide) hw_0 (fun _ h9 => h9) rfl dX8_same_19 ?_
      refine lv_iload_n hx hb dX8_same_22 rfl (lv_at hl 1 rfl) ?_
      refine lv_iload_n hx hb dX8_same_23 rfl (lv_at hl 2 rfl) ?_
      have hPc := hP.sub (ws' := [(h_a0_rows, .inr (5, [.ref q_a0_rows_values, .int a0_rows_many])), (q_a0_rows_values, .inl (cJ, 9600, .inr (.inl a0_rows_values)))]) [1, 2] rfl
      have hDc := hD.sub (ws' := [(h_a0_rows, .inr (5, [.ref q_a0_rows_values, .int a0_rows_many])), (q_a0_rows_values, .inl (cJ, 9600, .inr (.inl a0_rows_values)))]) [1, 2] (by decide) rfl
      have hFc := va_free (wc := [(h_a0_rows, .inr (5, [.ref q_a0_rows_values, .int a0_rows_many])), (q_a0_rows_values, .inl (cJ, 9600, .inr (.inl a0_rows_values)))]) hD hS hA [1, 2] rfl
      refine va_calli (va_runV (As := [.int p1, .int p2]) (rest := []) ⟨hx, hb, hml, hown, hts⟩ (c_X5_firstDifference l dC dI cI cJ cZ _ h_a0_rows a0_rows_values q_a0_rows_values a0_rows_many p1 p2 _ h) (cwV 2 hts gX8_same_X5_firstDifference rfl rfl rfl (by decide +kernel) ⟨Nat.le_of_ble_eq_true rfl, Nat.le_of_ble_eq_true rfl⟩) ⟨pre_fb, va_recv hK hPc (ci := 5) (q0 := 0) rfl rfl, pre_of hPc hDc hK hN⟩ rfl rfl hl.1 rfl (lv_room (Nat.le_of_ble_eq_true rfl)) dX8_same_24 ⟨by first | exact Nat.le_of_ble_eq_true rfl | exact Nat.le_refl _, by first | exact Nat.le_of_ble_eq_true rfl | exact Nat.le_refl _⟩) hS (fun q _ h => hFc q h) hFc (fun r_5 u t H1 locs ht hvm h hB hz1 hk1 hS => ?_)
      obtain ⟨hP1, hD1⟩ := hB
      rw [ht] at hP1
      try dsimp only at h
      obtain ⟨hP, hD⟩ := va_join (wr := [(h_a0, .inr (7, [w_a0_primes, w_a0_sieved, w_a0_parting, w_a0_primeSums, w_a0_progression, .ref h_a0_rows]))]) (w1 := [(h_a0_rows, .inr (5, [.ref q_a0_rows_values, .int a0_rows_many])), (q_a0_rows_values, .inl (cJ, 9600, .inr (.inl a0_rows_values)))]) hP hD [1, 2] [0] rfl rfl (by decide) (by decide) hk1 hFc hP1 hD1
      generalize H1 = H at hP hS ⊢
      have hP : va_P (dC, dI) vwCl [(h_a0, .inr (7, [w_a0_primes, w_a0_sieved, w_a0_parting, w_a0_primeSums, w_a0_progression, .ref h_a0_rows])), (h_a0_rows, .inr (5, [.ref q_a0_rows_values, .int a0_rows_many])), (q_a0_rows_values, .inl (cJ, 9600, .inr (.inl a0_rows_values)))] H := hP
      have hD : va_D A [(h_a0, .inr (7, [w_a0_primes, w_a0_sieved, w_a0_parting, w_a0_primeSums, w_a0_progression, .ref h_a0_rows])), (h_a0_rows, .inr (5, [.ref q_a0_rows_values, .int a0_rows_many])), (q_a0_rows_values, .inl (cJ, 9600, .inr (.inl a0_rows_values)))] := hD
      have hP9 := hP.sub (ws' := [(h_a0, .inr (7, [w_a0_primes, w_a0_sieved, w_a0_parting, w_a0_primeSums, w_a0_progression, .ref h_a0_rows])), (h_a0_rows, .inr (5, [.ref q_a0_rows_values, .int a0_rows_many])), (q_a0_rows_values, .inl (cJ, 9600, .inr (.inl a0_rows_values)))]) [0, 1, 2] rfl
      have hD9 := hD.sub (ws' := [(h_a0, .inr (7, [w_a0_primes, w_a0_sieved, w_a0_parting, w_a0_primeSums, w_a0_progression, .ref h_a0_rows])), (h_a0_rows, .inr (5, [.ref q_a0_rows_values, .int a0_rows_many])), (q_a0_rows_values, .inl (cJ, 9600, .inr (.inl a0_rows_values)))]) [0, 1, 2] (by decide) rfl
      exact W.iret (v := r_5) hx hb hr (fun t ht hW => ⟨⟨_, (), rfl, h, by rw [ht]; exact hP9, hD9⟩, hS.F ht⟩) hS.2.2 dX8_same_27
    · replace h := h.1 c_4
      refine lv_iconst (v := (-1 : Int32)) hx hb dX8_same_16 (by decide) ?_
      have hP9 := hP.sub (ws' := [(h_a0, .inr (7, [w_a0_primes, w_a0_sieved, w_a0_parting, w_a0_primeSums, w_a0_progression, .ref h_a0_rows])), (h_a0_rows, .inr (5, [.ref q_a0_rows_values, .int a0_rows_many])), (q_a0_rows_values, .inl (cJ, 9600, .inr (.inl a0_rows_values)))]) [0, 1, 2] rfl
      have hD9 := hD.sub (ws' := [(h_a0, .inr (7, [w_a0_primes, w_a0_sieved, w_a0_parting, w_a0_primeSums, w_a0_progression, .ref h_a0_rows])), (h_a0_rows, .inr (5, [.ref q_a0_rows_values, .int a0_rows_many])), (q_a0_rows_values, .inl (cJ, 9600, .inr (.inl a0_rows_values)))]) [0, 1, 2] (by decide) rfl
      exact W.iret (v := (-1 : Int32)) hx hb hr (fun t ht hW => ⟨⟨_, (), rfl, h, by rw [ht]; exact hP9, hD9⟩, hS.F ht⟩) hS.2.2 dX8_same_17
def wp_X8_far  (p1 : Int32) (p2 : Int32) (p3 : Int32) (Q : Int64 → Prop) : Prop :=
  wp_X7_isFarRule p1 (fun r_1 => ((r_1 = (0 : Int32) → Q (0 : Int64)) ∧ (¬ r_1 = (0 : Int32) → wp_X7_isFarRule p2 (fun r_3 => ((r_3 = (0 : Int32) → Q (0 : Int64)) ∧ (¬ r_3 = (0 : Int32) → ((p3 < (0 : Int32) → Q (0 : Int64)) ∧ (¬ p3 < (0 : Int32) → ((p3 ≤ (1000000000 : Int32) → wp_X7_farSum p1 p2 p3 (fun r_7 => Q r_7)) ∧ (¬ p3 ≤ (1000000000 : Int32) → Q (0 : Int64)))))))))))
abbrev rm_X8_far : Room := { frames := 3, cells := 0, slots := 0, locals := 77 }
abbrev qc_X8_far (dC : Nat → ClassId) (dI : Nat → Nat → Nat) (cI cJ cZ : ClassId) (h_a0 : Nat) (w_a0_primes : Value) (w_a0_sieved : Value) (w_a0_parting : Value) (w_a0_primeSums : Value) (w_a0_progression : Value) (w_a0_rows : Value) (Q : Int64 → Prop) (A : Nat → Prop) : Array Value → State → Outcome → State → Prop := va_Ql (fun (r : Int64) (_ : Unit) => Q r) (post_ dC dI A (fun (u : Unit) => ([(h_a0, .inr (7, [w_a0_primes, w_a0_sieved, w_a0_parting, w_a0_primeSums, w_a0_progression, w_a0_rows]))] : va_W))) A
set_option maxHeartbeats 4000000 in
set_option maxRecDepth 100000 in
theorem c_X8_far (l : Launch) (dC : Nat → ClassId) (dI : Nat → Nat → Nat) (cI cJ cZ : ClassId) (sz : Nat) (h_a0 : Nat) (w_a0_primes : Value) (w_a0_sieved : Value) (w_a0_parting : Value) (w_a0_primeSums : Value) (w_a0_progression : Value) (w_a0_rows : Value) (p1 : Int32) (p2 : Int32) (p3 : Int32) (Q : Int64 → Prop) (hQ : wp_X8_far p1 p2 p3 Q) : Met l yX8_far wsX8_far rm_X8_far (pre_ dC dI cI cJ cZ [.ref h_a0, .int p1, .int p2, .int p3] [(h_a0, .inr (7, [w_a0_primes, w_a0_sieved, w_a0_parting, w_a0_primeSums, w_a0_progression, w_a0_rows]))] sz) (qc_X8_far dC dI cI cJ cZ h_a0 w_a0_primes w_a0_sieved w_a0_parting w_a0_primeSums w_a0_progression w_a0_rows Q (va_A [(h_a0, .inr (7, [w_a0_primes, w_a0_sieved, w_a0_parting, w_a0_primeSums, w_a0_progression, w_a0_rows]))] sz)) 0 0 (va_A [(h_a0, .inr (7, [w_a0_primes, w_a0_sieved, w_a0_parting, w_a0_primeSums, w_a0_progression, w_a0_rows]))] sz) := by
  refine Met.ofW (cc := cX8_far) (maxL := 4) (ret := (some .long)) (by decide) rfl ?_
  intro p e s m args below meth c s₁ B hml hv
  obtain ⟨rfl, hsz, hP, hK, hN, hD0⟩ := hv
  have hx := B.exec
  have hb := B.bytes
  have hr := B.returns
  have hts := atoms_spec (ws := wsX8_far) B.pre
  have hown : s.vm.findClass RX8 = some m.cls := findClass_of_methodNamed B.named
  subst hsz
  have hD := hD0.self (sz := s.heap.size)
  generalize hAe : va_A [(h_a0, .inr (7, [w_a0_primes, w_a0_sieved, w_a0_parting, w_a0_primeSums, w_a0_progression, w_a0_rows]))] s.heap.size = A at hD ⊢
  have hA : ∀ q : Nat, s.heap.size ≤ q → A q := fun q h => by rw [← hAe]; exact Or.inr h
  have hS : va_S A s.heap s.heap [] := va_S.rf
  have hl := lv_entry ([.ref h_a0, .int p1, .int p2, .int p3]) (n := 4) (Nat.le_of_ble_eq_true rfl)
  rw [lg_entry_eq]
  generalize (lg_sl ([.ref h_a0, .int p1, .int p2, .int p3]) ++ List.replicate (4 - (lg_sl ([.ref h_a0, .int p1, .int p2, .int p3])).length) Slot.unset).toArray = ls at hl ⊢
  have hl : lv_has ls 4 [(0, .ref h_a0), (1, .int p1), (2, .int p2), (3, .int p3)] := hl
  have h := hQ
  unfold wp_X8_far at h
  have hw_0 := hts (.constant RX8 135 (1000000000)) (by decide +kernel)
  refine lv_iload_n hx hb dX8_far_0 rfl (lv_at hl 1 rfl) ?_
  have hPc := hP.sub (ws' := []) [] rfl
  have hDc := hD.sub (ws' := []) [] (by decide) rfl
  have hFc := va_free (wc := []) hD hS hA [] rfl
  refine va_calli (va_runS (As := [.int p1]) (rest := []) ⟨hx, hb, hml, hown, hts⟩ (c_X7_isFarRule l dC dI cI cJ cZ _ p1 _ h) (va_cwS 1 hts gX8_far_X7_isFarRule rfl rfl rfl (by decide +kernel) ⟨Nat.le_of_ble_eq_true rfl, Nat.le_of_ble_eq_true rfl⟩) ⟨pre_fb, pre_of hPc hDc hK hN⟩ rfl rfl hl.1 rfl (lv_room (Nat.le_of_ble_eq_true rfl)) dX8_far_1 ⟨by first | exact Nat.le_of_ble_eq_true rfl | exact Nat.le_refl _, by first | exact Nat.le_of_ble_eq_true rfl | exact Nat.le_refl _⟩) hS (fun q _ h => hFc q h) hFc (fun r_1 u t H1 locs ht hvm h hB hz1 hk1 hS => ?_)
  obtain ⟨hP1, hD1⟩ := hB
  rw [ht] at hP1
  try dsimp only at h
  obtain ⟨hP, hD⟩ := va_join (wr := [(h_a0, .inr (7, [w_a0_primes, w_a0_sieved, w_a0_parting, w_a0_primeSums, w_a0_progression, w_a0_rows]))]) (w1 := []) hP hD [] [0] rfl rfl (by decide) (by decide) hk1 hFc hP1 hD1
  generalize H1 = H at hP hS ⊢
  have hP : va_P (dC, dI) vwCl [(h_a0, .inr (7, [w_a0_primes, w_a0_sieved, w_a0_parting, w_a0_primeSums, w_a0_progression, w_a0_rows]))] H := hP
  have hD : va_D A [(h_a0, .inr (7, [w_a0_primes, w_a0_sieved, w_a0_parting, w_a0_primeSums, w_a0_progression, w_a0_rows]))] := hD
  refine lv_if_eq (tgt := 24) hx hb dX8_far_4 (by decide) (fun c_2 => ?_) (fun c_2 => ?_)
  · replace h := h.1 c_2
    refine lv_lconst (v := (0 : Int64)) hx hb dX8_far_24 (by decide) ?_
    have hP9 := hP.sub (ws' := [(h_a0, .inr (7, [w_a0_primes, w_a0_sieved, w_a0_parting, w_a0_primeSums, w_a0_progression, w_a0_rows]))]) [0] rfl
    have hD9 := hD.sub (ws' := [(h_a0, .inr (7, [w_a0_primes, w_a0_sieved, w_a0_parting, w_a0_primeSums, w_a0_progression, w_a0_rows]))]) [0] (by decide) rfl
    exact W.lret (v := (0 : Int64)) hx hb hr (fun t ht hW => ⟨⟨_, (), rfl, h, by rw [ht]; exact hP9, hD9⟩, hS.F ht⟩) hS.2.2 dX8_far_25
  · replace h := h.2 c_2
    refine lv_iload_n hx hb dX8_far_7 rfl (lv_at hl 2 rfl) ?_
    have hPc := hP.sub (ws' := []) [] rfl
    have hDc := hD.sub (ws' := []) [] (by decide) rfl
    have hFc := va_free (wc := []) hD hS hA [] rfl
    refine va_calli (va_runS (As := [.int p2]) (rest := []) ⟨hx, hb, hml, hown, hts⟩ (c_X7_isFarRule l dC dI cI cJ cZ _ p2 _ h) (va_cwS 1 hts gX8_far_X7_isFarRule rfl rfl rfl (by decide +kernel) ⟨Nat.le_of_ble_eq_true rfl, Nat.le_of_ble_eq_true rfl⟩) ⟨pre_fb, pre_of hPc hDc hK hN⟩ rfl rfl hl.1 rfl (lv_room (Nat.le_of_ble_eq_true rfl)) dX8_far_8 ⟨by first | exact Nat.le_of_ble_eq_true rfl | exact Nat.le_refl _, by first | exact Nat.le_of_ble_eq_true rfl | exact Nat.le_refl _⟩) hS (fun q _ h => hFc q h) hFc (fun r_3 u t H1 locs ht hvm h hB hz1 hk1 hS => ?_)
    obtain ⟨hP1, hD1⟩ := hB
    rw [ht] at hP1
    try dsimp only at h
    obtain ⟨hP, hD⟩ := va_join (wr := [(h_a0, .inr (7, [w_a0_primes, w_a0_sieved, w_a0_parting, w_a0_primeSums, w_a0_progression, w_a0_rows]))]) (w1 := []) hP hD [] [0] rfl rfl (by decide) (by decide) hk1 hFc hP1 hD1
    generalize H1 = H at hP hS ⊢
    have hP : va_P (dC, dI) vwCl [(h_a0, .inr (7, [w_a0_primes, w_a0_sieved, w_a0_parting, w_a0_primeSums, w_a0_progression, w_a0_rows]))] H := hP
    have hD : va_D A [(h_a0, .inr (7, [w_a0_primes, w_a0_sieved, w_a0_parting, w_a0_primeSums, w_a0_progression, w_a0_rows]))] := hD
    refine lv_if_eq (tgt := 24) hx hb dX8_far_11 (by decide) (fun c_4 => ?_) (fun c_4 => ?_)
    · replace h := h.1 c_4
      refine lv_lconst (v := (0 : Int64)) hx hb dX8_far_24 (by decide) ?_
      have hP9 := hP.sub (ws' := [(h_a0, .inr (7, [w_a0_primes, w_a0_sieved, w_a0_parting, w_a0_primeSums, w_a0_progression, w_a0_rows]))]) [0] rfl
      have hD9 := hD.sub (ws' := [(h_a0, .inr (7, [w_a0_primes, w_a0_sieved, w_a0_parting, w_a0_primeSums, w_a0_progression, w_a0_rows]))]) [0] (by decide) rfl
      exact W.lret (v := (0 : Int64)) hx hb hr (fun t ht hW => ⟨⟨_, (), rfl, h, by rw [ht]; exact hP9, hD9⟩, hS.F ht⟩) hS.2.2 dX8_far_25
    · replace h := h.2 c_4
      refine lv_iload_n hx hb dX8_far_14 rfl (lv_at hl 3 rfl) ?_
      refine lv_if_lt (tgt := 24) hx hb dX8_far_15 (by decide) (fun c_5 => ?_) (fun c_5 => ?_)
      · replace h := h.1 c_5
        refine lv_lconst (v := (0 : Int64)) hx hb dX8_far_24 (by decide) ?_
        have hP9 := hP.sub (ws' := [(h_a0, .inr (7, [w_a0_primes, w_a0_sieved, w_a0_parting, w_a0_primeSums, w_a0_progression, w_a0_rows]))]) [0] rfl
        have hD9 := hD.sub (ws' := [(h_a0, .inr (7, [w_a0_primes, w_a0_sieved, w_a0_parting, w_a0_primeSums, w_a0_progression, w_a0_rows]))]) [0] (by decide) rfl
        exact W.lret (v := (0 : Int64)) hx hb hr (fun t ht hW => ⟨⟨_, (), rfl, h, by rw [ht]; exact hP9, hD9⟩, hS.F ht⟩) hS.2.2 dX8_far_25
      · replace h := h.2 c_5
        refine lv_iload_n hx hb dX8_far_18 rfl (lv_at hl 3 rfl) ?_
        refine lv_ldc hx hb hown hw_0 dX8_far_19 ?_
        refine lv_icmp_le (tgt := 26) hx hb dX8_far_21 (by decide) (fun c_6 => ?_) (fun c_6 => ?_)
        · replace h := h.1 c_6
          refine lv_iload_n hx hb dX8_far_26 rfl (lv_at hl 1 rfl) ?_
          refine lv_iload_n hx hb dX8_far_27 rfl (lv_at hl 2 rfl) ?_
          refine lv_iload_n hx hb dX8_far_28 rfl (lv_at hl 3 rfl) ?_
          have hPc := hP.sub (ws' := []) [] rfl
          have hDc := hD.sub (ws' := []) [] (by decide) rfl
          have hFc := va_free (wc := []) hD hS hA [] rfl
          refine va_calll (va_runS (As := [.int p1, .int p2, .int p3]) (rest := []) ⟨hx, hb, hml, hown, hts⟩ (c_X7_farSum l dC dI cI cJ cZ _ p1 p2 p3 _ h) (va_cwS 3 hts gX8_far_X7_farSum rfl rfl rfl (by decide +kernel) ⟨Nat.le_of_ble_eq_true rfl, Nat.le_of_ble_eq_true rfl⟩) ⟨pre_fb, pre_of hPc hDc hK hN⟩ rfl rfl hl.1 rfl (lv_room (Nat.le_of_ble_eq_true rfl)) dX8_far_29 ⟨by first | exact Nat.le_of_ble_eq_true rfl | exact Nat.le_refl _, by first | exact Nat.le_of_ble_eq_true rfl | exact Nat.le_refl _⟩) hS (fun q _ h => hFc q h) hFc (fun r_7 u t H1 locs ht hvm h hB hz1 hk1 hS => ?_)
          obtain ⟨hP1, hD1⟩ := hB
          rw [ht] at hP1
          try dsimp only at h
          obtain ⟨hP, hD⟩ := va_join (wr := [(h_a0, .inr (7, [w_a0_primes, w_a0_sieved, w_a0_parting, w_a0_primeSums, w_a0_progression, w_a0_rows]))]) (w1 := []) hP hD [] [0] rfl rfl (by decide) (by decide) hk1 hFc hP1 hD1
          generalize H1 = H at hP hS ⊢
          have hP : va_P (dC, dI) vwCl [(h_a0, .inr (7, [w_a0_primes, w_a0_sieved, w_a0_parting, w_a0_primeSums, w_a0_progression, w_a0_rows]))] H := hP
          have hD : va_D A [(h_a0, .inr (7, [w_a0_primes, w_a0_sieved, w_a0_parting, w_a0_primeSums, w_a0_progression, w_a0_rows]))] := hD
          have hP9 := hP.sub (ws' := [(h_a0, .inr (7, [w_a0_primes, w_a0_sieved, w_a0_parting, w_a0_primeSums, w_a0_progression, w_a0_rows]))]) [0] rfl
          have hD9 := hD.sub (ws' := [(h_a0, .inr (7, [w_a0_primes, w_a0_sieved, w_a0_parting, w_a0_primeSums, w_a0_progression, w_a0_rows]))]) [0] (by decide) rfl
          exact W.lret (v := r_7) hx hb hr (fun t ht hW => ⟨⟨_, (), rfl, h, by rw [ht]; exact hP9, hD9⟩, hS.F ht⟩) hS.2.2 dX8_far_32
        · replace h := h.2 c_6
          refine lv_lconst (v := (0 : Int64)) hx hb dX8_far_24 (by decide) ?_
          have hP9 := hP.sub (ws' := [(h_a0, .inr (7, [w_a0_primes, w_a0_sieved, w_a0_parting, w_a0_primeSums, w_a0_progression, w_a0_rows]))]) [0] rfl
          have hD9 := hD.sub (ws' := [(h_a0, .inr (7, [w_a0_primes, w_a0_sieved, w_a0_parting, w_a0_primeSums, w_a0_progression, w_a0_rows]))]) [0] (by decide) rfl
          exact W.lret (v := (0 : Int64)) hx hb hr (fun t ht hW => ⟨⟨_, (), rfl, h, by rw [ht]; exact hP9, hD9⟩, hS.F ht⟩) hS.2.2 dX8_far_25
def wp_X8_about_c000  (p1 : Int32) (Q : Int32 → Prop) : Prop :=
  ((p1 = (0 : Int32) → Q (0 : Int32)) ∧ (p1 = (1 : Int32) → Q (0 : Int32)) ∧ (p1 = (2 : Int32) → Q (-1 : Int32)) ∧ (¬ p1 = (0 : Int32) → ¬ p1 = (1 : Int32) → ¬ p1 = (2 : Int32) → Q (-1 : Int32)))
abbrev rm_X8_about_c000 : Room := { frames := 0, cells := 0, slots := 0, locals := 0 }
abbrev qc_X8_about_c000 (dC : Nat → ClassId) (dI : Nat → Nat → Nat) (cI cJ cZ : ClassId) (h_a0 : Nat) (w_a0_primes : Value) (w_a0_primeSums : Value) (w_a0_progression : Value) (Q : Int32 → Prop) (A : Nat → Prop) : Array Value → State → Outcome → State → Prop := va_Qi (fun (r : Int32) (_ : Unit) => Q r) (post_ dC dI A (fun (u : Unit) => ([(h_a0, .inr (7, [w_a0_primes, .null, .null, w_a0_primeSums, w_a0_progression, .null]))] : va_W))) A
set_option maxHeartbeats 4000000 in
set_option maxRecDepth 100000 in
theorem c_X8_about_c000 (l : Launch) (dC : Nat → ClassId) (dI : Nat → Nat → Nat) (cI cJ cZ : ClassId) (sz : Nat) (h_a0 : Nat) (w_a0_primes : Value) (w_a0_primeSums : Value) (w_a0_progression : Value) (p1 : Int32) (Q : Int32 → Prop) (hQ : wp_X8_about_c000 p1 Q) : Met l yX8_about wsX8_about rm_X8_about_c000 (pre_ dC dI cI cJ cZ [.ref h_a0, .int p1] [(h_a0, .inr (7, [w_a0_primes, .null, .null, w_a0_primeSums, w_a0_progression, .null]))] sz) (qc_X8_about_c000 dC dI cI cJ cZ h_a0 w_a0_primes w_a0_primeSums w_a0_progression Q (va_A [(h_a0, .inr (7, [w_a0_primes, .null, .null, w_a0_primeSums, w_a0_progression, .null]))] sz)) 0 0 (va_A [(h_a0, .inr (7, [w_a0_primes, .null, .null, w_a0_primeSums, w_a0_progression, .null]))] sz) := by
  refine Met.ofW (cc := cX8_about) (maxL := 2) (ret := (some .int)) (by decide) rfl ?_
  intro p e s m args below meth c s₁ B hml hv
  obtain ⟨rfl, hsz, hP, hK, hN, hD0⟩ := hv
  have hx := B.exec
  have hb := B.bytes
  have hr := B.returns
  have hts := atoms_spec (ws := wsX8_about) B.pre
  have hown : s.vm.findClass RX8 = some m.cls := findClass_of_methodNamed B.named
  subst hsz
  have hD := hD0.self (sz := s.heap.size)
  generalize hAe : va_A [(h_a0, .inr (7, [w_a0_primes, .null, .null, w_a0_primeSums, w_a0_progression, .null]))] s.heap.size = A at hD ⊢
  have hA : ∀ q : Nat, s.heap.size ≤ q → A q := fun q h => by rw [← hAe]; exact Or.inr h
  have hS : va_S A s.heap s.heap [] := va_S.rf
  have hl := lv_entry ([.ref h_a0, .int p1]) (n := 2) (Nat.le_of_ble_eq_true rfl)
  rw [lg_entry_eq]
  generalize (lg_sl ([.ref h_a0, .int p1]) ++ List.replicate (2 - (lg_sl ([.ref h_a0, .int p1])).length) Slot.unset).toArray = ls at hl ⊢
  have hl : lv_has ls 2 [(0, .ref h_a0), (1, .int p1)] := hl
  have h := hQ
  unfold wp_X8_about_c000 at h
  have hw_0 := hts (.fieldLink RX8 147 "NumberSieves" "rows" "LNumberSieves$Rows;") (by decide +kernel)
  have hin_X8 : ∀ w ∈ wsX80, w ∈ wsX8_about := by decide +kernel
  have hw_2 := hts (.fieldLink RX8 11 "NumberSieves" "sieved" "LNumberSieves$Span;") (by decide +kernel)
  have hw_3 := hts (.fieldLink RX8 69 "NumberSieves" "parting" "LNumberSieves$Parting;") (by decide +kernel)
  refine lv_iload_n hx hb dX8_about_0 rfl (lv_at hl 1 rfl) ?_
  by_cases c_1 : p1 = (0 : Int32)
  · refine lv_tableIn (off := 27) (tgt := 28) hx hb dX8_about_1 (by rw [c_1]; decide) (by rw [c_1]; decide) (by rw [c_1]; rfl) (by decide) ?_
    replace h := h.1 c_1
    refine lv_aload_n hx hb dX8_about_28 rfl (lv_at hl 0 rfl) ?_
    refine va_get (D := (dC, dI)) (ci := 7) (v := .null) (C := RX8) (T := TX8) (N := 6) hx hb hts hin_X8 hown hK hP 0 rfl rfl 5 (by decide) hw_0 (fun _ h9 => h9) rfl dX8_about_29 ?_
    refine lv_ifnonnullN hx hb dX8_about_32 ?_
    refine lv_iconst (v := (0 : Int32)) hx hb dX8_about_35 (by decide) ?_
    refine lv_goto (tgt := 46) hx hb dX8_about_36 (by decide) ?_
    have hP9 := hP.sub (ws' := [(h_a0, .inr (7, [w_a0_primes, .null, .null, w_a0_primeSums, w_a0_progression, .null]))]) [0] rfl
    have hD9 := hD.sub (ws' := [(h_a0, .inr (7, [w_a0_primes, .null, .null, w_a0_primeSums, w_a0_progression, .null]))]) [0] (by decide) rfl
    exact W.iret (v := (0 : Int32)) hx hb hr (fun t ht hW => ⟨⟨_, (), rfl, h, by rw [ht]; exact hP9, hD9⟩, hS.F ht⟩) hS.2.2 dX8_about_46
  by_cases c_2 : p1 = (1 : Int32)
  · refine lv_tableIn (off := 46) (tgt := 47) hx hb dX8_about_1 (by rw [c_2]; decide) (by rw [c_2]; decide) (by rw [c_2]; rfl) (by decide) ?_
    replace h := h.2.1 c_2
    refine lv_aload_n hx hb dX8_about_47 rfl (lv_at hl 0 rfl) ?_
    refine va_get (D := (dC, dI)) (ci := 7) (v := .null) (C := RX8) (T := TX8) (N := 6) hx hb hts hin_X8 hown hK hP 0 rfl rfl 1 (by decide) hw_2 (fun _ h9 => h9) rfl dX8_about_48 ?_
    refine lv_ifnonnullN hx hb dX8_about_51 ?_
    refine lv_iconst (v := (0 : Int32)) hx hb dX8_about_54 (by decide) ?_
    refine lv_goto (tgt := 65) hx hb dX8_about_55 (by decide) ?_
    have hP9 := hP.sub (ws' := [(h_a0, .inr (7, [w_a0_primes, .null, .null, w_a0_primeSums, w_a0_progression, .null]))]) [0] rfl
    have hD9 := hD.sub (ws' := [(h_a0, .inr (7, [w_a0_primes, .null, .null, w_a0_primeSums, w_a0_progression, .null]))]) [0] (by decide) rfl
    exact W.iret (v := (0 : Int32)) hx hb hr (fun t ht hW => ⟨⟨_, (), rfl, h, by rw [ht]; exact hP9, hD9⟩, hS.F ht⟩) hS.2.2 dX8_about_65
  by_cases c_3 : p1 = (2 : Int32)
  · refine lv_tableIn (off := 65) (tgt := 66) hx hb dX8_about_1 (by rw [c_3]; decide) (by rw [c_3]; decide) (by rw [c_3]; rfl) (by decide) ?_
    replace h := h.2.2.1 c_3
    refine lv_aload_n hx hb dX8_about_66 rfl (lv_at hl 0 rfl) ?_
    refine va_get (D := (dC, dI)) (ci := 7) (v := .null) (C := RX8) (T := TX8) (N := 6) hx hb hts hin_X8 hown hK hP 0 rfl rfl 2 (by decide) hw_3 (fun _ h9 => h9) rfl dX8_about_67 ?_
    refine lv_ifnonnullN hx hb dX8_about_70 ?_
    refine lv_iconst (v := (-1 : Int32)) hx hb dX8_about_73 (by decide) ?_
    refine lv_goto (tgt := 84) hx hb dX8_about_74 (by decide) ?_
    have hP9 := hP.sub (ws' := [(h_a0, .inr (7, [w_a0_primes, .null, .null, w_a0_primeSums, w_a0_progression, .null]))]) [0] rfl
    have hD9 := hD.sub (ws' := [(h_a0, .inr (7, [w_a0_primes, .null, .null, w_a0_primeSums, w_a0_progression, .null]))]) [0] (by decide) rfl
    exact W.iret (v := (-1 : Int32)) hx hb hr (fun t ht hW => ⟨⟨_, (), rfl, h, by rw [ht]; exact hP9, hD9⟩, hS.F ht⟩) hS.2.2 dX8_about_84
  have t0 : p1.toInt ≠ 0 := fun q => c_1 (Int32.toInt_inj.mp (q.trans (by decide)))
  have t1 : p1.toInt ≠ 1 := fun q => c_2 (Int32.toInt_inj.mp (q.trans (by decide)))
  have t2 : p1.toInt ≠ 2 := fun q => c_3 (Int32.toInt_inj.mp (q.trans (by decide)))
  refine lv_tableOut (tgt := 85) hx hb dX8_about_1 (by omega) (by decide) ?_
  replace h := h.2.2.2 c_1 c_2 c_3
  refine lv_iconst (v := (-1 : Int32)) hx hb dX8_about_85 (by decide) ?_
  have hP9 := hP.sub (ws' := [(h_a0, .inr (7, [w_a0_primes, .null, .null, w_a0_primeSums, w_a0_progression, .null]))]) [0] rfl
  have hD9 := hD.sub (ws' := [(h_a0, .inr (7, [w_a0_primes, .null, .null, w_a0_primeSums, w_a0_progression, .null]))]) [0] (by decide) rfl
  exact W.iret (v := (-1 : Int32)) hx hb hr (fun t ht hW => ⟨⟨_, (), rfl, h, by rw [ht]; exact hP9, hD9⟩, hS.F ht⟩) hS.2.2 dX8_about_86
def wp_X8_about_c001 (a0_rows_many : Int32) (p1 : Int32) (Q : Int32 → Prop) : Prop :=
  ((p1 = (0 : Int32) → Q a0_rows_many) ∧ (p1 = (1 : Int32) → Q (0 : Int32)) ∧ (p1 = (2 : Int32) → Q (-1 : Int32)) ∧ (¬ p1 = (0 : Int32) → ¬ p1 = (1 : Int32) → ¬ p1 = (2 : Int32) → Q (-1 : Int32)))
abbrev rm_X8_about_c001 : Room := { frames := 0, cells := 0, slots := 0, locals := 0 }
abbrev qc_X8_about_c001 (dC : Nat → ClassId) (dI : Nat → Nat → Nat) (cI cJ cZ : ClassId) (h_a0 : Nat) (w_a0_primes : Value) (w_a0_primeSums : Value) (w_a0_progression : Value) (h_a0_rows : Nat) (a0_rows_values : Nat → Int64) (q_a0_rows_values : Nat) (a0_rows_many : Int32) (Q : Int32 → Prop) (A : Nat → Prop) : Array Value → State → Outcome → State → Prop := va_Qi (fun (r : Int32) (_ : Unit) => Q r) (post_ dC dI A (fun (u : Unit) => ([(h_a0, .inr (7, [w_a0_primes, .null, .null, w_a0_primeSums, w_a0_progression, .ref h_a0_rows])), (h_a0_rows, .inr (5, [.ref q_a0_rows_values, .int a0_rows_many])), (q_a0_rows_values, .inl (cJ, 9600, .inr (.inl a0_rows_values)))] : va_W))) A
set_option maxHeartbeats 4000000 in
set_option maxRecDepth 100000 in
theorem c_X8_about_c001 (l : Launch) (dC : Nat → ClassId) (dI : Nat → Nat → Nat) (cI cJ cZ : ClassId) (sz : Nat) (h_a0 : Nat) (w_a0_primes : Value) (w_a0_primeSums : Value) (w_a0_progression : Value) (h_a0_rows : Nat) (a0_rows_values : Nat → Int64) (q_a0_rows_values : Nat) (a0_rows_many : Int32) (p1 : Int32) (Q : Int32 → Prop) (hQ : wp_X8_about_c001 a0_rows_many p1 Q) : Met l yX8_about wsX8_about rm_X8_about_c001 (pre_ dC dI cI cJ cZ [.ref h_a0, .int p1] [(h_a0, .inr (7, [w_a0_primes, .null, .null, w_a0_primeSums, w_a0_progression, .ref h_a0_rows])), (h_a0_rows, .inr (5, [.ref q_a0_rows_values, .int a0_rows_many])), (q_a0_rows_values, .inl (cJ, 9600, .inr (.inl a0_rows_values)))] sz) (qc_X8_about_c001 dC dI cI cJ cZ h_a0 w_a0_primes w_a0_primeSums w_a0_progression h_a0_rows a0_rows_values q_a0_rows_values a0_rows_many Q (va_A [(h_a0, .inr (7, [w_a0_primes, .null, .null, w_a0_primeSums, w_a0_progression, .ref h_a0_rows])), (h_a0_rows, .inr (5, [.ref q_a0_rows_values, .int a0_rows_many])), (q_a0_rows_values, .inl (cJ, 9600, .inr (.inl a0_rows_values)))] sz)) 0 0 (va_A [(h_a0, .inr (7, [w_a0_primes, .null, .null, w_a0_primeSums, w_a0_progression, .ref h_a0_rows])), (h_a0_rows, .inr (5, [.ref q_a0_rows_values, .int a0_rows_many])), (q_a0_rows_values, .inl (cJ, 9600, .inr (.inl a0_rows_values)))] sz) := by
  refine Met.ofW (cc := cX8_about) (maxL := 2) (ret := (some .int)) (by decide) rfl ?_
  intro p e s m args below meth c s₁ B hml hv
  obtain ⟨rfl, hsz, hP, hK, hN, hD0⟩ := hv
  have hx := B.exec
  have hb := B.bytes
  have hr := B.returns
  have hts := atoms_spec (ws := wsX8_about) B.pre
  have hown : s.vm.findClass RX8 = some m.cls := findClass_of_methodNamed B.named
  subst hsz
  have hD := hD0.self (sz := s.heap.size)
  generalize hAe : va_A [(h_a0, .inr (7, [w_a0_primes, .null, .null, w_a0_primeSums, w_a0_progression, .ref h_a0_rows])), (h_a0_rows, .inr (5, [.ref q_a0_rows_values, .int a0_rows_many])), (q_a0_rows_values, .inl (cJ, 9600, .inr (.inl a0_rows_values)))] s.heap.size = A at hD ⊢
  have hA : ∀ q : Nat, s.heap.size ≤ q → A q := fun q h => by rw [← hAe]; exact Or.inr h
  have hS : va_S A s.heap s.heap [] := va_S.rf
  have hl := lv_entry ([.ref h_a0, .int p1]) (n := 2) (Nat.le_of_ble_eq_true rfl)
  rw [lg_entry_eq]
  generalize (lg_sl ([.ref h_a0, .int p1]) ++ List.replicate (2 - (lg_sl ([.ref h_a0, .int p1])).length) Slot.unset).toArray = ls at hl ⊢
  have hl : lv_has ls 2 [(0, .ref h_a0), (1, .int p1)] := hl
  have h := hQ
  unfold wp_X8_about_c001 at h
  have hw_0 := hts (.fieldLink RX8 147 "NumberSieves" "rows" "LNumberSieves$Rows;") (by decide +kernel)
  have hin_X8 : ∀ w ∈ wsX80, w ∈ wsX8_about := by decide +kernel
  have hin_X5 : ∀ w ∈ wsX50, w ∈ wsX8_about := by decide +kernel
  have hw_3 := hts (.fieldLink RX8 11 "NumberSieves" "sieved" "LNumberSieves$Span;") (by decide +kernel)
  have hw_4 := hts (.fieldLink RX8 69 "NumberSieves" "parting" "LNumberSieves$Parting;") (by decide +kernel)
  refine lv_iload_n hx hb dX8_about_0 rfl (lv_at hl 1 rfl) ?_
  by_cases c_1 : p1 = (0 : Int32)
  · refine lv_tableIn (off := 27) (tgt := 28) hx hb dX8_about_1 (by rw [c_1]; decide) (by rw [c_1]; decide) (by rw [c_1]; rfl) (by decide) ?_
    replace h := h.1 c_1
    refine lv_aload_n hx hb dX8_about_28 rfl (lv_at hl 0 rfl) ?_
    refine va_get (D := (dC, dI)) (ci := 7) (v := .ref h_a0_rows) (C := RX8) (T := TX8) (N := 6) hx hb hts hin_X8 hown hK hP 0 rfl rfl 5 (by decide) hw_0 (fun _ h9 => h9) rfl dX8_about_29 ?_
    refine lv_ifnonnull (tgt := 39) hx hb dX8_about_32 (by decide) ?_
    refine lv_aload_n hx hb dX8_about_39 rfl (lv_at hl 0 rfl) ?_
    refine va_get (D := (dC, dI)) (ci := 7) (v := .ref h_a0_rows) (C := RX8) (T := TX8) (N := 6) hx hb hts hin_X8 hown hK hP 0 rfl rfl 5 (by decide) hw_0 (fun _ h9 => h9) rfl dX8_about_40 ?_
    refine va_getN (D := (dC, dI)) (ci := 5) (v := .int a0_rows_many) (C := RX5) (T := TX5) (N := 2) hx hb hts hin_X5 hown hK hP 1 rfl rfl 1 (by decide) (nw_10 hN) (fun _ h9 => h9) rfl dX8_about_43 ?_
    have hP9 := hP.sub (ws' := [(h_a0, .inr (7, [w_a0_primes, .null, .null, w_a0_primeSums, w_a0_progression, .ref h_a0_rows])), (h_a0_rows, .inr (5, [.ref q_a0_rows_values, .int a0_rows_many])), (q_a0_rows_values, .inl (cJ, 9600, .inr (.inl a0_rows_values)))]) [0, 1, 2] rfl
    have hD9 := hD.sub (ws' := [(h_a0, .inr (7, [w_a0_primes, .null, .null, w_a0_primeSums, w_a0_progression, .ref h_a0_rows])), (h_a0_rows, .inr (5, [.ref q_a0_rows_values, .int a0_rows_many])), (q_a0_rows_values, .inl (cJ, 9600, .inr (.inl a0_rows_values)))]) [0, 1, 2] (by decide) rfl
    exact W.iret (v := a0_rows_many) hx hb hr (fun t ht hW => ⟨⟨_, (), rfl, h, by rw [ht]; exact hP9, hD9⟩, hS.F ht⟩) hS.2.2 dX8_about_46
  by_cases c_2 : p1 = (1 : Int32)
  · refine lv_tableIn (off := 46) (tgt := 47) hx hb dX8_about_1 (by rw [c_2]; decide) (by rw [c_2]; decide) (by rw [c_2]; rfl) (by decide) ?_
    replace h := h.2.1 c_2
    refine lv_aload_n hx hb dX8_about_47 rfl (lv_at hl 0 rfl) ?_
    refine va_get (D := (dC, dI)) (ci := 7) (v := .null) (C := RX8) (T := TX8) (N := 6) hx hb hts hin_X8 hown hK hP 0 rfl rfl 1 (by decide) hw_3 (fun _ h9 => h9) rfl dX8_about_48 ?_
    refine lv_ifnonnullN hx hb dX8_about_51 ?_
    refine lv_iconst (v := (0 : Int32)) hx hb dX8_about_54 (by decide) ?_
    refine lv_goto (tgt := 65) hx hb dX8_about_55 (by decide) ?_
    have hP9 := hP.sub (ws' := [(h_a0, .inr (7, [w_a0_primes, .null, .null, w_a0_primeSums, w_a0_progression, .ref h_a0_rows])), (h_a0_rows, .inr (5, [.ref q_a0_rows_values, .int a0_rows_many])), (q_a0_rows_values, .inl (cJ, 9600, .inr (.inl a0_rows_values)))]) [0, 1, 2] rfl
    have hD9 := hD.sub (ws' := [(h_a0, .inr (7, [w_a0_primes, .null, .null, w_a0_primeSums, w_a0_progression, .ref h_a0_rows])), (h_a0_rows, .inr (5, [.ref q_a0_rows_values, .int a0_rows_many])), (q_a0_rows_values, .inl (cJ, 9600, .inr (.inl a0_rows_values)))]) [0, 1, 2] (by decide) rfl
    exact W.iret (v := (0 : Int32)) hx hb hr (fun t ht hW => ⟨⟨_, (), rfl, h, by rw [ht]; exact hP9, hD9⟩, hS.F ht⟩) hS.2.2 dX8_about_65
  by_cases c_3 : p1 = (2 : Int32)
  · refine lv_tableIn (off := 65) (tgt := 66) hx hb dX8_about_1 (by rw [c_3]; decide) (by rw [c_3]; decide) (by rw [c_3]; rfl) (by decide) ?_
    replace h := h.2.2.1 c_3
    refine lv_aload_n hx hb dX8_about_66 rfl (lv_at hl 0 rfl) ?_
    refine va_get (D := (dC, dI)) (ci := 7) (v := .null) (C := RX8) (T := TX8) (N := 6) hx hb hts hin_X8 hown hK hP 0 rfl rfl 2 (by decide) hw_4 (fun _ h9 => h9) rfl dX8_about_67 ?_
    refine lv_ifnonnullN hx hb dX8_about_70 ?_
    refine lv_iconst (v := (-1 : Int32)) hx hb dX8_about_73 (by decide) ?_
    refine lv_goto (tgt := 84) hx hb dX8_about_74 (by decide) ?_
    have hP9 := hP.sub (ws' := [(h_a0, .inr (7, [w_a0_primes, .null, .null, w_a0_primeSums, w_a0_progression, .ref h_a0_rows])), (h_a0_rows, .inr (5, [.ref q_a0_rows_values, .int a0_rows_many])), (q_a0_rows_values, .inl (cJ, 9600, .inr (.inl a0_rows_values)))]) [0, 1, 2] rfl
    have hD9 := hD.sub (ws' := [(h_a0, .inr (7, [w_a0_primes, .null, .null, w_a0_primeSums, w_a0_progression, .ref h_a0_rows])), (h_a0_rows, .inr (5, [.ref q_a0_rows_values, .int a0_rows_many])), (q_a0_rows_values, .inl (cJ, 9600, .inr (.inl a0_rows_values)))]) [0, 1, 2] (by decide) rfl
    exact W.iret (v := (-1 : Int32)) hx hb hr (fun t ht hW => ⟨⟨_, (), rfl, h, by rw [ht]; exact hP9, hD9⟩, hS.F ht⟩) hS.2.2 dX8_about_84
  have t0 : p1.toInt ≠ 0 := fun q => c_1 (Int32.toInt_inj.mp (q.trans (by decide)))
  have t1 : p1.toInt ≠ 1 := fun q => c_2 (Int32.toInt_inj.mp (q.trans (by decide)))
  have t2 : p1.toInt ≠ 2 := fun q => c_3 (Int32.toInt_inj.mp (q.trans (by decide)))
  refine lv_tableOut (tgt := 85) hx hb dX8_about_1 (by omega) (by decide) ?_
  replace h := h.2.2.2 c_1 c_2 c_3
  refine lv_iconst (v := (-1 : Int32)) hx hb dX8_about_85 (by decide) ?_
  have hP9 := hP.sub (ws' := [(h_a0, .inr (7, [w_a0_primes, .null, .null, w_a0_primeSums, w_a0_progression, .ref h_a0_rows])), (h_a0_rows, .inr (5, [.ref q_a0_rows_values, .int a0_rows_many])), (q_a0_rows_values, .inl (cJ, 9600, .inr (.inl a0_rows_values)))]) [0, 1, 2] rfl
  have hD9 := hD.sub (ws' := [(h_a0, .inr (7, [w_a0_primes, .null, .null, w_a0_primeSums, w_a0_progression, .ref h_a0_rows])), (h_a0_rows, .inr (5, [.ref q_a0_rows_values, .int a0_rows_many])), (q_a0_rows_values, .inl (cJ, 9600, .inr (.inl a0_rows_values)))]) [0, 1, 2] (by decide) rfl
  exact W.iret (v := (-1 : Int32)) hx hb hr (fun t ht hW => ⟨⟨_, (), rfl, h, by rw [ht]; exact hP9, hD9⟩, hS.F ht⟩) hS.2.2 dX8_about_86
def wp_X8_about_c010 (a0_parting_many : Int32) (p1 : Int32) (Q : Int32 → Prop) : Prop :=
  ((p1 = (0 : Int32) → Q (0 : Int32)) ∧ (p1 = (1 : Int32) → Q (0 : Int32)) ∧ (p1 = (2 : Int32) → Q a0_parting_many) ∧ (¬ p1 = (0 : Int32) → ¬ p1 = (1 : Int32) → ¬ p1 = (2 : Int32) → Q (-1 : Int32)))
abbrev rm_X8_about_c010 : Room := { frames := 0, cells := 0, slots := 0, locals := 0 }
abbrev qc_X8_about_c010 (dC : Nat → ClassId) (dI : Nat → Nat → Nat) (cI cJ cZ : ClassId) (h_a0 : Nat) (w_a0_primes : Value) (h_a0_parting : Nat) (a0_parting_factors : Nat → Int64) (q_a0_parting_factors : Nat) (a0_parting_powers : Nat → Int32) (q_a0_parting_powers : Nat) (a0_parting_number : Int64) (a0_parting_many : Int32) (w_a0_primeSums : Value) (w_a0_progression : Value) (Q : Int32 → Prop) (A : Nat → Prop) : Array Value → State → Outcome → State → Prop := va_Qi (fun (r : Int32) (_ : Unit) => Q r) (post_ dC dI A (fun (u : Unit) => ([(h_a0, .inr (7, [w_a0_primes, .null, .ref h_a0_parting, w_a0_primeSums, w_a0_progression, .null])), (h_a0_parting, .inr (1, [.ref q_a0_parting_factors, .ref q_a0_parting_powers, .long a0_parting_number, .int a0_parting_many])), (q_a0_parting_factors, .inl (cJ, 10, .inr (.inl a0_parting_factors))), (q_a0_parting_powers, .inl (cI, 10, .inl a0_parting_powers))] : va_W))) A
set_option maxHeartbeats 4000000 in
set_option maxRecDepth 100000 in
theorem c_X8_about_c010 (l : Launch) (dC : Nat → ClassId) (dI : Nat → Nat → Nat) (cI cJ cZ : ClassId) (sz : Nat) (h_a0 : Nat) (w_a0_primes : Value) (h_a0_parting : Nat) (a0_parting_factors : Nat → Int64) (q_a0_parting_factors : Nat) (a0_parting_powers : Nat → Int32) (q_a0_parting_powers : Nat) (a0_parting_number : Int64) (a0_parting_many : Int32) (w_a0_primeSums : Value) (w_a0_progression : Value) (p1 : Int32) (Q : Int32 → Prop) (hQ : wp_X8_about_c010 a0_parting_many p1 Q) : Met l yX8_about wsX8_about rm_X8_about_c010 (pre_ dC dI cI cJ cZ [.ref h_a0, .int p1] [(h_a0, .inr (7, [w_a0_primes, .null, .ref h_a0_parting, w_a0_primeSums, w_a0_progression, .null])), (h_a0_parting, .inr (1, [.ref q_a0_parting_factors, .ref q_a0_parting_powers, .long a0_parting_number, .int a0_parting_many])), (q_a0_parting_factors, .inl (cJ, 10, .inr (.inl a0_parting_factors))), (q_a0_parting_powers, .inl (cI, 10, .inl a0_parting_powers))] sz) (qc_X8_about_c010 dC dI cI cJ cZ h_a0 w_a0_primes h_a0_parting a0_parting_factors q_a0_parting_factors a0_parting_powers q_a0_parting_powers a0_parting_number a0_parting_many w_a0_primeSums w_a0_progression Q (va_A [(h_a0, .inr (7, [w_a0_primes, .null, .ref h_a0_parting, w_a0_primeSums, w_a0_progression, .null])), (h_a0_parting, .inr (1, [.ref q_a0_parting_factors, .ref q_a0_parting_powers, .long a0_parting_number, .int a0_parting_many])), (q_a0_parting_factors, .inl (cJ, 10, .inr (.inl a0_parting_factors))), (q_a0_parting_powers, .inl (cI, 10, .inl a0_parting_powers))] sz)) 0 0 (va_A [(h_a0, .inr (7, [w_a0_primes, .null, .ref h_a0_parting, w_a0_primeSums, w_a0_progression, .null])), (h_a0_parting, .inr (1, [.ref q_a0_parting_factors, .ref q_a0_parting_powers, .long a0_parting_number, .int a0_parting_many])), (q_a0_parting_factors, .inl (cJ, 10, .inr (.inl a0_parting_factors))), (q_a0_parting_powers, .inl (cI, 10, .inl a0_parting_powers))] sz) := by
  refine Met.ofW (cc := cX8_about) (maxL := 2) (ret := (some .int)) (by decide) rfl ?_
  intro p e s m args below meth c s₁ B hml hv
  obtain ⟨rfl, hsz, hP, hK, hN, hD0⟩ := hv
  have hx := B.exec
  have hb := B.bytes
  have hr := B.returns
  have hts := atoms_spec (ws := wsX8_about) B.pre
  have hown : s.vm.findClass RX8 = some m.cls := findClass_of_methodNamed B.named
  subst hsz
  have hD := hD0.self (sz := s.heap.size)
  generalize hAe : va_A [(h_a0, .inr (7, [w_a0_primes, .null, .ref h_a0_parting, w_a0_primeSums, w_a0_progression, .null])), (h_a0_parting, .inr (1, [.ref q_a0_parting_factors, .ref q_a0_parting_powers, .long a0_parting_number, .int a0_parting_many])), (q_a0_parting_factors, .inl (cJ, 10, .inr (.inl a0_parting_factors))), (q_a0_parting_powers, .inl (cI, 10, .inl a0_parting_powers))] s.heap.size = A at hD ⊢
  have hA : ∀ q : Nat, s.heap.size ≤ q → A q := fun q h => by rw [← hAe]; exact Or.inr h
  have hS : va_S A s.heap s.heap [] := va_S.rf
  have hl := lv_entry ([.ref h_a0, .int p1]) (n := 2) (Nat.le_of_ble_eq_true rfl)
  rw [lg_entry_eq]
  generalize (lg_sl ([.ref h_a0, .int p1]) ++ List.replicate (2 - (lg_sl ([.ref h_a0, .int p1])).length) Slot.unset).toArray = ls at hl ⊢
  have hl : lv_has ls 2 [(0, .ref h_a0), (1, .int p1)] := hl
  have h := hQ
  unfold wp_X8_about_c010 at h
  have hw_0 := hts (.fieldLink RX8 147 "NumberSieves" "rows" "LNumberSieves$Rows;") (by decide +kernel)
  have hin_X8 : ∀ w ∈ wsX80, w ∈ wsX8_about := by decide +kernel
  have hw_2 := hts (.fieldLink RX8 11 "NumberSieves" "sieved" "LNumberSieves$Span;") (by decide +kernel)
  have hw_3 := hts (.fieldLink RX8 69 "NumberSieves" "parting" "LNumberSieves$Parting;") (by decide +kernel)
  have hin_X1 : ∀ w ∈ wsX10, w ∈ wsX8_about := by decide +kernel
  refine lv_iload_n hx hb dX8_about_0 rfl (lv_at hl 1 rfl) ?_
  by_cases c_1 : p1 = (0 : Int32)
  · refine lv_tableIn (off := 27) (tgt := 28) hx hb dX8_about_1 (by rw [c_1]; decide) (by rw [c_1]; decide) (by rw [c_1]; rfl) (by decide) ?_
    replace h := h.1 c_1
    refine lv_aload_n hx hb dX8_about_28 rfl (lv_at hl 0 rfl) ?_
    refine va_get (D := (dC, dI)) (ci := 7) (v := .null) (C := RX8) (T := TX8) (N := 6) hx hb hts hin_X8 hown hK hP 0 rfl rfl 5 (by decide) hw_0 (fun _ h9 => h9) rfl dX8_about_29 ?_
    refine lv_ifnonnullN hx hb dX8_about_32 ?_
    refine lv_iconst (v := (0 : Int32)) hx hb dX8_about_35 (by decide) ?_
    refine lv_goto (tgt := 46) hx hb dX8_about_36 (by decide) ?_
    have hP9 := hP.sub (ws' := [(h_a0, .inr (7, [w_a0_primes, .null, .ref h_a0_parting, w_a0_primeSums, w_a0_progression, .null])), (h_a0_parting, .inr (1, [.ref q_a0_parting_factors, .ref q_a0_parting_powers, .long a0_parting_number, .int a0_parting_many])), (q_a0_parting_factors, .inl (cJ, 10, .inr (.inl a0_parting_factors))), (q_a0_parting_powers, .inl (cI, 10, .inl a0_parting_powers))]) [0, 1, 2, 3] rfl
    have hD9 := hD.sub (ws' := [(h_a0, .inr (7, [w_a0_primes, .null, .ref h_a0_parting, w_a0_primeSums, w_a0_progression, .null])), (h_a0_parting, .inr (1, [.ref q_a0_parting_factors, .ref q_a0_parting_powers, .long a0_parting_number, .int a0_parting_many])), (q_a0_parting_factors, .inl (cJ, 10, .inr (.inl a0_parting_factors))), (q_a0_parting_powers, .inl (cI, 10, .inl a0_parting_powers))]) [0, 1, 2, 3] (by decide) rfl
    exact W.iret (v := (0 : Int32)) hx hb hr (fun t ht hW => ⟨⟨_, (), rfl, h, by rw [ht]; exact hP9, hD9⟩, hS.F ht⟩) hS.2.2 dX8_about_46
  by_cases c_2 : p1 = (1 : Int32)
  · refine lv_tableIn (off := 46) (tgt := 47) hx hb dX8_about_1 (by rw [c_2]; decide) (by rw [c_2]; decide) (by rw [c_2]; rfl) (by decide) ?_
    replace h := h.2.1 c_2
    refine lv_aload_n hx hb dX8_about_47 rfl (lv_at hl 0 rfl) ?_
    refine va_get (D := (dC, dI)) (ci := 7) (v := .null) (C := RX8) (T := TX8) (N := 6) hx hb hts hin_X8 hown hK hP 0 rfl rfl 1 (by decide) hw_2 (fun _ h9 => h9) rfl dX8_about_48 ?_
    refine lv_ifnonnullN hx hb dX8_about_51 ?_
    refine lv_iconst (v := (0 : Int32)) hx hb dX8_about_54 (by decide) ?_
    refine lv_goto (tgt := 65) hx hb dX8_about_55 (by decide) ?_
    have hP9 := hP.sub (ws' := [(h_a0, .inr (7, [w_a0_primes, .null, .ref h_a0_parting, w_a0_primeSums, w_a0_progression, .null])), (h_a0_parting, .inr (1, [.ref q_a0_parting_factors, .ref q_a0_parting_powers, .long a0_parting_number, .int a0_parting_many])), (q_a0_parting_factors, .inl (cJ, 10, .inr (.inl a0_parting_factors))), (q_a0_parting_powers, .inl (cI, 10, .inl a0_parting_powers))]) [0, 1, 2, 3] rfl
    have hD9 := hD.sub (ws' := [(h_a0, .inr (7, [w_a0_primes, .null, .ref h_a0_parting, w_a0_primeSums, w_a0_progression, .null])), (h_a0_parting, .inr (1, [.ref q_a0_parting_factors, .ref q_a0_parting_powers, .long a0_parting_number, .int a0_parting_many])), (q_a0_parting_factors, .inl (cJ, 10, .inr (.inl a0_parting_factors))), (q_a0_parting_powers, .inl (cI, 10, .inl a0_parting_powers))]) [0, 1, 2, 3] (by decide) rfl
    exact W.iret (v := (0 : Int32)) hx hb hr (fun t ht hW => ⟨⟨_, (), rfl, h, by rw [ht]; exact hP9, hD9⟩, hS.F ht⟩) hS.2.2 dX8_about_65
  by_cases c_3 : p1 = (2 : Int32)
  · refine lv_tableIn (off := 65) (tgt := 66) hx hb dX8_about_1 (by rw [c_3]; decide) (by rw [c_3]; decide) (by rw [c_3]; rfl) (by decide) ?_
    replace h := h.2.2.1 c_3
    refine lv_aload_n hx hb dX8_about_66 rfl (lv_at hl 0 rfl) ?_
    refine va_get (D := (dC, dI)) (ci := 7) (v := .ref h_a0_parting) (C := RX8) (T := TX8) (N := 6) hx hb hts hin_X8 hown hK hP 0 rfl rfl 2 (by decide) hw_3 (fun _ h9 => h9) rfl dX8_about_67 ?_
    refine lv_ifnonnull (tgt := 77) hx hb dX8_about_70 (by decide) ?_
    refine lv_aload_n hx hb dX8_about_77 rfl (lv_at hl 0 rfl) ?_
    refine va_get (D := (dC, dI)) (ci := 7) (v := .ref h_a0_parting) (C := RX8) (T := TX8) (N := 6) hx hb hts hin_X8 hown hK hP 0 rfl rfl 2 (by decide) hw_3 (fun _ h9 => h9) rfl dX8_about_78 ?_
    refine va_getN (D := (dC, dI)) (ci := 1) (v := .int a0_parting_many) (C := RX1) (T := TX1) (N := 4) hx hb hts hin_X1 hown hK hP 1 rfl rfl 3 (by decide) (nw_9 hN) (fun _ h9 => h9) rfl dX8_about_81 ?_
    have hP9 := hP.sub (ws' := [(h_a0, .inr (7, [w_a0_primes, .null, .ref h_a0_parting, w_a0_primeSums, w_a0_progression, .null])), (h_a0_parting, .inr (1, [.ref q_a0_parting_factors, .ref q_a0_parting_powers, .long a0_parting_number, .int a0_parting_many])), (q_a0_parting_factors, .inl (cJ, 10, .inr (.inl a0_parting_factors))), (q_a0_parting_powers, .inl (cI, 10, .inl a0_parting_powers))]) [0, 1, 2, 3] rfl
    have hD9 := hD.sub (ws' := [(h_a0, .inr (7, [w_a0_primes, .null, .ref h_a0_parting, w_a0_primeSums, w_a0_progression, .null])), (h_a0_parting, .inr (1, [.ref q_a0_parting_factors, .ref q_a0_parting_powers, .long a0_parting_number, .int a0_parting_many])), (q_a0_parting_factors, .inl (cJ, 10, .inr (.inl a0_parting_factors))), (q_a0_parting_powers, .inl (cI, 10, .inl a0_parting_powers))]) [0, 1, 2, 3] (by decide) rfl
    exact W.iret (v := a0_parting_many) hx hb hr (fun t ht hW => ⟨⟨_, (), rfl, h, by rw [ht]; exact hP9, hD9⟩, hS.F ht⟩) hS.2.2 dX8_about_84
  have t0 : p1.toInt ≠ 0 := fun q => c_1 (Int32.toInt_inj.mp (q.trans (by decide)))
  have t1 : p1.toInt ≠ 1 := fun q => c_2 (Int32.toInt_inj.mp (q.trans (by decide)))
  have t2 : p1.toInt ≠ 2 := fun q => c_3 (Int32.toInt_inj.mp (q.trans (by decide)))
  refine lv_tableOut (tgt := 85) hx hb dX8_about_1 (by omega) (by decide) ?_
  replace h := h.2.2.2 c_1 c_2 c_3
  refine lv_iconst (v := (-1 : Int32)) hx hb dX8_about_85 (by decide) ?_
  have hP9 := hP.sub (ws' := [(h_a0, .inr (7, [w_a0_primes, .null, .ref h_a0_parting, w_a0_primeSums, w_a0_progression, .null])), (h_a0_parting, .inr (1, [.ref q_a0_parting_factors, .ref q_a0_parting_powers, .long a0_parting_number, .int a0_parting_many])), (q_a0_parting_factors, .inl (cJ, 10, .inr (.inl a0_parting_factors))), (q_a0_parting_powers, .inl (cI, 10, .inl a0_parting_powers))]) [0, 1, 2, 3] rfl
  have hD9 := hD.sub (ws' := [(h_a0, .inr (7, [w_a0_primes, .null, .ref h_a0_parting, w_a0_primeSums, w_a0_progression, .null])), (h_a0_parting, .inr (1, [.ref q_a0_parting_factors, .ref q_a0_parting_powers, .long a0_parting_number, .int a0_parting_many])), (q_a0_parting_factors, .inl (cJ, 10, .inr (.inl a0_parting_factors))), (q_a0_parting_powers, .inl (cI, 10, .inl a0_parting_powers))]) [0, 1, 2, 3] (by decide) rfl
  exact W.iret (v := (-1 : Int32)) hx hb hr (fun t ht hW => ⟨⟨_, (), rfl, h, by rw [ht]; exact hP9, hD9⟩, hS.F ht⟩) hS.2.2 dX8_about_86
def wp_X8_about_c011 (a0_parting_many : Int32) (a0_rows_many : Int32) (p1 : Int32) (Q : Int32 → Prop) : Prop :=
  ((p1 = (0 : Int32) → Q a0_rows_many) ∧ (p1 = (1 : Int32) → Q (0 : Int32)) ∧ (p1 = (2 : Int32) → Q a0_parting_many) ∧ (¬ p1 = (0 : Int32) → ¬ p1 = (1 : Int32) → ¬ p1 = (2 : Int32) → Q (-1 : Int32)))
abbrev rm_X8_about_c011 : Room := { frames := 0, cells := 0, slots := 0, locals := 0 }
abbrev qc_X8_about_c011 (dC : Nat → ClassId) (dI : Nat → Nat → Nat) (cI cJ cZ : ClassId) (h_a0 : Nat) (w_a0_primes : Value) (h_a0_parting : Nat) (a0_parting_factors : Nat → Int64) (q_a0_parting_factors : Nat) (a0_parting_powers : Nat → Int32) (q_a0_parting_powers : Nat) (a0_parting_number : Int64) (a0_parting_many : Int32) (w_a0_primeSums : Value) (w_a0_progression : Value) (h_a0_rows : Nat) (a0_rows_values : Nat → Int64) (q_a0_rows_values : Nat) (a0_rows_many : Int32) (Q : Int32 → Prop) (A : Nat → Prop) : Array Value → State → Outcome → State → Prop := va_Qi (fun (r : Int32) (_ : Unit) => Q r) (post_ dC dI A (fun (u : Unit) => ([(h_a0, .inr (7, [w_a0_primes, .null, .ref h_a0_parting, w_a0_primeSums, w_a0_progression, .ref h_a0_rows])), (h_a0_parting, .inr (1, [.ref q_a0_parting_factors, .ref q_a0_parting_powers, .long a0_parting_number, .int a0_parting_many])), (q_a0_parting_factors, .inl (cJ, 10, .inr (.inl a0_parting_factors))), (q_a0_parting_powers, .inl (cI, 10, .inl a0_parting_powers)), (h_a0_rows, .inr (5, [.ref q_a0_rows_values, .int a0_rows_many])), (q_a0_rows_values, .inl (cJ, 9600, .inr (.inl a0_rows_values)))] : va_W))) A
set_option maxHeartbeats 4000000 in
set_option maxRecDepth 100000 in
theorem c_X8_about_c011 (l : Launch) (dC : Nat → ClassId) (dI : Nat → Nat → Nat) (cI cJ cZ : ClassId) (sz : Nat) (h_a0 : Nat) (w_a0_primes : Value) (h_a0_parting : Nat) (a0_parting_factors : Nat → Int64) (q_a0_parting_factors : Nat) (a0_parting_powers : Nat → Int32) (q_a0_parting_powers : Nat) (a0_parting_number : Int64) (a0_parting_many : Int32) (w_a0_primeSums : Value) (w_a0_progression : Value) (h_a0_rows : Nat) (a0_rows_values : Nat → Int64) (q_a0_rows_values : Nat) (a0_rows_many : Int32) (p1 : Int32) (Q : Int32 → Prop) (hQ : wp_X8_about_c011 a0_parting_many a0_rows_many p1 Q) : Met l yX8_about wsX8_about rm_X8_about_c011 (pre_ dC dI cI cJ cZ [.ref h_a0, .int p1] [(h_a0, .inr (7, [w_a0_primes, .null, .ref h_a0_parting, w_a0_primeSums, w_a0_progression, .ref h_a0_rows])), (h_a0_parting, .inr (1, [.ref q_a0_parting_factors, .ref q_a0_parting_powers, .long a0_parting_number, .int a0_parting_many])), (q_a0_parting_factors, .inl (cJ, 10, .inr (.inl a0_parting_factors))), (q_a0_parting_powers, .inl (cI, 10, .inl a0_parting_powers)), (h_a0_rows, .inr (5, [.ref q_a0_rows_values, .int a0_rows_many])), (q_a0_rows_values, .inl (cJ, 9600, .inr (.inl a0_rows_values)))] sz) (qc_X8_about_c011 dC dI cI cJ cZ h_a0 w_a0_primes h_a0_parting a0_parting_factors q_a0_parting_factors a0_parting_powers q_a0_parting_powers a0_parting_number a0_parting_many w_a0_primeSums w_a0_progression h_a0_rows a0_rows_values q_a0_rows_values a0_rows_many Q (va_A [(h_a0, .inr (7, [w_a0_primes, .null, .ref h_a0_parting, w_a0_primeSums, w_a0_progression, .ref h_a0_rows])), (h_a0_parting, .inr (1, [.ref q_a0_parting_factors, .ref q_a0_parting_powers, .long a0_parting_number, .int a0_parting_many])), (q_a0_parting_factors, .inl (cJ, 10, .inr (.inl a0_parting_factors))), (q_a0_parting_powers, .inl (cI, 10, .inl a0_parting_powers)), (h_a0_rows, .inr (5, [.ref q_a0_rows_values, .int a0_rows_many])), (q_a0_rows_values, .inl (cJ, 9600, .inr (.inl a0_rows_values)))] sz)) 0 0 (va_A [(h_a0, .inr (7, [w_a0_primes, .null, .ref h_a0_parting, w_a0_primeSums, w_a0_progression, .ref h_a0_rows])), (h_a0_parting, .inr (1, [.ref q_a0_parting_factors, .ref q_a0_parting_powers, .long a0_parting_number, .int a0_parting_many])), (q_a0_parting_factors, .inl (cJ, 10, .inr (.inl a0_parting_factors))), (q_a0_parting_powers, .inl (cI, 10, .inl a0_parting_powers)), (h_a0_rows, .inr (5, [.ref q_a0_rows_values, .int a0_rows_many])), (q_a0_rows_values, .inl (cJ, 9600, .inr (.inl a0_rows_values)))] sz) := by
  refine Met.ofW (cc := cX8_about) (maxL := 2) (ret := (some .int)) (by decide) rfl ?_
  intro p e s m args below meth c s₁ B hml hv
  obtain ⟨rfl, hsz, hP, hK, hN, hD0⟩ := hv
  have hx := B.exec
  have hb := B.bytes
  have hr := B.returns
  have hts := atoms_spec (ws := wsX8_about) B.pre
  have hown : s.vm.findClass RX8 = some m.cls := findClass_of_methodNamed B.named
  subst hsz
  have hD := hD0.self (sz := s.heap.size)
  generalize hAe : va_A [(h_a0, .inr (7, [w_a0_primes, .null, .ref h_a0_parting, w_a0_primeSums, w_a0_progression, .ref h_a0_rows])), (h_a0_parting, .inr (1, [.ref q_a0_parting_factors, .ref q_a0_parting_powers, .long a0_parting_number, .int a0_parting_many])), (q_a0_parting_factors, .inl (cJ, 10, .inr (.inl a0_parting_factors))), (q_a0_parting_powers, .inl (cI, 10, .inl a0_parting_powers)), (h_a0_rows, .inr (5, [.ref q_a0_rows_values, .int a0_rows_many])), (q_a0_rows_values, .inl (cJ, 9600, .inr (.inl a0_rows_values)))] s.heap.size = A at hD ⊢
  have hA : ∀ q : Nat, s.heap.size ≤ q → A q := fun q h => by rw [← hAe]; exact Or.inr h
  have hS : va_S A s.heap s.heap [] := va_S.rf
  have hl := lv_entry ([.ref h_a0, .int p1]) (n := 2) (Nat.le_of_ble_eq_true rfl)
  rw [lg_entry_eq]
  generalize (lg_sl ([.ref h_a0, .int p1]) ++ List.replicate (2 - (lg_sl ([.ref h_a0, .int p1])).length) Slot.unset).toArray = ls at hl ⊢
  have hl : lv_has ls 2 [(0, .ref h_a0), (1, .int p1)] := hl
  have h := hQ
  unfold wp_X8_about_c011 at h
  have hw_0 := hts (.fieldLink RX8 147 "NumberSieves" "rows" "LNumberSieves$Rows;") (by decide +kernel)
  have hin_X8 : ∀ w ∈ wsX80, w ∈ wsX8_about := by decide +kernel
  have hin_X5 : ∀ w ∈ wsX50, w ∈ wsX8_about := by decide +kernel
  have hw_3 := hts (.fieldLink RX8 11 "NumberSieves" "sieved" "LNumberSieves$Span;") (by decide +kernel)
  have hw_4 := hts (.fieldLink RX8 69 "NumberSieves" "parting" "LNumberSieves$Parting;") (by decide +kernel)
  have hin_X1 : ∀ w ∈ wsX10, w ∈ wsX8_about := by decide +kernel
  refine lv_iload_n hx hb dX8_about_0 rfl (lv_at hl 1 rfl) ?_
  by_cases c_1 : p1 = (0 : Int32)
  · refine lv_tableIn (off := 27) (tgt := 28) hx hb dX8_about_1 (by rw [c_1]; decide) (by rw [c_1]; decide) (by rw [c_1]; rfl) (by decide) ?_
    replace h := h.1 c_1
    refine lv_aload_n hx hb dX8_about_28 rfl (lv_at hl 0 rfl) ?_
    refine va_get (D := (dC, dI)) (ci := 7) (v := .ref h_a0_rows) (C := RX8) (T := TX8) (N := 6) hx hb hts hin_X8 hown hK hP 0 rfl rfl 5 (by decide) hw_0 (fun _ h9 => h9) rfl dX8_about_29 ?_
    refine lv_ifnonnull (tgt := 39) hx hb dX8_about_32 (by decide) ?_
    refine lv_aload_n hx hb dX8_about_39 rfl (lv_at hl 0 rfl) ?_
    refine va_get (D := (dC, dI)) (ci := 7) (v := .ref h_a0_rows) (C := RX8) (T := TX8) (N := 6) hx hb hts hin_X8 hown hK hP 0 rfl rfl 5 (by decide) hw_0 (fun _ h9 => h9) rfl dX8_about_40 ?_
    refine va_getN (D := (dC, dI)) (ci := 5) (v := .int a0_rows_many) (C := RX5) (T := TX5) (N := 2) hx hb hts hin_X5 hown hK hP 4 rfl rfl 1 (by decide) (nw_10 hN) (fun _ h9 => h9) rfl dX8_about_43 ?_
    have hP9 := hP.sub (ws' := [(h_a0, .inr (7, [w_a0_primes, .null, .ref h_a0_parting, w_a0_primeSums, w_a0_progression, .ref h_a0_rows])), (h_a0_parting, .inr (1, [.ref q_a0_parting_factors, .ref q_a0_parting_powers, .long a0_parting_number, .int a0_parting_many])), (q_a0_parting_factors, .inl (cJ, 10, .inr (.inl a0_parting_factors))), (q_a0_parting_powers, .inl (cI, 10, .inl a0_parting_powers)), (h_a0_rows, .inr (5, [.ref q_a0_rows_values, .int a0_rows_many])), (q_a0_rows_values, .inl (cJ, 9600, .inr (.inl a0_rows_values)))]) [0, 1, 2, 3, 4, 5] rfl
    have hD9 := hD.sub (ws' := [(h_a0, .inr (7, [w_a0_primes, .null, .ref h_a0_parting, w_a0_primeSums, w_a0_progression, .ref h_a0_rows])), (h_a0_parting, .inr (1, [.ref q_a0_parting_factors, .ref q_a0_parting_powers, .long a0_parting_number, .int a0_parting_many])), (q_a0_parting_factors, .inl (cJ, 10, .inr (.inl a0_parting_factors))), (q_a0_parting_powers, .inl (cI, 10, .inl a0_parting_powers)), (h_a0_rows, .inr (5, [.ref q_a0_rows_values, .int a0_rows_many])), (q_a0_rows_values, .inl (cJ, 9600, .inr (.inl a0_rows_values)))]) [0, 1, 2, 3, 4, 5] (by decide) rfl
    exact W.iret (v := a0_rows_many) hx hb hr (fun t ht hW => ⟨⟨_, (), rfl, h, by rw [ht]; exact hP9, hD9⟩, hS.F ht⟩) hS.2.2 dX8_about_46
  by_cases c_2 : p1 = (1 : Int32)
  · refine lv_tableIn (off := 46) (tgt := 47) hx hb dX8_about_1 (by rw [c_2]; decide) (by rw [c_2]; decide) (by rw [c_2]; rfl) (by decide) ?_
    replace h := h.2.1 c_2
    refine lv_aload_n hx hb dX8_about_47 rfl (lv_at hl 0 rfl) ?_
    refine va_get (D := (dC, dI)) (ci := 7) (v := .null) (C := RX8) (T := TX8) (N := 6) hx hb hts hin_X8 hown hK hP 0 rfl rfl 1 (by decide) hw_3 (fun _ h9 => h9) rfl dX8_about_48 ?_
    refine lv_ifnonnullN hx hb dX8_about_51 ?_
    refine lv_iconst (v := (0 : Int32)) hx hb dX8_about_54 (by decide) ?_
    refine lv_goto (tgt := 65) hx hb dX8_about_55 (by decide) ?_
    have hP9 := hP.sub (ws' := [(h_a0, .inr (7, [w_a0_primes, .null, .ref h_a0_parting, w_a0_primeSums, w_a0_progression, .ref h_a0_rows])), (h_a0_parting, .inr (1, [.ref q_a0_parting_factors, .ref q_a0_parting_powers, .long a0_parting_number, .int a0_parting_many])), (q_a0_parting_factors, .inl (cJ, 10, .inr (.inl a0_parting_factors))), (q_a0_parting_powers, .inl (cI, 10, .inl a0_parting_powers)), (h_a0_rows, .inr (5, [.ref q_a0_rows_values, .int a0_rows_many])), (q_a0_rows_values, .inl (cJ, 9600, .inr (.inl a0_rows_values)))]) [0, 1, 2, 3, 4, 5] rfl
    have hD9 := hD.sub (ws' := [(h_a0, .inr (7, [w_a0_primes, .null, .ref h_a0_parting, w_a0_primeSums, w_a0_progression, .ref h_a0_rows])), (h_a0_parting, .inr (1, [.ref q_a0_parting_factors, .ref q_a0_parting_powers, .long a0_parting_number, .int a0_parting_many])), (q_a0_parting_factors, .inl (cJ, 10, .inr (.inl a0_parting_factors))), (q_a0_parting_powers, .inl (cI, 10, .inl a0_parting_powers)), (h_a0_rows, .inr (5, [.ref q_a0_rows_values, .int a0_rows_many])), (q_a0_rows_values, .inl (cJ, 9600, .inr (.inl a0_rows_values)))]) [0, 1, 2, 3, 4, 5] (by decide) rfl
    exact W.iret (v := (0 : Int32)) hx hb hr (fun t ht hW => ⟨⟨_, (), rfl, h, by rw [ht]; exact hP9, hD9⟩, hS.F ht⟩) hS.2.2 dX8_about_65
  by_cases c_3 : p1 = (2 : Int32)
  · refine lv_tableIn (off := 65) (tgt := 66) hx hb dX8_about_1 (by rw [c_3]; decide) (by rw [c_3]; decide) (by rw [c_3]; rfl) (by decide) ?_
    replace h := h.2.2.1 c_3
    refine lv_aload_n hx hb dX8_about_66 rfl (lv_at hl 0 rfl) ?_
    refine va_get (D := (dC, dI)) (ci := 7) (v := .ref h_a0_parting) (C := RX8) (T := TX8) (N := 6) hx hb hts hin_X8 hown hK hP 0 rfl rfl 2 (by decide) hw_4 (fun _ h9 => h9) rfl dX8_about_67 ?_
    refine lv_ifnonnull (tgt := 77) hx hb dX8_about_70 (by decide) ?_
    refine lv_aload_n hx hb dX8_about_77 rfl (lv_at hl 0 rfl) ?_
    refine va_get (D := (dC, dI)) (ci := 7) (v := .ref h_a0_parting) (C := RX8) (T := TX8) (N := 6) hx hb hts hin_X8 hown hK hP 0 rfl rfl 2 (by decide) hw_4 (fun _ h9 => h9) rfl dX8_about_78 ?_
    refine va_getN (D := (dC, dI)) (ci := 1) (v := .int a0_parting_many) (C := RX1) (T := TX1) (N := 4) hx hb hts hin_X1 hown hK hP 1 rfl rfl 3 (by decide) (nw_9 hN) (fun _ h9 => h9) rfl dX8_about_81 ?_
    have hP9 := hP.sub (ws' := [(h_a0, .inr (7, [w_a0_primes, .null, .ref h_a0_parting, w_a0_primeSums, w_a0_progression, .ref h_a0_rows])), (h_a0_parting, .inr (1, [.ref q_a0_parting_factors, .ref q_a0_parting_powers, .long a0_parting_number, .int a0_parting_many])), (q_a0_parting_factors, .inl (cJ, 10, .inr (.inl a0_parting_factors))), (q_a0_parting_powers, .inl (cI, 10, .inl a0_parting_powers)), (h_a0_rows, .inr (5, [.ref q_a0_rows_values, .int a0_rows_many])), (q_a0_rows_values, .inl (cJ, 9600, .inr (.inl a0_rows_values)))]) [0, 1, 2, 3, 4, 5] rfl
    have hD9 := hD.sub (ws' := [(h_a0, .inr (7, [w_a0_primes, .null, .ref h_a0_parting, w_a0_primeSums, w_a0_progression, .ref h_a0_rows])), (h_a0_parting, .inr (1, [.ref q_a0_parting_factors, .ref q_a0_parting_powers, .long a0_parting_number, .int a0_parting_many])), (q_a0_parting_factors, .inl (cJ, 10, .inr (.inl a0_parting_factors))), (q_a0_parting_powers, .inl (cI, 10, .inl a0_parting_powers)), (h_a0_rows, .inr (5, [.ref q_a0_rows_values, .int a0_rows_many])), (q_a0_rows_values, .inl (cJ, 9600, .inr (.inl a0_rows_values)))]) [0, 1, 2, 3, 4, 5] (by decide) rfl
    exact W.iret (v := a0_parting_many) hx hb hr (fun t ht hW => ⟨⟨_, (), rfl, h, by rw [ht]; exact hP9, hD9⟩, hS.F ht⟩) hS.2.2 dX8_about_84
  have t0 : p1.toInt ≠ 0 := fun q => c_1 (Int32.toInt_inj.mp (q.trans (by decide)))
  have t1 : p1.toInt ≠ 1 := fun q => c_2 (Int32.toInt_inj.mp (q.trans (by decide)))
  have t2 : p1.toInt ≠ 2 := fun q => c_3 (Int32.toInt_inj.mp (q.trans (by decide)))
  refine lv_tableOut (tgt := 85) hx hb dX8_about_1 (by omega) (by decide) ?_
  replace h := h.2.2.2 c_1 c_2 c_3
  refine lv_iconst (v := (-1 : Int32)) hx hb dX8_about_85 (by decide) ?_
  have hP9 := hP.sub (ws' := [(h_a0, .inr (7, [w_a0_primes, .null, .ref h_a0_parting, w_a0_primeSums, w_a0_progression, .ref h_a0_rows])), (h_a0_parting, .inr (1, [.ref q_a0_parting_factors, .ref q_a0_parting_powers, .long a0_parting_number, .int a0_parting_many])), (q_a0_parting_factors, .inl (cJ, 10, .inr (.inl a0_parting_factors))), (q_a0_parting_powers, .inl (cI, 10, .inl a0_parting_powers)), (h_a0_rows, .inr (5, [.ref q_a0_rows_values, .int a0_rows_many])), (q_a0_rows_values, .inl (cJ, 9600, .inr (.inl a0_rows_values)))]) [0, 1, 2, 3, 4, 5] rfl
  have hD9 := hD.sub (ws' := [(h_a0, .inr (7, [w_a0_primes, .null, .ref h_a0_parting, w_a0_primeSums, w_a0_progression, .ref h_a0_rows])), (h_a0_parting, .inr (1, [.ref q_a0_parting_factors, .ref q_a0_parting_powers, .long a0_parting_number, .int a0_parting_many])), (q_a0_parting_factors, .inl (cJ, 10, .inr (.inl a0_parting_factors))), (q_a0_parting_powers, .inl (cI, 10, .inl a0_parting_powers)), (h_a0_rows, .inr (5, [.ref q_a0_rows_values, .int a0_rows_many])), (q_a0_rows_values, .inl (cJ, 9600, .inr (.inl a0_rows_values)))]) [0, 1, 2, 3, 4, 5] (by decide) rfl
  exact W.iret (v := (-1 : Int32)) hx hb hr (fun t ht hW => ⟨⟨_, (), rfl, h, by rw [ht]; exact hP9, hD9⟩, hS.F ht⟩) hS.2.2 dX8_about_86
def wp_X8_about_c100 (a0_sieved_many : Int32) (p1 : Int32) (Q : Int32 → Prop) : Prop :=
  ((p1 = (0 : Int32) → Q (0 : Int32)) ∧ (p1 = (1 : Int32) → Q a0_sieved_many) ∧ (p1 = (2 : Int32) → Q (-1 : Int32)) ∧ (¬ p1 = (0 : Int32) → ¬ p1 = (1 : Int32) → ¬ p1 = (2 : Int32) → Q (-1 : Int32)))
abbrev rm_X8_about_c100 : Room := { frames := 0, cells := 0, slots := 0, locals := 0 }
abbrev qc_X8_about_c100 (dC : Nat → ClassId) (dI : Nat → Nat → Nat) (cI cJ cZ : ClassId) (h_a0 : Nat) (w_a0_primes : Value) (h_a0_sieved : Nat) (a0_sieved_leasts : Nat → Int64) (q_a0_sieved_leasts : Nat) (a0_sieved_greatests : Nat → Int64) (q_a0_sieved_greatests : Nat) (a0_sieved_rests : Nat → Int64) (q_a0_sieved_rests : Nat) (h_a0_sieved_squared : Nat) (a0_sieved_squared_words : Nat → Int64) (q_a0_sieved_squared_words : Nat) (a0_sieved_from : Int64) (a0_sieved_many : Int32) (a0_sieved_primeCount : Int32) (a0_sieved_gap : Int32) (a0_sieved_twins : Int32) (a0_sieved_squareFree : Int32) (w_a0_primeSums : Value) (w_a0_progression : Value) (Q : Int32 → Prop) (A : Nat → Prop) : Array Value → State → Outcome → State → Prop := va_Qi (fun (r : Int32) (_ : Unit) => Q r) (post_ dC dI A (fun (u : Unit) => ([(h_a0, .inr (7, [w_a0_primes, .ref h_a0_sieved, .null, w_a0_primeSums, w_a0_progression, .null])), (h_a0_sieved, .inr (6, [.ref q_a0_sieved_leasts, .ref q_a0_sieved_greatests, .ref q_a0_sieved_rests, .ref h_a0_sieved_squared, .long a0_sieved_from, .int a0_sieved_many, .int a0_sieved_primeCount, .int a0_sieved_gap, .int a0_sieved_twins, .int a0_sieved_squareFree])), (q_a0_sieved_leasts, .inl (cJ, 5000, .inr (.inl a0_sieved_leasts))), (q_a0_sieved_greatests, .inl (cJ, 5000, .inr (.inl a0_sieved_greatests))), (q_a0_sieved_rests, .inl (cJ, 5000, .inr (.inl a0_sieved_rests))), (h_a0_sieved_squared, .inr (0, [.ref q_a0_sieved_squared_words])), (q_a0_sieved_squared_words, .inl (cJ, 79, .inr (.inl a0_sieved_squared_words)))] : va_W))) A
set_option maxHeartbeats 4000000 in
set_option maxRecDepth 100000 in
theorem c_X8_about_c100 (l : Launch) (dC : Nat → ClassId) (dI : Nat → Nat → Nat) (cI cJ cZ : ClassId) (sz : Nat) (h_a0 : Nat) (w_a0_primes : Value) (h_a0_sieved : Nat) (a0_sieved_leasts : Nat → Int64) (q_a0_sieved_leasts : Nat) (a0_sieved_greatests : Nat → Int64) (q_a0_sieved_greatests : Nat) (a0_sieved_rests : Nat → Int64) (q_a0_sieved_rests : Nat) (h_a0_sieved_squared : Nat) (a0_sieved_squared_words : Nat → Int64) (q_a0_sieved_squared_words : Nat) (a0_sieved_from : Int64) (a0_sieved_many : Int32) (a0_sieved_primeCount : Int32) (a0_sieved_gap : Int32) (a0_sieved_twins : Int32) (a0_sieved_squareFree : Int32) (w_a0_primeSums : Value) (w_a0_progression : Value) (p1 : Int32) (Q : Int32 → Prop) (hQ : wp_X8_about_c100 a0_sieved_many p1 Q) : Met l yX8_about wsX8_about rm_X8_about_c100 (pre_ dC dI cI cJ cZ [.ref h_a0, .int p1] [(h_a0, .inr (7, [w_a0_primes, .ref h_a0_sieved, .null, w_a0_primeSums, w_a0_progression, .null])), (h_a0_sieved, .inr (6, [.ref q_a0_sieved_leasts, .ref q_a0_sieved_greatests, .ref q_a0_sieved_rests, .ref h_a0_sieved_squared, .long a0_sieved_from, .int a0_sieved_many, .int a0_sieved_primeCount, .int a0_sieved_gap, .int a0_sieved_twins, .int a0_sieved_squareFree])), (q_a0_sieved_leasts, .inl (cJ, 5000, .inr (.inl a0_sieved_leasts))), (q_a0_sieved_greatests, .inl (cJ, 5000, .inr (.inl a0_sieved_greatests))), (q_a0_sieved_rests, .inl (cJ, 5000, .inr (.inl a0_sieved_rests))), (h_a0_sieved_squared, .inr (0, [.ref q_a0_sieved_squared_words])), (q_a0_sieved_squared_words, .inl (cJ, 79, .inr (.inl a0_sieved_squared_words)))] sz) (qc_X8_about_c100 dC dI cI cJ cZ h_a0 w_a0_primes h_a0_sieved a0_sieved_leasts q_a0_sieved_leasts a0_sieved_greatests q_a0_sieved_greatests a0_sieved_rests q_a0_sieved_rests h_a0_sieved_squared a0_sieved_squared_words q_a0_sieved_squared_words a0_sieved_from a0_sieved_many a0_sieved_primeCount a0_sieved_gap a0_sieved_twins a0_sieved_squareFree w_a0_primeSums w_a0_progression Q (va_A [(h_a0, .inr (7, [w_a0_primes, .ref h_a0_sieved, .null, w_a0_primeSums, w_a0_progression, .null])), (h_a0_sieved, .inr (6, [.ref q_a0_sieved_leasts, .ref q_a0_sieved_greatests, .ref q_a0_sieved_rests, .ref h_a0_sieved_squared, .long a0_sieved_from, .int a0_sieved_many, .int a0_sieved_primeCount, .int a0_sieved_gap, .int a0_sieved_twins, .int a0_sieved_squareFree])), (q_a0_sieved_leasts, .inl (cJ, 5000, .inr (.inl a0_sieved_leasts))), (q_a0_sieved_greatests, .inl (cJ, 5000, .inr (.inl a0_sieved_greatests))), (q_a0_sieved_rests, .inl (cJ, 5000, .inr (.inl a0_sieved_rests))), (h_a0_sieved_squared, .inr (0, [.ref q_a0_sieved_squared_words])), (q_a0_sieved_squared_words, .inl (cJ, 79, .inr (.inl a0_sieved_squared_words)))] sz)) 0 0 (va_A [(h_a0, .inr (7, [w_a0_primes, .ref h_a0_sieved, .null, w_a0_primeSums, w_a0_progression, .null])), (h_a0_sieved, .inr (6, [.ref q_a0_sieved_leasts, .ref q_a0_sieved_greatests, .ref q_a0_sieved_rests, .ref h_a0_sieved_squared, .long a0_sieved_from, .int a0_sieved_many, .int a0_sieved_primeCount, .int a0_sieved_gap, .int a0_sieved_twins, .int a0_sieved_squareFree])), (q_a0_sieved_leasts, .inl (cJ, 5000, .inr (.inl a0_sieved_leasts))), (q_a0_sieved_greatests, .inl (cJ, 5000, .inr (.inl a0_sieved_greatests))), (q_a0_sieved_rests, .inl (cJ, 5000, .inr (.inl a0_sieved_rests))), (h_a0_sieved_squared, .inr (0, [.ref q_a0_sieved_squared_words])), (q_a0_sieved_squared_words, .inl (cJ, 79, .inr (.inl a0_sieved_squared_words)))] sz) := by
  refine Met.ofW (cc := cX8_about) (maxL := 2) (ret := (some .int)) (by decide) rfl ?_
  intro p e s m args below meth c s₁ B hml hv
  obtain ⟨rfl, hsz, hP, hK, hN, hD0⟩ := hv
  have hx := B.exec
  have hb := B.bytes
  have hr := B.returns
  have hts := atoms_spec (ws := wsX8_about) B.pre
  have hown : s.vm.findClass RX8 = some m.cls := findClass_of_methodNamed B.named
  subst hsz
  have hD := hD0.self (sz := s.heap.size)
  generalize hAe : va_A [(h_a0, .inr (7, [w_a0_primes, .ref h_a0_sieved, .null, w_a0_primeSums, w_a0_progression, .null])), (h_a0_sieved, .inr (6, [.ref q_a0_sieved_leasts, .ref q_a0_sieved_greatests, .ref q_a0_sieved_rests, .ref h_a0_sieved_squared, .long a0_sieved_from, .int a0_sieved_many, .int a0_sieved_primeCount, .int a0_sieved_gap, .int a0_sieved_twins, .int a0_sieved_squareFree])), (q_a0_sieved_leasts, .inl (cJ, 5000, .inr (.inl a0_sieved_leasts))), (q_a0_sieved_greatests, .inl (cJ, 5000, .inr (.inl a0_sieved_greatests))), (q_a0_sieved_rests, .inl (cJ, 5000, .inr (.inl a0_sieved_rests))), (h_a0_sieved_squared, .inr (0, [.ref q_a0_sieved_squared_words])), (q_a0_sieved_squared_words, .inl (cJ, 79, .inr (.inl a0_sieved_squared_words)))] s.heap.size = A at hD ⊢
  have hA : ∀ q : Nat, s.heap.size ≤ q → A q := fun q h => by rw [← hAe]; exact Or.inr h
  have hS : va_S A s.heap s.heap [] := va_S.rf
  have hl := lv_entry ([.ref h_a0, .int p1]) (n := 2) (Nat.le_of_ble_eq_true rfl)
  rw [lg_entry_eq]
  generalize (lg_sl ([.ref h_a0, .int p1]) ++ List.replicate (2 - (lg_sl ([.ref h_a0, .int p1])).length) Slot.unset).toArray = ls at hl ⊢
  have hl : lv_has ls 2 [(0, .ref h_a0), (1, .int p1)] := hl
  have h := hQ
  unfold wp_X8_about_c100 at h
  have hw_0 := hts (.fieldLink RX8 147 "NumberSieves" "rows" "LNumberSieves$Rows;") (by decide +kernel)
  have hin_X8 : ∀ w ∈ wsX80, w ∈ wsX8_about := by decide +kernel
  have hw_2 := hts (.fieldLink RX8 11 "NumberSieves" "sieved" "LNumberSieves$Span;") (by decide +kernel)
  have hin_X6 : ∀ w ∈ wsX60, w ∈ wsX8_about := by decide +kernel
  have hw_4 := hts (.fieldLink RX8 69 "NumberSieves" "parting" "LNumberSieves$Parting;") (by decide +kernel)
  refine lv_iload_n hx hb dX8_about_0 rfl (lv_at hl 1 rfl) ?_
  by_cases c_1 : p1 = (0 : Int32)
  · refine lv_tableIn (off := 27) (tgt := 28) hx hb dX8_about_1 (by rw [c_1]; decide) (by rw [c_1]; decide) (by rw [c_1]; rfl) (by decide) ?_
    replace h := h.1 c_1
    refine lv_aload_n hx hb dX8_about_28 rfl (lv_at hl 0 rfl) ?_
    refine va_get (D := (dC, dI)) (ci := 7) (v := .null) (C := RX8) (T := TX8) (N := 6) hx hb hts hin_X8 hown hK hP 0 rfl rfl 5 (by decide) hw_0 (fun _ h9 => h9) rfl dX8_about_29 ?_
    refine lv_ifnonnullN hx hb dX8_about_32 ?_
    refine lv_iconst (v := (0 : Int32)) hx hb dX8_about_35 (by decide) ?_
    refine lv_goto (tgt := 46) hx hb dX8_about_36 (by decide) ?_
    have hP9 := hP.sub (ws' := [(h_a0, .inr (7, [w_a0_primes, .ref h_a0_sieved, .null, w_a0_primeSums, w_a0_progression, .null])), (h_a0_sieved, .inr (6, [.ref q_a0_sieved_leasts, .ref q_a0_sieved_greatests, .ref q_a0_sieved_rests, .ref h_a0_sieved_squared, .long a0_sieved_from, .int a0_sieved_many, .int a0_sieved_primeCount, .int a0_sieved_gap, .int a0_sieved_twins, .int a0_sieved_squareFree])), (q_a0_sieved_leasts, .inl (cJ, 5000, .inr (.inl a0_sieved_leasts))), (q_a0_sieved_greatests, .inl (cJ, 5000, .inr (.inl a0_sieved_greatests))), (q_a0_sieved_rests, .inl (cJ, 5000, .inr (.inl a0_sieved_rests))), (h_a0_sieved_squared, .inr (0, [.ref q_a0_sieved_squared_words])), (q_a0_sieved_squared_words, .inl (cJ, 79, .inr (.inl a0_sieved_squared_words)))]) [0, 1, 2, 3, 4, 5, 6] rfl
    have hD9 := hD.sub (ws' := [(h_a0, .inr (7, [w_a0_primes, .ref h_a0_sieved, .null, w_a0_primeSums, w_a0_progression, .null])), (h_a0_sieved, .inr (6, [.ref q_a0_sieved_leasts, .ref q_a0_sieved_greatests, .ref q_a0_sieved_rests, .ref h_a0_sieved_squared, .long a0_sieved_from, .int a0_sieved_many, .int a0_sieved_primeCount, .int a0_sieved_gap, .int a0_sieved_twins, .int a0_sieved_squareFree])), (q_a0_sieved_leasts, .inl (cJ, 5000, .inr (.inl a0_sieved_leasts))), (q_a0_sieved_greatests, .inl (cJ, 5000, .inr (.inl a0_sieved_greatests))), (q_a0_sieved_rests, .inl (cJ, 5000, .inr (.inl a0_sieved_rests))), (h_a0_sieved_squared, .inr (0, [.ref q_a0_sieved_squared_words])), (q_a0_sieved_squared_words, .inl (cJ, 79, .inr (.inl a0_sieved_squared_words)))]) [0, 1, 2, 3, 4, 5, 6] (by decide) rfl
    exact W.iret (v := (0 : Int32)) hx hb hr (fun t ht hW => ⟨⟨_, (), rfl, h, by rw [ht]; exact hP9, hD9⟩, hS.F ht⟩) hS.2.2 dX8_about_46
  by_cases c_2 : p1 = (1 : Int32)
  · refine lv_tableIn (off := 46) (tgt := 47) hx hb dX8_about_1 (by rw [c_2]; decide) (by rw [c_2]; decide) (by rw [c_2]; rfl) (by decide) ?_
    replace h := h.2.1 c_2
    refine lv_aload_n hx hb dX8_about_47 rfl (lv_at hl 0 rfl) ?_
    refine va_get (D := (dC, dI)) (ci := 7) (v := .ref h_a0_sieved) (C := RX8) (T := TX8) (N := 6) hx hb hts hin_X8 hown hK hP 0 rfl rfl 1 (by decide) hw_2 (fun _ h9 => h9) rfl dX8_about_48 ?_
    refine lv_ifnonnull (tgt := 58) hx hb dX8_about_51 (by decide) ?_
    refine lv_aload_n hx hb dX8_about_58 rfl (lv_at hl 0 rfl) ?_
    refine va_get (D := (dC, dI)) (ci := 7) (v := .ref h_a0_sieved) (C := RX8) (T := TX8) (N := 6) hx hb hts hin_X8 hown hK hP 0 rfl rfl 1 (by decide) hw_2 (fun _ h9 => h9) rfl dX8_about_59 ?_
    refine va_getN (D := (dC, dI)) (ci := 6) (v := .int a0_sieved_many) (C := RX6) (T := TX6) (N := 10) hx hb hts hin_X6 hown hK hP 1 rfl rfl 5 (by decide) (nw_0 hN) (fun _ h9 => h9) rfl dX8_about_62 ?_
    have hP9 := hP.sub (ws' := [(h_a0, .inr (7, [w_a0_primes, .ref h_a0_sieved, .null, w_a0_primeSums, w_a0_progression, .null])), (h_a0_sieved, .inr (6, [.ref q_a0_sieved_leasts, .ref q_a0_sieved_greatests, .ref q_a0_sieved_rests, .ref h_a0_sieved_squared, .long a0_sieved_from, .int a0_sieved_many, .int a0_sieved_primeCount, .int a0_sieved_gap, .int a0_sieved_twins, .int a0_sieved_squareFree])), (q_a0_sieved_leasts, .inl (cJ, 5000, .inr (.inl a0_sieved_leasts))), (q_a0_sieved_greatests, .inl (cJ, 5000, .inr (.inl a0_sieved_greatests))), (q_a0_sieved_rests, .inl (cJ, 5000, .inr (.inl a0_sieved_rests))), (h_a0_sieved_squared, .inr (0, [.ref q_a0_sieved_squared_words])), (q_a0_sieved_squared_words, .inl (cJ, 79, .inr (.inl a0_sieved_squared_words)))]) [0, 1, 2, 3, 4, 5, 6] rfl
    have hD9 := hD.sub (ws' := [(h_a0, .inr (7, [w_a0_primes, .ref h_a0_sieved, .null, w_a0_primeSums, w_a0_progression, .null])), (h_a0_sieved, .inr (6, [.ref q_a0_sieved_leasts, .ref q_a0_sieved_greatests, .ref q_a0_sieved_rests, .ref h_a0_sieved_squared, .long a0_sieved_from, .int a0_sieved_many, .int a0_sieved_primeCount, .int a0_sieved_gap, .int a0_sieved_twins, .int a0_sieved_squareFree])), (q_a0_sieved_leasts, .inl (cJ, 5000, .inr (.inl a0_sieved_leasts))), (q_a0_sieved_greatests, .inl (cJ, 5000, .inr (.inl a0_sieved_greatests))), (q_a0_sieved_rests, .inl (cJ, 5000, .inr (.inl a0_sieved_rests))), (h_a0_sieved_squared, .inr (0, [.ref q_a0_sieved_squared_words])), (q_a0_sieved_squared_words, .inl (cJ, 79, .inr (.inl a0_sieved_squared_words)))]) [0, 1, 2, 3, 4, 5, 6] (by decide) rfl
    exact W.iret (v := a0_sieved_many) hx hb hr (fun t ht hW => ⟨⟨_, (), rfl, h, by rw [ht]; exact hP9, hD9⟩, hS.F ht⟩) hS.2.2 dX8_about_65
  by_cases c_3 : p1 = (2 : Int32)
  · refine lv_tableIn (off := 65) (tgt := 66) hx hb dX8_about_1 (by rw [c_3]; decide) (by rw [c_3]; decide) (by rw [c_3]; rfl) (by decide) ?_
    replace h := h.2.2.1 c_3
    refine lv_aload_n hx hb dX8_about_66 rfl (lv_at hl 0 rfl) ?_
    refine va_get (D := (dC, dI)) (ci := 7) (v := .null) (C := RX8) (T := TX8) (N := 6) hx hb hts hin_X8 hown hK hP 0 rfl rfl 2 (by decide) hw_4 (fun _ h9 => h9) rfl dX8_about_67 ?_
    refine lv_ifnonnullN hx hb dX8_about_70 ?_
    refine lv_iconst (v := (-1 : Int32)) hx hb dX8_about_73 (by decide) ?_
    refine lv_goto (tgt := 84) hx hb dX8_about_74 (by decide) ?_
    have hP9 := hP.sub (ws' := [(h_a0, .inr (7, [w_a0_primes, .ref h_a0_sieved, .null, w_a0_primeSums, w_a0_progression, .null])), (h_a0_sieved, .inr (6, [.ref q_a0_sieved_leasts, .ref q_a0_sieved_greatests, .ref q_a0_sieved_rests, .ref h_a0_sieved_squared, .long a0_sieved_from, .int a0_sieved_many, .int a0_sieved_primeCount, .int a0_sieved_gap, .int a0_sieved_twins, .int a0_sieved_squareFree])), (q_a0_sieved_leasts, .inl (cJ, 5000, .inr (.inl a0_sieved_leasts))), (q_a0_sieved_greatests, .inl (cJ, 5000, .inr (.inl a0_sieved_greatests))), (q_a0_sieved_rests, .inl (cJ, 5000, .inr (.inl a0_sieved_rests))), (h_a0_sieved_squared, .inr (0, [.ref q_a0_sieved_squared_words])), (q_a0_sieved_squared_words, .inl (cJ, 79, .inr (.inl a0_sieved_squared_words)))]) [0, 1, 2, 3, 4, 5, 6] rfl
    have hD9 := hD.sub (ws' := [(h_a0, .inr (7, [w_a0_primes, .ref h_a0_sieved, .null, w_a0_primeSums, w_a0_progression, .null])), (h_a0_sieved, .inr (6, [.ref q_a0_sieved_leasts, .ref q_a0_sieved_greatests, .ref q_a0_sieved_rests, .ref h_a0_sieved_squared, .long a0_sieved_from, .int a0_sieved_many, .int a0_sieved_primeCount, .int a0_sieved_gap, .int a0_sieved_twins, .int a0_sieved_squareFree])), (q_a0_sieved_leasts, .inl (cJ, 5000, .inr (.inl a0_sieved_leasts))), (q_a0_sieved_greatests, .inl (cJ, 5000, .inr (.inl a0_sieved_greatests))), (q_a0_sieved_rests, .inl (cJ, 5000, .inr (.inl a0_sieved_rests))), (h_a0_sieved_squared, .inr (0, [.ref q_a0_sieved_squared_words])), (q_a0_sieved_squared_words, .inl (cJ, 79, .inr (.inl a0_sieved_squared_words)))]) [0, 1, 2, 3, 4, 5, 6] (by decide) rfl
    exact W.iret (v := (-1 : Int32)) hx hb hr (fun t ht hW => ⟨⟨_, (), rfl, h, by rw [ht]; exact hP9, hD9⟩, hS.F ht⟩) hS.2.2 dX8_about_84
  have t0 : p1.toInt ≠ 0 := fun q => c_1 (Int32.toInt_inj.mp (q.trans (by decide)))
  have t1 : p1.toInt ≠ 1 := fun q => c_2 (Int32.toInt_inj.mp (q.trans (by decide)))
  have t2 : p1.toInt ≠ 2 := fun q => c_3 (Int32.toInt_inj.mp (q.trans (by decide)))
  refine lv_tableOut (tgt := 85) hx hb dX8_about_1 (by omega) (by decide) ?_
  replace h := h.2.2.2 c_1 c_2 c_3
  refine lv_iconst (v := (-1 : Int32)) hx hb dX8_about_85 (by decide) ?_
  have hP9 := hP.sub (ws' := [(h_a0, .inr (7, [w_a0_primes, .ref h_a0_sieved, .null, w_a0_primeSums, w_a0_progression, .null])), (h_a0_sieved, .inr (6, [.ref q_a0_sieved_leasts, .ref q_a0_sieved_greatests, .ref q_a0_sieved_rests, .ref h_a0_sieved_squared, .long a0_sieved_from, .int a0_sieved_many, .int a0_sieved_primeCount, .int a0_sieved_gap, .int a0_sieved_twins, .int a0_sieved_squareFree])), (q_a0_sieved_leasts, .inl (cJ, 5000, .inr (.inl a0_sieved_leasts))), (q_a0_sieved_greatests, .inl (cJ, 5000, .inr (.inl a0_sieved_greatests))), (q_a0_sieved_rests, .inl (cJ, 5000, .inr (.inl a0_sieved_rests))), (h_a0_sieved_squared, .inr (0, [.ref q_a0_sieved_squared_words])), (q_a0_sieved_squared_words, .inl (cJ, 79, .inr (.inl a0_sieved_squared_words)))]) [0, 1, 2, 3, 4, 5, 6] rfl
  have hD9 := hD.sub (ws' := [(h_a0, .inr (7, [w_a0_primes, .ref h_a0_sieved, .null, w_a0_primeSums, w_a0_progression, .null])), (h_a0_sieved, .inr (6, [.ref q_a0_sieved_leasts, .ref q_a0_sieved_greatests, .ref q_a0_sieved_rests, .ref h_a0_sieved_squared, .long a0_sieved_from, .int a0_sieved_many, .int a0_sieved_primeCount, .int a0_sieved_gap, .int a0_sieved_twins, .int a0_sieved_squareFree])), (q_a0_sieved_leasts, .inl (cJ, 5000, .inr (.inl a0_sieved_leasts))), (q_a0_sieved_greatests, .inl (cJ, 5000, .inr (.inl a0_sieved_greatests))), (q_a0_sieved_rests, .inl (cJ, 5000, .inr (.inl a0_sieved_rests))), (h_a0_sieved_squared, .inr (0, [.ref q_a0_sieved_squared_words])), (q_a0_sieved_squared_words, .inl (cJ, 79, .inr (.inl a0_sieved_squared_words)))]) [0, 1, 2, 3, 4, 5, 6] (by decide) rfl
  exact W.iret (v := (-1 : Int32)) hx hb hr (fun t ht hW => ⟨⟨_, (), rfl, h, by rw [ht]; exact hP9, hD9⟩, hS.F ht⟩) hS.2.2 dX8_about_86
def wp_X8_about_c101 (a0_sieved_many : Int32) (a0_rows_many : Int32) (p1 : Int32) (Q : Int32 → Prop) : Prop :=
  ((p1 = (0 : Int32) → Q a0_rows_many) ∧ (p1 = (1 : Int32) → Q a0_sieved_many) ∧ (p1 = (2 : Int32) → Q (-1 : Int32)) ∧ (¬ p1 = (0 : Int32) → ¬ p1 = (1 : Int32) → ¬ p1 = (2 : Int32) → Q (-1 : Int32)))
abbrev rm_X8_about_c101 : Room := { frames := 0, cells := 0, slots := 0, locals := 0 }
abbrev qc_X8_about_c101 (dC : Nat → ClassId) (dI : Nat → Nat → Nat) (cI cJ cZ : ClassId) (h_a0 : Nat) (w_a0_primes : Value) (h_a0_sieved : Nat) (a0_sieved_leasts : Nat → Int64) (q_a0_sieved_leasts : Nat) (a0_sieved_greatests : Nat → Int64) (q_a0_sieved_greatests : Nat) (a0_sieved_rests : Nat → Int64) (q_a0_sieved_rests : Nat) (h_a0_sieved_squared : Nat) (a0_sieved_squared_words : Nat → Int64) (q_a0_sieved_squared_words : Nat) (a0_sieved_from : Int64) (a0_sieved_many : Int32) (a0_sieved_primeCount : Int32) (a0_sieved_gap : Int32) (a0_sieved_twins : Int32) (a0_sieved_squareFree : Int32) (w_a0_primeSums : Value) (w_a0_progression : Value) (h_a0_rows : Nat) (a0_rows_values : Nat → Int64) (q_a0_rows_values : Nat) (a0_rows_many : Int32) (Q : Int32 → Prop) (A : Nat → Prop) : Array Value → State → Outcome → State → Prop := va_Qi (fun (r : Int32) (_ : Unit) => Q r) (post_ dC dI A (fun (u : Unit) => ([(h_a0, .inr (7, [w_a0_primes, .ref h_a0_sieved, .null, w_a0_primeSums, w_a0_progression, .ref h_a0_rows])), (h_a0_sieved, .inr (6, [.ref q_a0_sieved_leasts, .ref q_a0_sieved_greatests, .ref q_a0_sieved_rests, .ref h_a0_sieved_squared, .long a0_sieved_from, .int a0_sieved_many, .int a0_sieved_primeCount, .int a0_sieved_gap, .int a0_sieved_twins, .int a0_sieved_squareFree])), (q_a0_sieved_leasts, .inl (cJ, 5000, .inr (.inl a0_sieved_leasts))), (q_a0_sieved_greatests, .inl (cJ, 5000, .inr (.inl a0_sieved_greatests))), (q_a0_sieved_rests, .inl (cJ, 5000, .inr (.inl a0_sieved_rests))), (h_a0_sieved_squared, .inr (0, [.ref q_a0_sieved_squared_words])), (q_a0_sieved_squared_words, .inl (cJ, 79, .inr (.inl a0_sieved_squared_words))), (h_a0_rows, .inr (5, [.ref q_a0_rows_values, .int a0_rows_many])), (q_a0_rows_values, .inl (cJ, 9600, .inr (.inl a0_rows_values)))] : va_W))) A
set_option maxHeartbeats 4000000 in
set_option maxRecDepth 100000 in
theorem c_X8_about_c101 (l : Launch) (dC : Nat → ClassId) (dI : Nat → Nat → Nat) (cI cJ cZ : ClassId) (sz : Nat) (h_a0 : Nat) (w_a0_primes : Value) (h_a0_sieved : Nat) (a0_sieved_leasts : Nat → Int64) (q_a0_sieved_leasts : Nat) (a0_sieved_greatests : Nat → Int64) (q_a0_sieved_greatests : Nat) (a0_sieved_rests : Nat → Int64) (q_a0_sieved_rests : Nat) (h_a0_sieved_squared : Nat) (a0_sieved_squared_words : Nat → Int64) (q_a0_sieved_squared_words : Nat) (a0_sieved_from : Int64) (a0_sieved_many : Int32) (a0_sieved_primeCount : Int32) (a0_sieved_gap : Int32) (a0_sieved_twins : Int32) (a0_sieved_squareFree : Int32) (w_a0_primeSums : Value) (w_a0_progression : Value) (h_a0_rows : Nat) (a0_rows_values : Nat → Int64) (q_a0_rows_values : Nat) (a0_rows_many : Int32) (p1 : Int32) (Q : Int32 → Prop) (hQ : wp_X8_about_c101 a0_sieved_many a0_rows_many p1 Q) : Met l yX8_about wsX8_about rm_X8_about_c101 (pre_ dC dI cI cJ cZ [.ref h_a0, .int p1] [(h_a0, .inr (7, [w_a0_primes, .ref h_a0_sieved, .null, w_a0_primeSums, w_a0_progression, .ref h_a0_rows])), (h_a0_sieved, .inr (6, [.ref q_a0_sieved_leasts, .ref q_a0_sieved_greatests, .ref q_a0_sieved_rests, .ref h_a0_sieved_squared, .long a0_sieved_from, .int a0_sieved_many, .int a0_sieved_primeCount, .int a0_sieved_gap, .int a0_sieved_twins, .int a0_sieved_squareFree])), (q_a0_sieved_leasts, .inl (cJ, 5000, .inr (.inl a0_sieved_leasts))), (q_a0_sieved_greatests, .inl (cJ, 5000, .inr (.inl a0_sieved_greatests))), (q_a0_sieved_rests, .inl (cJ, 5000, .inr (.inl a0_sieved_rests))), (h_a0_sieved_squared, .inr (0, [.ref q_a0_sieved_squared_words])), (q_a0_sieved_squared_words, .inl (cJ, 79, .inr (.inl a0_sieved_squared_words))), (h_a0_rows, .inr (5, [.ref q_a0_rows_values, .int a0_rows_many])), (q_a0_rows_values, .inl (cJ, 9600, .inr (.inl a0_rows_values)))] sz) (qc_X8_about_c101 dC dI cI cJ cZ h_a0 w_a0_primes h_a0_sieved a0_sieved_leasts q_a0_sieved_leasts a0_sieved_greatests q_a0_sieved_greatests a0_sieved_rests q_a0_sieved_rests h_a0_sieved_squared a0_sieved_squared_words q_a0_sieved_squared_words a0_sieved_from a0_sieved_many a0_sieved_primeCount a0_sieved_gap a0_sieved_twins a0_sieved_squareFree w_a0_primeSums w_a0_progression h_a0_rows a0_rows_values q_a0_rows_values a0_rows_many Q (va_A [(h_a0, .inr (7, [w_a0_primes, .ref h_a0_sieved, .null, w_a0_primeSums, w_a0_progression, .ref h_a0_rows])), (h_a0_sieved, .inr (6, [.ref q_a0_sieved_leasts, .ref q_a0_sieved_greatests, .ref q_a0_sieved_rests, .ref h_a0_sieved_squared, .long a0_sieved_from, .int a0_sieved_many, .int a0_sieved_primeCount, .int a0_sieved_gap, .int a0_sieved_twins, .int a0_sieved_squareFree])), (q_a0_sieved_leasts, .inl (cJ, 5000, .inr (.inl a0_sieved_leasts))), (q_a0_sieved_greatests, .inl (cJ, 5000, .inr (.inl a0_sieved_greatests))), (q_a0_sieved_rests, .inl (cJ, 5000, .inr (.inl a0_sieved_rests))), (h_a0_sieved_squared, .inr (0, [.ref q_a0_sieved_squared_words])), (q_a0_sieved_squared_words, .inl (cJ, 79, .inr (.inl a0_sieved_squared_words))), (h_a0_rows, .inr (5, [.ref q_a0_rows_values, .int a0_rows_many])), (q_a0_rows_values, .inl (cJ, 9600, .inr (.inl a0_rows_values)))] sz)) 0 0 (va_A [(h_a0, .inr (7, [w_a0_primes, .ref h_a0_sieved, .null, w_a0_primeSums, w_a0_progression, .ref h_a0_rows])), (h_a0_sieved, .inr (6, [.ref q_a0_sieved_leasts, .ref q_a0_sieved_greatests, .ref q_a0_sieved_rests, .ref h_a0_sieved_squared, .long a0_sieved_from, .int a0_sieved_many, .int a0_sieved_primeCount, .int a0_sieved_gap, .int a0_sieved_twins, .int a0_sieved_squareFree])), (q_a0_sieved_leasts, .inl (cJ, 5000, .inr (.inl a0_sieved_leasts))), (q_a0_sieved_greatests, .inl (cJ, 5000, .inr (.inl a0_sieved_greatests))), (q_a0_sieved_rests, .inl (cJ, 5000, .inr (.inl a0_sieved_rests))), (h_a0_sieved_squared, .inr (0, [.ref q_a0_sieved_squared_words])), (q_a0_sieved_squared_words, .inl (cJ, 79, .inr (.inl a0_sieved_squared_words))), (h_a0_rows, .inr (5, [.ref q_a0_rows_values, .int a0_rows_many])), (q_a0_rows_values, .inl (cJ, 9600, .inr (.inl a0_rows_values)))] sz) := by
  refine Met.ofW (cc := cX8_about) (maxL := 2) (ret := (some .int)) (by decide) rfl ?_
  intro p e s m args below meth c s₁ B hml hv
  obtain ⟨rfl, hsz, hP, hK, hN, hD0⟩ := hv
  have hx := B.exec
  have hb := B.bytes
  have hr := B.returns
  have hts := atoms_spec (ws := wsX8_about) B.pre
  have hown : s.vm.findClass RX8 = some m.cls := findClass_of_methodNamed B.named
  subst hsz
  have hD := hD0.self (sz := s.heap.size)
  generalize hAe : va_A [(h_a0, .inr (7, [w_a0_primes, .ref h_a0_sieved, .null, w_a0_primeSums, w_a0_progression, .ref h_a0_rows])), (h_a0_sieved, .inr (6, [.ref q_a0_sieved_leasts, .ref q_a0_sieved_greatests, .ref q_a0_sieved_rests, .ref h_a0_sieved_squared, .long a0_sieved_from, .int a0_sieved_many, .int a0_sieved_primeCount, .int a0_sieved_gap, .int a0_sieved_twins, .int a0_sieved_squareFree])), (q_a0_sieved_leasts, .inl (cJ, 5000, .inr (.inl a0_sieved_leasts))), (q_a0_sieved_greatests, .inl (cJ, 5000, .inr (.inl a0_sieved_greatests))), (q_a0_sieved_rests, .inl (cJ, 5000, .inr (.inl a0_sieved_rests))), (h_a0_sieved_squared, .inr (0, [.ref q_a0_sieved_squared_words])), (q_a0_sieved_squared_words, .inl (cJ, 79, .inr (.inl a0_sieved_squared_words))), (h_a0_rows, .inr (5, [.ref q_a0_rows_values, .int a0_rows_many])), (q_a0_rows_values, .inl (cJ, 9600, .inr (.inl a0_rows_values)))] s.heap.size = A at hD ⊢
  have hA : ∀ q : Nat, s.heap.size ≤ q → A q := fun q h => by rw [← hAe]; exact Or.inr h
  have hS : va_S A s.heap s.heap [] := va_S.rf
  have hl := lv_entry ([.ref h_a0, .int p1]) (n := 2) (Nat.le_of_ble_eq_true rfl)
  rw [lg_entry_eq]
  generalize (lg_sl ([.ref h_a0, .int p1]) ++ List.replicate (2 - (lg_sl ([.ref h_a0, .int p1])).length) Slot.unset).toArray = ls at hl ⊢
  have hl : lv_has ls 2 [(0, .ref h_a0), (1, .int p1)] := hl
  have h := hQ
  unfold wp_X8_about_c101 at h
  have hw_0 := hts (.fieldLink RX8 147 "NumberSieves" "rows" "LNumberSieves$Rows;") (by decide +kernel)
  have hin_X8 : ∀ w ∈ wsX80, w ∈ wsX8_about := by decide +kernel
  have hin_X5 : ∀ w ∈ wsX50, w ∈ wsX8_about := by decide +kernel
  have hw_3 := hts (.fieldLink RX8 11 "NumberSieves" "sieved" "LNumberSieves$Span;") (by decide +kernel)
  have hin_X6 : ∀ w ∈ wsX60, w ∈ wsX8_about := by decide +kernel
  have hw_5 := hts (.fieldLink RX8 69 "NumberSieves" "parting" "LNumberSieves$Parting;") (by decide +kernel)
  refine lv_iload_n hx hb dX8_about_0 rfl (lv_at hl 1 rfl) ?_
  by_cases c_1 : p1 = (0 : Int32)
  · refine lv_tableIn (off := 27) (tgt := 28) hx hb dX8_about_1 (by rw [c_1]; decide) (by rw [c_1]; decide) (by rw [c_1]; rfl) (by decide) ?_
    replace h := h.1 c_1
    refine lv_aload_n hx hb dX8_about_28 rfl (lv_at hl 0 rfl) ?_
    refine va_get (D := (dC, dI)) (ci := 7) (v := .ref h_a0_rows) (C := RX8) (T := TX8) (N := 6) hx hb hts hin_X8 hown hK hP 0 rfl rfl 5 (by decide) hw_0 (fun _ h9 => h9) rfl dX8_about_29 ?_
    refine lv_ifnonnull (tgt := 39) hx hb dX8_about_32 (by decide) ?_
    refine lv_aload_n hx hb dX8_about_39 rfl (lv_at hl 0 rfl) ?_
    refine va_get (D := (dC, dI)) (ci := 7) (v := .ref h_a0_rows) (C := RX8) (T := TX8) (N := 6) hx hb hts hin_X8 hown hK hP 0 rfl rfl 5 (by decide) hw_0 (fun _ h9 => h9) rfl dX8_about_40 ?_
    refine va_getN (D := (dC, dI)) (ci := 5) (v := .int a0_rows_many) (C := RX5) (T := TX5) (N := 2) hx hb hts hin_X5 hown hK hP 7 rfl rfl 1 (by decide) (nw_10 hN) (fun _ h9 => h9) rfl dX8_about_43 ?_
    have hP9 := hP.sub (ws' := [(h_a0, .inr (7, [w_a0_primes, .ref h_a0_sieved, .null, w_a0_primeSums, w_a0_progression, .ref h_a0_rows])), (h_a0_sieved, .inr (6, [.ref q_a0_sieved_leasts, .ref q_a0_sieved_greatests, .ref q_a0_sieved_rests, .ref h_a0_sieved_squared, .long a0_sieved_from, .int a0_sieved_many, .int a0_sieved_primeCount, .int a0_sieved_gap, .int a0_sieved_twins, .int a0_sieved_squareFree])), (q_a0_sieved_leasts, .inl (cJ, 5000, .inr (.inl a0_sieved_leasts))), (q_a0_sieved_greatests, .inl (cJ, 5000, .inr (.inl a0_sieved_greatests))), (q_a0_sieved_rests, .inl (cJ, 5000, .inr (.inl a0_sieved_rests))), (h_a0_sieved_squared, .inr (0, [.ref q_a0_sieved_squared_words])), (q_a0_sieved_squared_words, .inl (cJ, 79, .inr (.inl a0_sieved_squared_words))), (h_a0_rows, .inr (5, [.ref q_a0_rows_values, .int a0_rows_many])), (q_a0_rows_values, .inl (cJ, 9600, .inr (.inl a0_rows_values)))]) [0, 1, 2, 3, 4, 5, 6, 7, 8] rfl
    have hD9 := hD.sub (ws' := [(h_a0, .inr (7, [w_a0_primes, .ref h_a0_sieved, .null, w_a0_primeSums, w_a0_progression, .ref h_a0_rows])), (h_a0_sieved, .inr (6, [.ref q_a0_sieved_leasts, .ref q_a0_sieved_greatests, .ref q_a0_sieved_rests, .ref h_a0_sieved_squared, .long a0_sieved_from, .int a0_sieved_many, .int a0_sieved_primeCount, .int a0_sieved_gap, .int a0_sieved_twins, .int a0_sieved_squareFree])), (q_a0_sieved_leasts, .inl (cJ, 5000, .inr (.inl a0_sieved_leasts))), (q_a0_sieved_greatests, .inl (cJ, 5000, .inr (.inl a0_sieved_greatests))), (q_a0_sieved_rests, .inl (cJ, 5000, .inr (.inl a0_sieved_rests))), (h_a0_sieved_squared, .inr (0, [.ref q_a0_sieved_squared_words])), (q_a0_sieved_squared_words, .inl (cJ, 79, .inr (.inl a0_sieved_squared_words))), (h_a0_rows, .inr (5, [.ref q_a0_rows_values, .int a0_rows_many])), (q_a0_rows_values, .inl (cJ, 9600, .inr (.inl a0_rows_values)))]) [0, 1, 2, 3, 4, 5, 6, 7, 8] (by decide) rfl
    exact W.iret (v := a0_rows_many) hx hb hr (fun t ht hW => ⟨⟨_, (), rfl, h, by rw [ht]; exact hP9, hD9⟩, hS.F ht⟩) hS.2.2 dX8_about_46
  by_cases c_2 : p1 = (1 : Int32)
  · refine lv_tableIn (off := 46) (tgt := 47) hx hb dX8_about_1 (by rw [c_2]; decide) (by rw [c_2]; decide) (by rw [c_2]; rfl) (by decide) ?_
    replace h := h.2.1 c_2
    refine lv_aload_n hx hb dX8_about_47 rfl (lv_at hl 0 rfl) ?_
    refine va_get (D := (dC, dI)) (ci := 7) (v := .ref h_a0_sieved) (C := RX8) (T := TX8) (N := 6) hx hb hts hin_X8 hown hK hP 0 rfl rfl 1 (by decide) hw_3 (fun _ h9 => h9) rfl dX8_about_48 ?_
    refine lv_ifnonnull (tgt := 58) hx hb dX8_about_51 (by decide) ?_
    refine lv_aload_n hx hb dX8_about_58 rfl (lv_at hl 0 rfl) ?_
    refine va_get (D := (dC, dI)) (ci := 7) (v := .ref h_a0_sieved) (C := RX8) (T := TX8) (N := 6) hx hb hts hin_X8 hown hK hP 0 rfl rfl 1 (by decide) hw_3 (fun _ h9 => h9) rfl dX8_about_59 ?_
    refine va_getN (D := (dC, dI)) (ci := 6) (v := .int a0_sieved_many) (C := RX6) (T := TX6) (N := 10) hx hb hts hin_X6 hown hK hP 1 rfl rfl 5 (by decide) (nw_0 hN) (fun _ h9 => h9) rfl dX8_about_62 ?_
    have hP9 := hP.sub (ws' := [(h_a0, .inr (7, [w_a0_primes, .ref h_a0_sieved, .null, w_a0_primeSums, w_a0_progression, .ref h_a0_rows])), (h_a0_sieved, .inr (6, [.ref q_a0_sieved_leasts, .ref q_a0_sieved_greatests, .ref q_a0_sieved_rests, .ref h_a0_sieved_squared, .long a0_sieved_from, .int a0_sieved_many, .int a0_sieved_primeCount, .int a0_sieved_gap, .int a0_sieved_twins, .int a0_sieved_squareFree])), (q_a0_sieved_leasts, .inl (cJ, 5000, .inr (.inl a0_sieved_leasts))), (q_a0_sieved_greatests, .inl (cJ, 5000, .inr (.inl a0_sieved_greatests))), (q_a0_sieved_rests, .inl (cJ, 5000, .inr (.inl a0_sieved_rests))), (h_a0_sieved_squared, .inr (0, [.ref q_a0_sieved_squared_words])), (q_a0_sieved_squared_words, .inl (cJ, 79, .inr (.inl a0_sieved_squared_words))), (h_a0_rows, .inr (5, [.ref q_a0_rows_values, .int a0_rows_many])), (q_a0_rows_values, .inl (cJ, 9600, .inr (.inl a0_rows_values)))]) [0, 1, 2, 3, 4, 5, 6, 7, 8] rfl
    have hD9 := hD.sub (ws' := [(h_a0, .inr (7, [w_a0_primes, .ref h_a0_sieved, .null, w_a0_primeSums, w_a0_progression, .ref h_a0_rows])), (h_a0_sieved, .inr (6, [.ref q_a0_sieved_leasts, .ref q_a0_sieved_greatests, .ref q_a0_sieved_rests, .ref h_a0_sieved_squared, .long a0_sieved_from, .int a0_sieved_many, .int a0_sieved_primeCount, .int a0_sieved_gap, .int a0_sieved_twins, .int a0_sieved_squareFree])), (q_a0_sieved_leasts, .inl (cJ, 5000, .inr (.inl a0_sieved_leasts))), (q_a0_sieved_greatests, .inl (cJ, 5000, .inr (.inl a0_sieved_greatests))), (q_a0_sieved_rests, .inl (cJ, 5000, .inr (.inl a0_sieved_rests))), (h_a0_sieved_squared, .inr (0, [.ref q_a0_sieved_squared_words])), (q_a0_sieved_squared_words, .inl (cJ, 79, .inr (.inl a0_sieved_squared_words))), (h_a0_rows, .inr (5, [.ref q_a0_rows_values, .int a0_rows_many])), (q_a0_rows_values, .inl (cJ, 9600, .inr (.inl a0_rows_values)))]) [0, 1, 2, 3, 4, 5, 6, 7, 8] (by decide) rfl
    exact W.iret (v := a0_sieved_many) hx hb hr (fun t ht hW => ⟨⟨_, (), rfl, h, by rw [ht]; exact hP9, hD9⟩, hS.F ht⟩) hS.2.2 dX8_about_65
  by_cases c_3 : p1 = (2 : Int32)
  · refine lv_tableIn (off := 65) (tgt := 66) hx hb dX8_about_1 (by rw [c_3]; decide) (by rw [c_3]; decide) (by rw [c_3]; rfl) (by decide) ?_
    replace h := h.2.2.1 c_3
    refine lv_aload_n hx hb dX8_about_66 rfl (lv_at hl 0 rfl) ?_
    refine va_get (D := (dC, dI)) (ci := 7) (v := .null) (C := RX8) (T := TX8) (N := 6) hx hb hts hin_X8 hown hK hP 0 rfl rfl 2 (by decide) hw_5 (fun _ h9 => h9) rfl dX8_about_67 ?_
    refine lv_ifnonnullN hx hb dX8_about_70 ?_
    refine lv_iconst (v := (-1 : Int32)) hx hb dX8_about_73 (by decide) ?_
    refine lv_goto (tgt := 84) hx hb dX8_about_74 (by decide) ?_
    have hP9 := hP.sub (ws' := [(h_a0, .inr (7, [w_a0_primes, .ref h_a0_sieved, .null, w_a0_primeSums, w_a0_progression, .ref h_a0_rows])), (h_a0_sieved, .inr (6, [.ref q_a0_sieved_leasts, .ref q_a0_sieved_greatests, .ref q_a0_sieved_rests, .ref h_a0_sieved_squared, .long a0_sieved_from, .int a0_sieved_many, .int a0_sieved_primeCount, .int a0_sieved_gap, .int a0_sieved_twins, .int a0_sieved_squareFree])), (q_a0_sieved_leasts, .inl (cJ, 5000, .inr (.inl a0_sieved_leasts))), (q_a0_sieved_greatests, .inl (cJ, 5000, .inr (.inl a0_sieved_greatests))), (q_a0_sieved_rests, .inl (cJ, 5000, .inr (.inl a0_sieved_rests))), (h_a0_sieved_squared, .inr (0, [.ref q_a0_sieved_squared_words])), (q_a0_sieved_squared_words, .inl (cJ, 79, .inr (.inl a0_sieved_squared_words))), (h_a0_rows, .inr (5, [.ref q_a0_rows_values, .int a0_rows_many])), (q_a0_rows_values, .inl (cJ, 9600, .inr (.inl a0_rows_values)))]) [0, 1, 2, 3, 4, 5, 6, 7, 8] rfl
    have hD9 := hD.sub (ws' := [(h_a0, .inr (7, [w_a0_primes, .ref h_a0_sieved, .null, w_a0_primeSums, w_a0_progression, .ref h_a0_rows])), (h_a0_sieved, .inr (6, [.ref q_a0_sieved_leasts, .ref q_a0_sieved_greatests, .ref q_a0_sieved_rests, .ref h_a0_sieved_squared, .long a0_sieved_from, .int a0_sieved_many, .int a0_sieved_primeCount, .int a0_sieved_gap, .int a0_sieved_twins, .int a0_sieved_squareFree])), (q_a0_sieved_leasts, .inl (cJ, 5000, .inr (.inl a0_sieved_leasts))), (q_a0_sieved_greatests, .inl (cJ, 5000, .inr (.inl a0_sieved_greatests))), (q_a0_sieved_rests, .inl (cJ, 5000, .inr (.inl a0_sieved_rests))), (h_a0_sieved_squared, .inr (0, [.ref q_a0_sieved_squared_words])), (q_a0_sieved_squared_words, .inl (cJ, 79, .inr (.inl a0_sieved_squared_words))), (h_a0_rows, .inr (5, [.ref q_a0_rows_values, .int a0_rows_many])), (q_a0_rows_values, .inl (cJ, 9600, .inr (.inl a0_rows_values)))]) [0, 1, 2, 3, 4, 5, 6, 7, 8] (by decide) rfl
    exact W.iret (v := (-1 : Int32)) hx hb hr (fun t ht hW => ⟨⟨_, (), rfl, h, by rw [ht]; exact hP9, hD9⟩, hS.F ht⟩) hS.2.2 dX8_about_84
  have t0 : p1.toInt ≠ 0 := fun q => c_1 (Int32.toInt_inj.mp (q.trans (by decide)))
  have t1 : p1.toInt ≠ 1 := fun q => c_2 (Int32.toInt_inj.mp (q.trans (by decide)))
  have t2 : p1.toInt ≠ 2 := fun q => c_3 (Int32.toInt_inj.mp (q.trans (by decide)))
  refine lv_tableOut (tgt := 85) hx hb dX8_about_1 (by omega) (by decide) ?_
  replace h := h.2.2.2 c_1 c_2 c_3
  refine lv_iconst (v := (-1 : Int32)) hx hb dX8_about_85 (by decide) ?_
  have hP9 := hP.sub (ws' := [(h_a0, .inr (7, [w_a0_primes, .ref h_a0_sieved, .null, w_a0_primeSums, w_a0_progression, .ref h_a0_rows])), (h_a0_sieved, .inr (6, [.ref q_a0_sieved_leasts, .ref q_a0_sieved_greatests, .ref q_a0_sieved_rests, .ref h_a0_sieved_squared, .long a0_sieved_from, .int a0_sieved_many, .int a0_sieved_primeCount, .int a0_sieved_gap, .int a0_sieved_twins, .int a0_sieved_squareFree])), (q_a0_sieved_leasts, .inl (cJ, 5000, .inr (.inl a0_sieved_leasts))), (q_a0_sieved_greatests, .inl (cJ, 5000, .inr (.inl a0_sieved_greatests))), (q_a0_sieved_rests, .inl (cJ, 5000, .inr (.inl a0_sieved_rests))), (h_a0_sieved_squared, .inr (0, [.ref q_a0_sieved_squared_words])), (q_a0_sieved_squared_words, .inl (cJ, 79, .inr (.inl a0_sieved_squared_words))), (h_a0_rows, .inr (5, [.ref q_a0_rows_values, .int a0_rows_many])), (q_a0_rows_values, .inl (cJ, 9600, .inr (.inl a0_rows_values)))]) [0, 1, 2, 3, 4, 5, 6, 7, 8] rfl
  have hD9 := hD.sub (ws' := [(h_a0, .inr (7, [w_a0_primes, .ref h_a0_sieved, .null, w_a0_primeSums, w_a0_progression, .ref h_a0_rows])), (h_a0_sieved, .inr (6, [.ref q_a0_sieved_leasts, .ref q_a0_sieved_greatests, .ref q_a0_sieved_rests, .ref h_a0_sieved_squared, .long a0_sieved_from, .int a0_sieved_many, .int a0_sieved_primeCount, .int a0_sieved_gap, .int a0_sieved_twins, .int a0_sieved_squareFree])), (q_a0_sieved_leasts, .inl (cJ, 5000, .inr (.inl a0_sieved_leasts))), (q_a0_sieved_greatests, .inl (cJ, 5000, .inr (.inl a0_sieved_greatests))), (q_a0_sieved_rests, .inl (cJ, 5000, .inr (.inl a0_sieved_rests))), (h_a0_sieved_squared, .inr (0, [.ref q_a0_sieved_squared_words])), (q_a0_sieved_squared_words, .inl (cJ, 79, .inr (.inl a0_sieved_squared_words))), (h_a0_rows, .inr (5, [.ref q_a0_rows_values, .int a0_rows_many])), (q_a0_rows_values, .inl (cJ, 9600, .inr (.inl a0_rows_values)))]) [0, 1, 2, 3, 4, 5, 6, 7, 8] (by decide) rfl
  exact W.iret (v := (-1 : Int32)) hx hb hr (fun t ht hW => ⟨⟨_, (), rfl, h, by rw [ht]; exact hP9, hD9⟩, hS.F ht⟩) hS.2.2 dX8_about_86
def wp_X8_about_c110 (a0_sieved_many : Int32) (a0_parting_many : Int32) (p1 : Int32) (Q : Int32 → Prop) : Prop :=
  ((p1 = (0 : Int32) → Q (0 : Int32)) ∧ (p1 = (1 : Int32) → Q a0_sieved_many) ∧ (p1 = (2 : Int32) → Q a0_parting_many) ∧ (¬ p1 = (0 : Int32) → ¬ p1 = (1 : Int32) → ¬ p1 = (2 : Int32) → Q (-1 : Int32)))
abbrev rm_X8_about_c110 : Room := { frames := 0, cells := 0, slots := 0, locals := 0 }
abbrev qc_X8_about_c110 (dC : Nat → ClassId) (dI : Nat → Nat → Nat) (cI cJ cZ : ClassId) (h_a0 : Nat) (w_a0_primes : Value) (h_a0_sieved : Nat) (a0_sieved_leasts : Nat → Int64) (q_a0_sieved_leasts : Nat) (a0_sieved_greatests : Nat → Int64) (q_a0_sieved_greatests : Nat) (a0_sieved_rests : Nat → Int64) (q_a0_sieved_rests : Nat) (h_a0_sieved_squared : Nat) (a0_sieved_squared_words : Nat → Int64) (q_a0_sieved_squared_words : Nat) (a0_sieved_from : Int64) (a0_sieved_many : Int32) (a0_sieved_primeCount : Int32) (a0_sieved_gap : Int32) (a0_sieved_twins : Int32) (a0_sieved_squareFree : Int32) (h_a0_parting : Nat) (a0_parting_factors : Nat → Int64) (q_a0_parting_factors : Nat) (a0_parting_powers : Nat → Int32) (q_a0_parting_powers : Nat) (a0_parting_number : Int64) (a0_parting_many : Int32) (w_a0_primeSums : Value) (w_a0_progression : Value) (Q : Int32 → Prop) (A : Nat → Prop) : Array Value → State → Outcome → State → Prop := va_Qi (fun (r : Int32) (_ : Unit) => Q r) (post_ dC dI A (fun (u : Unit) => ([(h_a0, .inr (7, [w_a0_primes, .ref h_a0_sieved, .ref h_a0_parting, w_a0_primeSums, w_a0_progression, .null])), (h_a0_sieved, .inr (6, [.ref q_a0_sieved_leasts, .ref q_a0_sieved_greatests, .ref q_a0_sieved_rests, .ref h_a0_sieved_squared, .long a0_sieved_from, .int a0_sieved_many, .int a0_sieved_primeCount, .int a0_sieved_gap, .int a0_sieved_twins, .int a0_sieved_squareFree])), (q_a0_sieved_leasts, .inl (cJ, 5000, .inr (.inl a0_sieved_leasts))), (q_a0_sieved_greatests, .inl (cJ, 5000, .inr (.inl a0_sieved_greatests))), (q_a0_sieved_rests, .inl (cJ, 5000, .inr (.inl a0_sieved_rests))), (h_a0_sieved_squared, .inr (0, [.ref q_a0_sieved_squared_words])), (q_a0_sieved_squared_words, .inl (cJ, 79, .inr (.inl a0_sieved_squared_words))), (h_a0_parting, .inr (1, [.ref q_a0_parting_factors, .ref q_a0_parting_powers, .long a0_parting_number, .int a0_parting_many])), (q_a0_parting_factors, .inl (cJ, 10, .inr (.inl a0_parting_factors))), (q_a0_parting_powers, .inl (cI, 10, .inl a0_parting_powers))] : va_W))) A
set_option maxHeartbeats 4000000 in
set_option maxRecDepth 100000 in
theorem c_X8_about_c110 (l : Launch) (dC : Nat → ClassId) (dI : Nat → Nat → Nat) (cI cJ cZ : ClassId) (sz : Nat) (h_a0 : Nat) (w_a0_primes : Value) (h_a0_sieved : Nat) (a0_sieved_leasts : Nat → Int64) (q_a0_sieved_leasts : Nat) (a0_sieved_greatests : Nat → Int64) (q_a0_sieved_greatests : Nat) (a0_sieved_rests : Nat → Int64) (q_a0_sieved_rests : Nat) (h_a0_sieved_squared : Nat) (a0_sieved_squared_words : Nat → Int64) (q_a0_sieved_squared_words : Nat) (a0_sieved_from : Int64) (a0_sieved_many : Int32) (a0_sieved_primeCount : Int32) (a0_sieved_gap : Int32) (a0_sieved_twins : Int32) (a0_sieved_squareFree : Int32) (h_a0_parting : Nat) (a0_parting_factors : Nat → Int64) (q_a0_parting_factors : Nat) (a0_parting_powers : Nat → Int32) (q_a0_parting_powers : Nat) (a0_parting_number : Int64) (a0_parting_many : Int32) (w_a0_primeSums : Value) (w_a0_progression : Value) (p1 : Int32) (Q : Int32 → Prop) (hQ : wp_X8_about_c110 a0_sieved_many a0_parting_many p1 Q) : Met l yX8_about wsX8_about rm_X8_about_c110 (pre_ dC dI cI cJ cZ [.ref h_a0, .int p1] [(h_a0, .inr (7, [w_a0_primes, .ref h_a0_sieved, .ref h_a0_parting, w_a0_primeSums, w_a0_progression, .null])), (h_a0_sieved, .inr (6, [.ref q_a0_sieved_leasts, .ref q_a0_sieved_greatests, .ref q_a0_sieved_rests, .ref h_a0_sieved_squared, .long a0_sieved_from, .int a0_sieved_many, .int a0_sieved_primeCount, .int a0_sieved_gap, .int a0_sieved_twins, .int a0_sieved_squareFree])), (q_a0_sieved_leasts, .inl (cJ, 5000, .inr (.inl a0_sieved_leasts))), (q_a0_sieved_greatests, .inl (cJ, 5000, .inr (.inl a0_sieved_greatests))), (q_a0_sieved_rests, .inl (cJ, 5000, .inr (.inl a0_sieved_rests))), (h_a0_sieved_squared, .inr (0, [.ref q_a0_sieved_squared_words])), (q_a0_sieved_squared_words, .inl (cJ, 79, .inr (.inl a0_sieved_squared_words))), (h_a0_parting, .inr (1, [.ref q_a0_parting_factors, .ref q_a0_parting_powers, .long a0_parting_number, .int a0_parting_many])), (q_a0_parting_factors, .inl (cJ, 10, .inr (.inl a0_parting_factors))), (q_a0_parting_powers, .inl (cI, 10, .inl a0_parting_powers))] sz) (qc_X8_about_c110 dC dI cI cJ cZ h_a0 w_a0_primes h_a0_sieved a0_sieved_leasts q_a0_sieved_leasts a0_sieved_greatests q_a0_sieved_greatests a0_sieved_rests q_a0_sieved_rests h_a0_sieved_squared a0_sieved_squared_words q_a0_sieved_squared_words a0_sieved_from a0_sieved_many a0_sieved_primeCount a0_sieved_gap a0_sieved_twins a0_sieved_squareFree h_a0_parting a0_parting_factors q_a0_parting_factors a0_parting_powers q_a0_parting_powers a0_parting_number a0_parting_many w_a0_primeSums w_a0_progression Q (va_A [(h_a0, .inr (7, [w_a0_primes, .ref h_a0_sieved, .ref h_a0_parting, w_a0_primeSums, w_a0_progression, .null])), (h_a0_sieved, .inr (6, [.ref q_a0_sieved_leasts, .ref q_a0_sieved_greatests, .ref q_a0_sieved_rests, .ref h_a0_sieved_squared, .long a0_sieved_from, .int a0_sieved_many, .int a0_sieved_primeCount, .int a0_sieved_gap, .int a0_sieved_twins, .int a0_sieved_squareFree])), (q_a0_sieved_leasts, .inl (cJ, 5000, .inr (.inl a0_sieved_leasts))), (q_a0_sieved_greatests, .inl (cJ, 5000, .inr (.inl a0_sieved_greatests))), (q_a0_sieved_rests, .inl (cJ, 5000, .inr (.inl a0_sieved_rests))), (h_a0_sieved_squared, .inr (0, [.ref q_a0_sieved_squared_words])), (q_a0_sieved_squared_words, .inl (cJ, 79, .inr (.inl a0_sieved_squared_words))), (h_a0_parting, .inr (1, [.ref q_a0_parting_factors, .ref q_a0_parting_powers, .long a0_parting_number, .int a0_parting_many])), (q_a0_parting_factors, .inl (cJ, 10, .inr (.inl a0_parting_factors))), (q_a0_parting_powers, .inl (cI, 10, .inl a0_parting_powers))] sz)) 0 0 (va_A [(h_a0, .inr (7, [w_a0_primes, .ref h_a0_sieved, .ref h_a0_parting, w_a0_primeSums, w_a0_progression, .null])), (h_a0_sieved, .inr (6, [.ref q_a0_sieved_leasts, .ref q_a0_sieved_greatests, .ref q_a0_sieved_rests, .ref h_a0_sieved_squared, .long a0_sieved_from, .int a0_sieved_many, .int a0_sieved_primeCount, .int a0_sieved_gap, .int a0_sieved_twins, .int a0_sieved_squareFree])), (q_a0_sieved_leasts, .inl (cJ, 5000, .inr (.inl a0_sieved_leasts))), (q_a0_sieved_greatests, .inl (cJ, 5000, .inr (.inl a0_sieved_greatests))), (q_a0_sieved_rests, .inl (cJ, 5000, .inr (.inl a0_sieved_rests))), (h_a0_sieved_squared, .inr (0, [.ref q_a0_sieved_squared_words])), (q_a0_sieved_squared_words, .inl (cJ, 79, .inr (.inl a0_sieved_squared_words))), (h_a0_parting, .inr (1, [.ref q_a0_parting_factors, .ref q_a0_parting_powers, .long a0_parting_number, .int a0_parting_many])), (q_a0_parting_factors, .inl (cJ, 10, .inr (.inl a0_parting_factors))), (q_a0_parting_powers, .inl (cI, 10, .inl a0_parting_powers))] sz) := by
  refine Met.ofW (cc := cX8_about) (maxL := 2) (ret := (some .int)) (by decide) rfl ?_
  intro p e s m args below meth c s₁ B hml hv
  obtain ⟨rfl, hsz, hP, hK, hN, hD0⟩ := hv
  have hx := B.exec
  have hb := B.bytes
  have hr := B.returns
  have hts := atoms_spec (ws := wsX8_about) B.pre
  have hown : s.vm.findClass RX8 = some m.cls := findClass_of_methodNamed B.named
  subst hsz
  have hD := hD0.self (sz := s.heap.size)
  generalize hAe : va_A [(h_a0, .inr (7, [w_a0_primes, .ref h_a0_sieved, .ref h_a0_parting, w_a0_primeSums, w_a0_progression, .null])), (h_a0_sieved, .inr (6, [.ref q_a0_sieved_leasts, .ref q_a0_sieved_greatests, .ref q_a0_sieved_rests, .ref h_a0_sieved_squared, .long a0_sieved_from, .int a0_sieved_many, .int a0_sieved_primeCount, .int a0_sieved_gap, .int a0_sieved_twins, .int a0_sieved_squareFree])), (q_a0_sieved_leasts, .inl (cJ, 5000, .inr (.inl a0_sieved_leasts))), (q_a0_sieved_greatests, .inl (cJ, 5000, .inr (.inl a0_sieved_greatests))), (q_a0_sieved_rests, .inl (cJ, 5000, .inr (.inl a0_sieved_rests))), (h_a0_sieved_squared, .inr (0, [.ref q_a0_sieved_squared_words])), (q_a0_sieved_squared_words, .inl (cJ, 79, .inr (.inl a0_sieved_squared_words))), (h_a0_parting, .inr (1, [.ref q_a0_parting_factors, .ref q_a0_parting_powers, .long a0_parting_number, .int a0_parting_many])), (q_a0_parting_factors, .inl (cJ, 10, .inr (.inl a0_parting_factors))), (q_a0_parting_powers, .inl (cI, 10, .inl a0_parting_powers))] s.heap.size = A at hD ⊢
  have hA : ∀ q : Nat, s.heap.size ≤ q → A q := fun q h => by rw [← hAe]; exact Or.inr h
  have hS : va_S A s.heap s.heap [] := va_S.rf
  have hl := lv_entry ([.ref h_a0, .int p1]) (n := 2) (Nat.le_of_ble_eq_true rfl)
  rw [lg_entry_eq]
  generalize (lg_sl ([.ref h_a0, .int p1]) ++ List.replicate (2 - (lg_sl ([.ref h_a0, .int p1])).length) Slot.unset).toArray = ls at hl ⊢
  have hl : lv_has ls 2 [(0, .ref h_a0), (1, .int p1)] := hl
  have h := hQ
  unfold wp_X8_about_c110 at h
  have hw_0 := hts (.fieldLink RX8 147 "NumberSieves" "rows" "LNumberSieves$Rows;") (by decide +kernel)
  have hin_X8 : ∀ w ∈ wsX80, w ∈ wsX8_about := by decide +kernel
  have hw_2 := hts (.fieldLink RX8 11 "NumberSieves" "sieved" "LNumberSieves$Span;") (by decide +kernel)
  have hin_X6 : ∀ w ∈ wsX60, w ∈ wsX8_about := by decide +kernel
  have hw_4 := hts (.fieldLink RX8 69 "NumberSieves" "parting" "LNumberSieves$Parting;") (by decide +kernel)
  have hin_X1 : ∀ w ∈ wsX10, w ∈ wsX8_about := by decide +kernel
  refine lv_iload_n hx hb dX8_about_0 rfl (lv_at hl 1 rfl) ?_
  by_cases c_1 : p1 = (0 : Int32)
  · refine lv_tableIn (off := 27) (tgt := 28) hx hb dX8_about_1 (by rw [c_1]; decide) (by rw [c_1]; decide) (by rw [c_1]; rfl) (by decide) ?_
    replace h := h.1 c_1
    refine lv_aload_n hx hb dX8_about_28 rfl (lv_at hl 0 rfl) ?_
    refine va_get (D := (dC, dI)) (ci := 7) (v := .null) (C := RX8) (T := TX8) (N := 6) hx hb hts hin_X8 hown hK hP 0 rfl rfl 5 (by decide) hw_0 (fun _ h9 => h9) rfl dX8_about_29 ?_
    refine lv_ifnonnullN hx hb dX8_about_32 ?_
    refine lv_iconst (v := (0 : Int32)) hx hb dX8_about_35 (by decide) ?_
    refine lv_goto (tgt := 46) hx hb dX8_about_36 (by decide) ?_
    have hP9 := hP.sub (ws' := [(h_a0, .inr (7, [w_a0_primes, .ref h_a0_sieved, .ref h_a0_parting, w_a0_primeSums, w_a0_progression, .null])), (h_a0_sieved, .inr (6, [.ref q_a0_sieved_leasts, .ref q_a0_sieved_greatests, .ref q_a0_sieved_rests, .ref h_a0_sieved_squared, .long a0_sieved_from, .int a0_sieved_many, .int a0_sieved_primeCount, .int a0_sieved_gap, .int a0_sieved_twins, .int a0_sieved_squareFree])), (q_a0_sieved_leasts, .inl (cJ, 5000, .inr (.inl a0_sieved_leasts))), (q_a0_sieved_greatests, .inl (cJ, 5000, .inr (.inl a0_sieved_greatests))), (q_a0_sieved_rests, .inl (cJ, 5000, .inr (.inl a0_sieved_rests))), (h_a0_sieved_squared, .inr (0, [.ref q_a0_sieved_squared_words])), (q_a0_sieved_squared_words, .inl (cJ, 79, .inr (.inl a0_sieved_squared_words))), (h_a0_parting, .inr (1, [.ref q_a0_parting_factors, .ref q_a0_parting_powers, .long a0_parting_number, .int a0_parting_many])), (q_a0_parting_factors, .inl (cJ, 10, .inr (.inl a0_parting_factors))), (q_a0_parting_powers, .inl (cI, 10, .inl a0_parting_powers))]) [0, 1, 2, 3, 4, 5, 6, 7, 8, 9] rfl
    have hD9 := hD.sub (ws' := [(h_a0, .inr (7, [w_a0_primes, .ref h_a0_sieved, .ref h_a0_parting, w_a0_primeSums, w_a0_progression, .null])), (h_a0_sieved, .inr (6, [.ref q_a0_sieved_leasts, .ref q_a0_sieved_greatests, .ref q_a0_sieved_rests, .ref h_a0_sieved_squared, .long a0_sieved_from, .int a0_sieved_many, .int a0_sieved_primeCount, .int a0_sieved_gap, .int a0_sieved_twins, .int a0_sieved_squareFree])), (q_a0_sieved_leasts, .inl (cJ, 5000, .inr (.inl a0_sieved_leasts))), (q_a0_sieved_greatests, .inl (cJ, 5000, .inr (.inl a0_sieved_greatests))), (q_a0_sieved_rests, .inl (cJ, 5000, .inr (.inl a0_sieved_rests))), (h_a0_sieved_squared, .inr (0, [.ref q_a0_sieved_squared_words])), (q_a0_sieved_squared_words, .inl (cJ, 79, .inr (.inl a0_sieved_squared_words))), (h_a0_parting, .inr (1, [.ref q_a0_parting_factors, .ref q_a0_parting_powers, .long a0_parting_number, .int a0_parting_many])), (q_a0_parting_factors, .inl (cJ, 10, .inr (.inl a0_parting_factors))), (q_a0_parting_powers, .inl (cI, 10, .inl a0_parting_powers))]) [0, 1, 2, 3, 4, 5, 6, 7, 8, 9] (by decide) rfl
    exact W.iret (v := (0 : Int32)) hx hb hr (fun t ht hW => ⟨⟨_, (), rfl, h, by rw [ht]; exact hP9, hD9⟩, hS.F ht⟩) hS.2.2 dX8_about_46
  by_cases c_2 : p1 = (1 : Int32)
  · refine lv_tableIn (off := 46) (tgt := 47) hx hb dX8_about_1 (by rw [c_2]; decide) (by rw [c_2]; decide) (by rw [c_2]; rfl) (by decide) ?_
    replace h := h.2.1 c_2
    refine lv_aload_n hx hb dX8_about_47 rfl (lv_at hl 0 rfl) ?_
    refine va_get (D := (dC, dI)) (ci := 7) (v := .ref h_a0_sieved) (C := RX8) (T := TX8) (N := 6) hx hb hts hin_X8 hown hK hP 0 rfl rfl 1 (by decide) hw_2 (fun _ h9 => h9) rfl dX8_about_48 ?_
    refine lv_ifnonnull (tgt := 58) hx hb dX8_about_51 (by decide) ?_
    refine lv_aload_n hx hb dX8_about_58 rfl (lv_at hl 0 rfl) ?_
    refine va_get (D := (dC, dI)) (ci := 7) (v := .ref h_a0_sieved) (C := RX8) (T := TX8) (N := 6) hx hb hts hin_X8 hown hK hP 0 rfl rfl 1 (by decide) hw_2 (fun _ h9 => h9) rfl dX8_about_59 ?_
    refine va_getN (D := (dC, dI)) (ci := 6) (v := .int a0_sieved_many) (C := RX6) (T := TX6) (N := 10) hx hb hts hin_X6 hown hK hP 1 rfl rfl 5 (by decide) (nw_0 hN) (fun _ h9 => h9) rfl dX8_about_62 ?_
    have hP9 := hP.sub (ws' := [(h_a0, .inr (7, [w_a0_primes, .ref h_a0_sieved, .ref h_a0_parting, w_a0_primeSums, w_a0_progression, .null])), (h_a0_sieved, .inr (6, [.ref q_a0_sieved_leasts, .ref q_a0_sieved_greatests, .ref q_a0_sieved_rests, .ref h_a0_sieved_squared, .long a0_sieved_from, .int a0_sieved_many, .int a0_sieved_primeCount, .int a0_sieved_gap, .int a0_sieved_twins, .int a0_sieved_squareFree])), (q_a0_sieved_leasts, .inl (cJ, 5000, .inr (.inl a0_sieved_leasts))), (q_a0_sieved_greatests, .inl (cJ, 5000, .inr (.inl a0_sieved_greatests))), (q_a0_sieved_rests, .inl (cJ, 5000, .inr (.inl a0_sieved_rests))), (h_a0_sieved_squared, .inr (0, [.ref q_a0_sieved_squared_words])), (q_a0_sieved_squared_words, .inl (cJ, 79, .inr (.inl a0_sieved_squared_words))), (h_a0_parting, .inr (1, [.ref q_a0_parting_factors, .ref q_a0_parting_powers, .long a0_parting_number, .int a0_parting_many])), (q_a0_parting_factors, .inl (cJ, 10, .inr (.inl a0_parting_factors))), (q_a0_parting_powers, .inl (cI, 10, .inl a0_parting_powers))]) [0, 1, 2, 3, 4, 5, 6, 7, 8, 9] rfl
    have hD9 := hD.sub (ws' := [(h_a0, .inr (7, [w_a0_primes, .ref h_a0_sieved, .ref h_a0_parting, w_a0_primeSums, w_a0_progression, .null])), (h_a0_sieved, .inr (6, [.ref q_a0_sieved_leasts, .ref q_a0_sieved_greatests, .ref q_a0_sieved_rests, .ref h_a0_sieved_squared, .long a0_sieved_from, .int a0_sieved_many, .int a0_sieved_primeCount, .int a0_sieved_gap, .int a0_sieved_twins, .int a0_sieved_squareFree])), (q_a0_sieved_leasts, .inl (cJ, 5000, .inr (.inl a0_sieved_leasts))), (q_a0_sieved_greatests, .inl (cJ, 5000, .inr (.inl a0_sieved_greatests))), (q_a0_sieved_rests, .inl (cJ, 5000, .inr (.inl a0_sieved_rests))), (h_a0_sieved_squared, .inr (0, [.ref q_a0_sieved_squared_words])), (q_a0_sieved_squared_words, .inl (cJ, 79, .inr (.inl a0_sieved_squared_words))), (h_a0_parting, .inr (1, [.ref q_a0_parting_factors, .ref q_a0_parting_powers, .long a0_parting_number, .int a0_parting_many])), (q_a0_parting_factors, .inl (cJ, 10, .inr (.inl a0_parting_factors))), (q_a0_parting_powers, .inl (cI, 10, .inl a0_parting_powers))]) [0, 1, 2, 3, 4, 5, 6, 7, 8, 9] (by decide) rfl
    exact W.iret (v := a0_sieved_many) hx hb hr (fun t ht hW => ⟨⟨_, (), rfl, h, by rw [ht]; exact hP9, hD9⟩, hS.F ht⟩) hS.2.2 dX8_about_65
  by_cases c_3 : p1 = (2 : Int32)
  · refine lv_tableIn (off := 65) (tgt := 66) hx hb dX8_about_1 (by rw [c_3]; decide) (by rw [c_3]; decide) (by rw [c_3]; rfl) (by decide) ?_
    replace h := h.2.2.1 c_3
    refine lv_aload_n hx hb dX8_about_66 rfl (lv_at hl 0 rfl) ?_
    refine va_get (D := (dC, dI)) (ci := 7) (v := .ref h_a0_parting) (C := RX8) (T := TX8) (N := 6) hx hb hts hin_X8 hown hK hP 0 rfl rfl 2 (by decide) hw_4 (fun _ h9 => h9) rfl dX8_about_67 ?_
    refine lv_ifnonnull (tgt := 77) hx hb dX8_about_70 (by decide) ?_
    refine lv_aload_n hx hb dX8_about_77 rfl (lv_at hl 0 rfl) ?_
    refine va_get (D := (dC, dI)) (ci := 7) (v := .ref h_a0_parting) (C := RX8) (T := TX8) (N := 6) hx hb hts hin_X8 hown hK hP 0 rfl rfl 2 (by decide) hw_4 (fun _ h9 => h9) rfl dX8_about_78 ?_
    refine va_getN (D := (dC, dI)) (ci := 1) (v := .int a0_parting_many) (C := RX1) (T := TX1) (N := 4) hx hb hts hin_X1 hown hK hP 7 rfl rfl 3 (by decide) (nw_9 hN) (fun _ h9 => h9) rfl dX8_about_81 ?_
    have hP9 := hP.sub (ws' := [(h_a0, .inr (7, [w_a0_primes, .ref h_a0_sieved, .ref h_a0_parting, w_a0_primeSums, w_a0_progression, .null])), (h_a0_sieved, .inr (6, [.ref q_a0_sieved_leasts, .ref q_a0_sieved_greatests, .ref q_a0_sieved_rests, .ref h_a0_sieved_squared, .long a0_sieved_from, .int a0_sieved_many, .int a0_sieved_primeCount, .int a0_sieved_gap, .int a0_sieved_twins, .int a0_sieved_squareFree])), (q_a0_sieved_leasts, .inl (cJ, 5000, .inr (.inl a0_sieved_leasts))), (q_a0_sieved_greatests, .inl (cJ, 5000, .inr (.inl a0_sieved_greatests))), (q_a0_sieved_rests, .inl (cJ, 5000, .inr (.inl a0_sieved_rests))), (h_a0_sieved_squared, .inr (0, [.ref q_a0_sieved_squared_words])), (q_a0_sieved_squared_words, .inl (cJ, 79, .inr (.inl a0_sieved_squared_words))), (h_a0_parting, .inr (1, [.ref q_a0_parting_factors, .ref q_a0_parting_powers, .long a0_parting_number, .int a0_parting_many])), (q_a0_parting_factors, .inl (cJ, 10, .inr (.inl a0_parting_factors))), (q_a0_parting_powers, .inl (cI, 10, .inl a0_parting_powers))]) [0, 1, 2, 3, 4, 5, 6, 7, 8, 9] rfl
    have hD9 := hD.sub (ws' := [(h_a0, .inr (7, [w_a0_primes, .ref h_a0_sieved, .ref h_a0_parting, w_a0_primeSums, w_a0_progression, .null])), (h_a0_sieved, .inr (6, [.ref q_a0_sieved_leasts, .ref q_a0_sieved_greatests, .ref q_a0_sieved_rests, .ref h_a0_sieved_squared, .long a0_sieved_from, .int a0_sieved_many, .int a0_sieved_primeCount, .int a0_sieved_gap, .int a0_sieved_twins, .int a0_sieved_squareFree])), (q_a0_sieved_leasts, .inl (cJ, 5000, .inr (.inl a0_sieved_leasts))), (q_a0_sieved_greatests, .inl (cJ, 5000, .inr (.inl a0_sieved_greatests))), (q_a0_sieved_rests, .inl (cJ, 5000, .inr (.inl a0_sieved_rests))), (h_a0_sieved_squared, .inr (0, [.ref q_a0_sieved_squared_words])), (q_a0_sieved_squared_words, .inl (cJ, 79, .inr (.inl a0_sieved_squared_words))), (h_a0_parting, .inr (1, [.ref q_a0_parting_factors, .ref q_a0_parting_powers, .long a0_parting_number, .int a0_parting_many])), (q_a0_parting_factors, .inl (cJ, 10, .inr (.inl a0_parting_factors))), (q_a0_parting_powers, .inl (cI, 10, .inl a0_parting_powers))]) [0, 1, 2, 3, 4, 5, 6, 7, 8, 9] (by decide) rfl
    exact W.iret (v := a0_parting_many) hx hb hr (fun t ht hW => ⟨⟨_, (), rfl, h, by rw [ht]; exact hP9, hD9⟩, hS.F ht⟩) hS.2.2 dX8_about_84
  have t0 : p1.toInt ≠ 0 := fun q => c_1 (Int32.toInt_inj.mp (q.trans (by decide)))
  have t1 : p1.toInt ≠ 1 := fun q => c_2 (Int32.toInt_inj.mp (q.trans (by decide)))
  have t2 : p1.toInt ≠ 2 := fun q => c_3 (Int32.toInt_inj.mp (q.trans (by decide)))
  refine lv_tableOut (tgt := 85) hx hb dX8_about_1 (by omega) (by decide) ?_
  replace h := h.2.2.2 c_1 c_2 c_3
  refine lv_iconst (v := (-1 : Int32)) hx hb dX8_about_85 (by decide) ?_
  have hP9 := hP.sub (ws' := [(h_a0, .inr (7, [w_a0_primes, .ref h_a0_sieved, .ref h_a0_parting, w_a0_primeSums, w_a0_progression, .null])), (h_a0_sieved, .inr (6, [.ref q_a0_sieved_leasts, .ref q_a0_sieved_greatests, .ref q_a0_sieved_rests, .ref h_a0_sieved_squared, .long a0_sieved_from, .int a0_sieved_many, .int a0_sieved_primeCount, .int a0_sieved_gap, .int a0_sieved_twins, .int a0_sieved_squareFree])), (q_a0_sieved_leasts, .inl (cJ, 5000, .inr (.inl a0_sieved_leasts))), (q_a0_sieved_greatests, .inl (cJ, 5000, .inr (.inl a0_sieved_greatests))), (q_a0_sieved_rests, .inl (cJ, 5000, .inr (.inl a0_sieved_rests))), (h_a0_sieved_squared, .inr (0, [.ref q_a0_sieved_squared_words])), (q_a0_sieved_squared_words, .inl (cJ, 79, .inr (.inl a0_sieved_squared_words))), (h_a0_parting, .inr (1, [.ref q_a0_parting_factors, .ref q_a0_parting_powers, .long a0_parting_number, .int a0_parting_many])), (q_a0_parting_factors, .inl (cJ, 10, .inr (.inl a0_parting_factors))), (q_a0_parting_powers, .inl (cI, 10, .inl a0_parting_powers))]) [0, 1, 2, 3, 4, 5, 6, 7, 8, 9] rfl
  have hD9 := hD.sub (ws' := [(h_a0, .inr (7, [w_a0_primes, .ref h_a0_sieved, .ref h_a0_parting, w_a0_primeSums, w_a0_progression, .null])), (h_a0_sieved, .inr (6, [.ref q_a0_sieved_leasts, .ref q_a0_sieved_greatests, .ref q_a0_sieved_rests, .ref h_a0_sieved_squared, .long a0_sieved_from, .int a0_sieved_many, .int a0_sieved_primeCount, .int a0_sieved_gap, .int a0_sieved_twins, .int a0_sieved_squareFree])), (q_a0_sieved_leasts, .inl (cJ, 5000, .inr (.inl a0_sieved_leasts))), (q_a0_sieved_greatests, .inl (cJ, 5000, .inr (.inl a0_sieved_greatests))), (q_a0_sieved_rests, .inl (cJ, 5000, .inr (.inl a0_sieved_rests))), (h_a0_sieved_squared, .inr (0, [.ref q_a0_sieved_squared_words])), (q_a0_sieved_squared_words, .inl (cJ, 79, .inr (.inl a0_sieved_squared_words))), (h_a0_parting, .inr (1, [.ref q_a0_parting_factors, .ref q_a0_parting_powers, .long a0_parting_number, .int a0_parting_many])), (q_a0_parting_factors, .inl (cJ, 10, .inr (.inl a0_parting_factors))), (q_a0_parting_powers, .inl (cI, 10, .inl a0_parting_powers))]) [0, 1, 2, 3, 4, 5, 6, 7, 8, 9] (by decide) rfl
  exact W.iret (v := (-1 : Int32)) hx hb hr (fun t ht hW => ⟨⟨_, (), rfl, h, by rw [ht]; exact hP9, hD9⟩, hS.F ht⟩) hS.2.2 dX8_about_86
def wp_X8_about_c111 (a0_sieved_many : Int32) (a0_parting_many : Int32) (a0_rows_many : Int32) (p1 : Int32) (Q : Int32 → Prop) : Prop :=
  ((p1 = (0 : Int32) → Q a0_rows_many) ∧ (p1 = (1 : Int32) → Q a0_sieved_many) ∧ (p1 = (2 : Int32) → Q a0_parting_many) ∧ (¬ p1 = (0 : Int32) → ¬ p1 = (1 : Int32) → ¬ p1 = (2 : Int32) → Q (-1 : Int32)))
abbrev rm_X8_about_c111 : Room := { frames := 0, cells := 0, slots := 0, locals := 0 }
abbrev qc_X8_about_c111 (dC : Nat → ClassId) (dI : Nat → Nat → Nat) (cI cJ cZ : ClassId) (h_a0 : Nat) (w_a0_primes : Value) (h_a0_sieved : Nat) (a0_sieved_leasts : Nat → Int64) (q_a0_sieved_leasts : Nat) (a0_sieved_greatests : Nat → Int64) (q_a0_sieved_greatests : Nat) (a0_sieved_rests : Nat → Int64) (q_a0_sieved_rests : Nat) (h_a0_sieved_squared : Nat) (a0_sieved_squared_words : Nat → Int64) (q_a0_sieved_squared_words : Nat) (a0_sieved_from : Int64) (a0_sieved_many : Int32) (a0_sieved_primeCount : Int32) (a0_sieved_gap : Int32) (a0_sieved_twins : Int32) (a0_sieved_squareFree : Int32) (h_a0_parting : Nat) (a0_parting_factors : Nat → Int64) (q_a0_parting_factors : Nat) (a0_parting_powers : Nat → Int32) (q_a0_parting_powers : Nat) (a0_parting_number : Int64) (a0_parting_many : Int32) (w_a0_primeSums : Value) (w_a0_progression : Value) (h_a0_rows : Nat) (a0_rows_values : Nat → Int64) (q_a0_rows_values : Nat) (a0_rows_many : Int32) (Q : Int32 → Prop) (A : Nat → Prop) : Array Value → State → Outcome → State → Prop := va_Qi (fun (r : Int32) (_ : Unit) => Q r) (post_ dC dI A (fun (u : Unit) => ([(h_a0, .inr (7, [w_a0_primes, .ref h_a0_sieved, .ref h_a0_parting, w_a0_primeSums, w_a0_progression, .ref h_a0_rows])), (h_a0_sieved, .inr (6, [.ref q_a0_sieved_leasts, .ref q_a0_sieved_greatests, .ref q_a0_sieved_rests, .ref h_a0_sieved_squared, .long a0_sieved_from, .int a0_sieved_many, .int a0_sieved_primeCount, .int a0_sieved_gap, .int a0_sieved_twins, .int a0_sieved_squareFree])), (q_a0_sieved_leasts, .inl (cJ, 5000, .inr (.inl a0_sieved_leasts))), (q_a0_sieved_greatests, .inl (cJ, 5000, .inr (.inl a0_sieved_greatests))), (q_a0_sieved_rests, .inl (cJ, 5000, .inr (.inl a0_sieved_rests))), (h_a0_sieved_squared, .inr (0, [.ref q_a0_sieved_squared_words])), (q_a0_sieved_squared_words, .inl (cJ, 79, .inr (.inl a0_sieved_squared_words))), (h_a0_parting, .inr (1, [.ref q_a0_parting_factors, .ref q_a0_parting_powers, .long a0_parting_number, .int a0_parting_many])), (q_a0_parting_factors, .inl (cJ, 10, .inr (.inl a0_parting_factors))), (q_a0_parting_powers, .inl (cI, 10, .inl a0_parting_powers)), (h_a0_rows, .inr (5, [.ref q_a0_rows_values, .int a0_rows_many])), (q_a0_rows_values, .inl (cJ, 9600, .inr (.inl a0_rows_values)))] : va_W))) A
set_option maxHeartbeats 4000000 in
set_option maxRecDepth 100000 in
theorem c_X8_about_c111 (l : Launch) (dC : Nat → ClassId) (dI : Nat → Nat → Nat) (cI cJ cZ : ClassId) (sz : Nat) (h_a0 : Nat) (w_a0_primes : Value) (h_a0_sieved : Nat) (a0_sieved_leasts : Nat → Int64) (q_a0_sieved_leasts : Nat) (a0_sieved_greatests : Nat → Int64) (q_a0_sieved_greatests : Nat) (a0_sieved_rests : Nat → Int64) (q_a0_sieved_rests : Nat) (h_a0_sieved_squared : Nat) (a0_sieved_squared_words : Nat → Int64) (q_a0_sieved_squared_words : Nat) (a0_sieved_from : Int64) (a0_sieved_many : Int32) (a0_sieved_primeCount : Int32) (a0_sieved_gap : Int32) (a0_sieved_twins : Int32) (a0_sieved_squareFree : Int32) (h_a0_parting : Nat) (a0_parting_factors : Nat → Int64) (q_a0_parting_factors : Nat) (a0_parting_powers : Nat → Int32) (q_a0_parting_powers : Nat) (a0_parting_number : Int64) (a0_parting_many : Int32) (w_a0_primeSums : Value) (w_a0_progression : Value) (h_a0_rows : Nat) (a0_rows_values : Nat → Int64) (q_a0_rows_values : Nat) (a0_rows_many : Int32) (p1 : Int32) (Q : Int32 → Prop) (hQ : wp_X8_about_c111 a0_sieved_many a0_parting_many a0_rows_many p1 Q) : Met l yX8_about wsX8_about rm_X8_about_c111 (pre_ dC dI cI cJ cZ [.ref h_a0, .int p1] [(h_a0, .inr (7, [w_a0_primes, .ref h_a0_sieved, .ref h_a0_parting, w_a0_primeSums, w_a0_progression, .ref h_a0_rows])), (h_a0_sieved, .inr (6, [.ref q_a0_sieved_leasts, .ref q_a0_sieved_greatests, .ref q_a0_sieved_rests, .ref h_a0_sieved_squared, .long a0_sieved_from, .int a0_sieved_many, .int a0_sieved_primeCount, .int a0_sieved_gap, .int a0_sieved_twins, .int a0_sieved_squareFree])), (q_a0_sieved_leasts, .inl (cJ, 5000, .inr (.inl a0_sieved_leasts))), (q_a0_sieved_greatests, .inl (cJ, 5000, .inr (.inl a0_sieved_greatests))), (q_a0_sieved_rests, .inl (cJ, 5000, .inr (.inl a0_sieved_rests))), (h_a0_sieved_squared, .inr (0, [.ref q_a0_sieved_squared_words])), (q_a0_sieved_squared_words, .inl (cJ, 79, .inr (.inl a0_sieved_squared_words))), (h_a0_parting, .inr (1, [.ref q_a0_parting_factors, .ref q_a0_parting_powers, .long a0_parting_number, .int a0_parting_many])), (q_a0_parting_factors, .inl (cJ, 10, .inr (.inl a0_parting_factors))), (q_a0_parting_powers, .inl (cI, 10, .inl a0_parting_powers)), (h_a0_rows, .inr (5, [.ref q_a0_rows_values, .int a0_rows_many])), (q_a0_rows_values, .inl (cJ, 9600, .inr (.inl a0_rows_values)))] sz) (qc_X8_about_c111 dC dI cI cJ cZ h_a0 w_a0_primes h_a0_sieved a0_sieved_leasts q_a0_sieved_leasts a0_sieved_greatests q_a0_sieved_greatests a0_sieved_rests q_a0_sieved_rests h_a0_sieved_squared a0_sieved_squared_words q_a0_sieved_squared_words a0_sieved_from a0_sieved_many a0_sieved_primeCount a0_sieved_gap a0_sieved_twins a0_sieved_squareFree h_a0_parting a0_parting_factors q_a0_parting_factors a0_parting_powers q_a0_parting_powers a0_parting_number a0_parting_many w_a0_primeSums w_a0_progression h_a0_rows a0_rows_values q_a0_rows_values a0_rows_many Q (va_A [(h_a0, .inr (7, [w_a0_primes, .ref h_a0_sieved, .ref h_a0_parting, w_a0_primeSums, w_a0_progression, .ref h_a0_rows])), (h_a0_sieved, .inr (6, [.ref q_a0_sieved_leasts, .ref q_a0_sieved_greatests, .ref q_a0_sieved_rests, .ref h_a0_sieved_squared, .long a0_sieved_from, .int a0_sieved_many, .int a0_sieved_primeCount, .int a0_sieved_gap, .int a0_sieved_twins, .int a0_sieved_squareFree])), (q_a0_sieved_leasts, .inl (cJ, 5000, .inr (.inl a0_sieved_leasts))), (q_a0_sieved_greatests, .inl (cJ, 5000, .inr (.inl a0_sieved_greatests))), (q_a0_sieved_rests, .inl (cJ, 5000, .inr (.inl a0_sieved_rests))), (h_a0_sieved_squared, .inr (0, [.ref q_a0_sieved_squared_words])), (q_a0_sieved_squared_words, .inl (cJ, 79, .inr (.inl a0_sieved_squared_words))), (h_a0_parting, .inr (1, [.ref q_a0_parting_factors, .ref q_a0_parting_powers, .long a0_parting_number, .int a0_parting_many])), (q_a0_parting_factors, .inl (cJ, 10, .inr (.inl a0_parting_factors))), (q_a0_parting_powers, .inl (cI, 10, .inl a0_parting_powers)), (h_a0_rows, .inr (5, [.ref q_a0_rows_values, .int a0_rows_many])), (q_a0_rows_values, .inl (cJ, 9600, .inr (.inl a0_rows_values)))] sz)) 0 0 (va_A [(h_a0, .inr (7, [w_a0_primes, .ref h_a0_sieved, .ref h_a0_parting, w_a0_primeSums, w_a0_progression, .ref h_a0_rows])), (h_a0_sieved, .inr (6, [.ref q_a0_sieved_leasts, .ref q_a0_sieved_greatests, .ref q_a0_sieved_rests, .ref h_a0_sieved_squared, .long a0_sieved_from, .int a0_sieved_many, .int a0_sieved_primeCount, .int a0_sieved_gap, .int a0_sieved_twins, .int a0_sieved_squareFree])), (q_a0_sieved_leasts, .inl (cJ, 5000, .inr (.inl a0_sieved_leasts))), (q_a0_sieved_greatests, .inl (cJ, 5000, .inr (.inl a0_sieved_greatests))), (q_a0_sieved_rests, .inl (cJ, 5000, .inr (.inl a0_sieved_rests))), (h_a0_sieved_squared, .inr (0, [.ref q_a0_sieved_squared_words])), (q_a0_sieved_squared_words, .inl (cJ, 79, .inr (.inl a0_sieved_squared_words))), (h_a0_parting, .inr (1, [.ref q_a0_parting_factors, .ref q_a0_parting_powers, .long a0_parting_number, .int a0_parting_many])), (q_a0_parting_factors, .inl (cJ, 10, .inr (.inl a0_parting_factors))), (q_a0_parting_powers, .inl (cI, 10, .inl a0_parting_powers)), (h_a0_rows, .inr (5, [.ref q_a0_rows_values, .int a0_rows_many])), (q_a0_rows_values, .inl (cJ, 9600, .inr (.inl a0_rows_values)))] sz) := by
  refine Met.ofW (cc := cX8_about) (maxL := 2) (ret := (some .int)) (by decide) rfl ?_
  intro p e s m args below meth c s₁ B hml hv
  obtain ⟨rfl, hsz, hP, hK, hN, hD0⟩ := hv
  have hx := B.exec
  have hb := B.bytes
  have hr := B.returns
  have hts := atoms_spec (ws := wsX8_about) B.pre
  have hown : s.vm.findClass RX8 = some m.cls := findClass_of_methodNamed B.named
  subst hsz
  have hD := hD0.self (sz := s.heap.size)
  generalize hAe : va_A [(h_a0, .inr (7, [w_a0_primes, .ref h_a0_sieved, .ref h_a0_parting, w_a0_primeSums, w_a0_progression, .ref h_a0_rows])), (h_a0_sieved, .inr (6, [.ref q_a0_sieved_leasts, .ref q_a0_sieved_greatests, .ref q_a0_sieved_rests, .ref h_a0_sieved_squared, .long a0_sieved_from, .int a0_sieved_many, .int a0_sieved_primeCount, .int a0_sieved_gap, .int a0_sieved_twins, .int a0_sieved_squareFree])), (q_a0_sieved_leasts, .inl (cJ, 5000, .inr (.inl a0_sieved_leasts))), (q_a0_sieved_greatests, .inl (cJ, 5000, .inr (.inl a0_sieved_greatests))), (q_a0_sieved_rests, .inl (cJ, 5000, .inr (.inl a0_sieved_rests))), (h_a0_sieved_squared, .inr (0, [.ref q_a0_sieved_squared_words])), (q_a0_sieved_squared_words, .inl (cJ, 79, .inr (.inl a0_sieved_squared_words))), (h_a0_parting, .inr (1, [.ref q_a0_parting_factors, .ref q_a0_parting_powers, .long a0_parting_number, .int a0_parting_many])), (q_a0_parting_factors, .inl (cJ, 10, .inr (.inl a0_parting_factors))), (q_a0_parting_powers, .inl (cI, 10, .inl a0_parting_powers)), (h_a0_rows, .inr (5, [.ref q_a0_rows_values, .int a0_rows_many])), (q_a0_rows_values, .inl (cJ, 9600, .inr (.inl a0_rows_values)))] s.heap.size = A at hD ⊢
  have hA : ∀ q : Nat, s.heap.size ≤ q → A q := fun q h => by rw [← hAe]; exact Or.inr h
  have hS : va_S A s.heap s.heap [] := va_S.rf
  have hl := lv_entry ([.ref h_a0, .int p1]) (n := 2) (Nat.le_of_ble_eq_true rfl)
  rw [lg_entry_eq]
  generalize (lg_sl ([.ref h_a0, .int p1]) ++ List.replicate (2 - (lg_sl ([.ref h_a0, .int p1])).length) Slot.unset).toArray = ls at hl ⊢
  have hl : lv_has ls 2 [(0, .ref h_a0), (1, .int p1)] := hl
  have h := hQ
  unfold wp_X8_about_c111 at h
  have hw_0 := hts (.fieldLink RX8 147 "NumberSieves" "rows" "LNumberSieves$Rows;") (by decide +kernel)
  have hin_X8 : ∀ w ∈ wsX80, w ∈ wsX8_about := by decide +kernel
  have hin_X5 : ∀ w ∈ wsX50, w ∈ wsX8_about := by decide +kernel
  have hw_3 := hts (.fieldLink RX8 11 "NumberSieves" "sieved" "LNumberSieves$Span;") (by decide +kernel)
  have hin_X6 : ∀ w ∈ wsX60, w ∈ wsX8_about := by decide +kernel
  have hw_5 := hts (.fieldLink RX8 69 "NumberSieves" "parting" "LNumberSieves$Parting;") (by decide +kernel)
  have hin_X1 : ∀ w ∈ wsX10, w ∈ wsX8_about := by decide +kernel
  refine lv_iload_n hx hb dX8_about_0 rfl (lv_at hl 1 rfl) ?_
  by_cases c_1 : p1 = (0 : Int32)
  · refine lv_tableIn (off := 27) (tgt := 28) hx hb dX8_about_1 (by rw [c_1]; decide) (by rw [c_1]; decide) (by rw [c_1]; rfl) (by decide) ?_
    replace h := h.1 c_1
    refine lv_aload_n hx hb dX8_about_28 rfl (lv_at hl 0 rfl) ?_
    refine va_get (D := (dC, dI)) (ci := 7) (v := .ref h_a0_rows) (C := RX8) (T := TX8) (N := 6) hx hb hts hin_X8 hown hK hP 0 rfl rfl 5 (by decide) hw_0 (fun _ h9 => h9) rfl dX8_about_29 ?_
    refine lv_ifnonnull (tgt := 39) hx hb dX8_about_32 (by decide) ?_
    refine lv_aload_n hx hb dX8_about_39 rfl (lv_at hl 0 rfl) ?_
    refine va_get (D := (dC, dI)) (ci := 7) (v := .ref h_a0_rows) (C := RX8) (T := TX8) (N := 6) hx hb hts hin_X8 hown hK hP 0 rfl rfl 5 (by decide) hw_0 (fun _ h9 => h9) rfl dX8_about_40 ?_
    refine va_getN (D := (dC, dI)) (ci := 5) (v := .int a0_rows_many) (C := RX5) (T := TX5) (N := 2) hx hb hts hin_X5 hown hK hP 10 rfl rfl 1 (by decide) (nw_10 hN) (fun _ h9 => h9) rfl dX8_about_43 ?_
    have hP9 := hP.sub (ws' := [(h_a0, .inr (7, [w_a0_primes, .ref h_a0_sieved, .ref h_a0_parting, w_a0_primeSums, w_a0_progression, .ref h_a0_rows])), (h_a0_sieved, .inr (6, [.ref q_a0_sieved_leasts, .ref q_a0_sieved_greatests, .ref q_a0_sieved_rests, .ref h_a0_sieved_squared, .long a0_sieved_from, .int a0_sieved_many, .int a0_sieved_primeCount, .int a0_sieved_gap, .int a0_sieved_twins, .int a0_sieved_squareFree])), (q_a0_sieved_leasts, .inl (cJ, 5000, .inr (.inl a0_sieved_leasts))), (q_a0_sieved_greatests, .inl (cJ, 5000, .inr (.inl a0_sieved_greatests))), (q_a0_sieved_rests, .inl (cJ, 5000, .inr (.inl a0_sieved_rests))), (h_a0_sieved_squared, .inr (0, [.ref q_a0_sieved_squared_words])), (q_a0_sieved_squared_words, .inl (cJ, 79, .inr (.inl a0_sieved_squared_words))), (h_a0_parting, .inr (1, [.ref q_a0_parting_factors, .ref q_a0_parting_powers, .long a0_parting_number, .int a0_parting_many])), (q_a0_parting_factors, .inl (cJ, 10, .inr (.inl a0_parting_factors))), (q_a0_parting_powers, .inl (cI, 10, .inl a0_parting_powers)), (h_a0_rows, .inr (5, [.ref q_a0_rows_values, .int a0_rows_many])), (q_a0_rows_values, .inl (cJ, 9600, .inr (.inl a0_rows_values)))]) [0, 1, 2, 3, 4, 5, 6, 7, 8, 9, 10, 11] rfl
    have hD9 := hD.sub (ws' := [(h_a0, .inr (7, [w_a0_primes, .ref h_a0_sieved, .ref h_a0_parting, w_a0_primeSums, w_a0_progression, .ref h_a0_rows])), (h_a0_sieved, .inr (6, [.ref q_a0_sieved_leasts, .ref q_a0_sieved_greatests, .ref q_a0_sieved_rests, .ref h_a0_sieved_squared, .long a0_sieved_from, .int a0_sieved_many, .int a0_sieved_primeCount, .int a0_sieved_gap, .int a0_sieved_twins, .int a0_sieved_squareFree])), (q_a0_sieved_leasts, .inl (cJ, 5000, .inr (.inl a0_sieved_leasts))), (q_a0_sieved_greatests, .inl (cJ, 5000, .inr (.inl a0_sieved_greatests))), (q_a0_sieved_rests, .inl (cJ, 5000, .inr (.inl a0_sieved_rests))), (h_a0_sieved_squared, .inr (0, [.ref q_a0_sieved_squared_words])), (q_a0_sieved_squared_words, .inl (cJ, 79, .inr (.inl a0_sieved_squared_words))), (h_a0_parting, .inr (1, [.ref q_a0_parting_factors, .ref q_a0_parting_powers, .long a0_parting_number, .int a0_parting_many])), (q_a0_parting_factors, .inl (cJ, 10, .inr (.inl a0_parting_factors))), (q_a0_parting_powers, .inl (cI, 10, .inl a0_parting_powers)), (h_a0_rows, .inr (5, [.ref q_a0_rows_values, .int a0_rows_many])), (q_a0_rows_values, .inl (cJ, 9600, .inr (.inl a0_rows_values)))]) [0, 1, 2, 3, 4, 5, 6, 7, 8, 9, 10, 11] (by decide) rfl
    exact W.iret (v := a0_rows_many) hx hb hr (fun t ht hW => ⟨⟨_, (), rfl, h, by rw [ht]; exact hP9, hD9⟩, hS.F ht⟩) hS.2.2 dX8_about_46
  by_cases c_2 : p1 = (1 : Int32)
  · refine lv_tableIn (off := 46) (tgt := 47) hx hb dX8_about_1 (by rw [c_2]; decide) (by rw [c_2]; decide) (by rw [c_2]; rfl) (by decide) ?_
    replace h := h.2.1 c_2
    refine lv_aload_n hx hb dX8_about_47 rfl (lv_at hl 0 rfl) ?_
    refine va_get (D := (dC, dI)) (ci := 7) (v := .ref h_a0_sieved) (C := RX8) (T := TX8) (N := 6) hx hb hts hin_X8 hown hK hP 0 rfl rfl 1 (by decide) hw_3 (fun _ h9 => h9) rfl dX8_about_48 ?_
    refine lv_ifnonnull (tgt := 58) hx hb dX8_about_51 (by decide) ?_
    refine lv_aload_n hx hb dX8_about_58 rfl (lv_at hl 0 rfl) ?_
    refine va_get (D := (dC, dI)) (ci := 7) (v := .ref h_a0_sieved) (C := RX8) (T := TX8) (N := 6) hx hb hts hin_X8 hown hK hP 0 rfl rfl 1 (by decide) hw_3 (fun _ h9 => h9) rfl dX8_about_59 ?_
    refine va_getN (D := (dC, dI)) (ci := 6) (v := .int a0_sieved_many) (C := RX6) (T := TX6) (N := 10) hx hb hts hin_X6 hown hK hP 1 rfl rfl 5 (by decide) (nw_0 hN) (fun _ h9 => h9) rfl dX8_about_62 ?_
    have hP9 := hP.sub (ws' := [(h_a0, .inr (7, [w_a0_primes, .ref h_a0_sieved, .ref h_a0_parting, w_a0_primeSums, w_a0_progression, .ref h_a0_rows])), (h_a0_sieved, .inr (6, [.ref q_a0_sieved_leasts, .ref q_a0_sieved_greatests, .ref q_a0_sieved_rests, .ref h_a0_sieved_squared, .long a0_sieved_from, .int a0_sieved_many, .int a0_sieved_primeCount, .int a0_sieved_gap, .int a0_sieved_twins, .int a0_sieved_squareFree])), (q_a0_sieved_leasts, .inl (cJ, 5000, .inr (.inl a0_sieved_leasts))), (q_a0_sieved_greatests, .inl (cJ, 5000, .inr (.inl a0_sieved_greatests))), (q_a0_sieved_rests, .inl (cJ, 5000, .inr (.inl a0_sieved_rests))), (h_a0_sieved_squared, .inr (0, [.ref q_a0_sieved_squared_words])), (q_a0_sieved_squared_words, .inl (cJ, 79, .inr (.inl a0_sieved_squared_words))), (h_a0_parting, .inr (1, [.ref q_a0_parting_factors, .ref q_a0_parting_powers, .long a0_parting_number, .int a0_parting_many])), (q_a0_parting_factors, .inl (cJ, 10, .inr (.inl a0_parting_factors))), (q_a0_parting_powers, .inl (cI, 10, .inl a0_parting_powers)), (h_a0_rows, .inr (5, [.ref q_a0_rows_values, .int a0_rows_many])), (q_a0_rows_values, .inl (cJ, 9600, .inr (.inl a0_rows_values)))]) [0, 1, 2, 3, 4, 5, 6, 7, 8, 9, 10, 11] rfl
    have hD9 := hD.sub (ws' := [(h_a0, .inr (7, [w_a0_primes, .ref h_a0_sieved, .ref h_a0_parting, w_a0_primeSums, w_a0_progression, .ref h_a0_rows])), (h_a0_sieved, .inr (6, [.ref q_a0_sieved_leasts, .ref q_a0_sieved_greatests, .ref q_a0_sieved_rests, .ref h_a0_sieved_squared, .long a0_sieved_from, .int a0_sieved_many, .int a0_sieved_primeCount, .int a0_sieved_gap, .int a0_sieved_twins, .int a0_sieved_squareFree])), (q_a0_sieved_leasts, .inl (cJ, 5000, .inr (.inl a0_sieved_leasts))), (q_a0_sieved_greatests, .inl (cJ, 5000, .inr (.inl a0_sieved_greatests))), (q_a0_sieved_rests, .inl (cJ, 5000, .inr (.inl a0_sieved_rests))), (h_a0_sieved_squared, .inr (0, [.ref q_a0_sieved_squared_words])), (q_a0_sieved_squared_words, .inl (cJ, 79, .inr (.inl a0_sieved_squared_words))), (h_a0_parting, .inr (1, [.ref q_a0_parting_factors, .ref q_a0_parting_powers, .long a0_parting_number, .int a0_parting_many])), (q_a0_parting_factors, .inl (cJ, 10, .inr (.inl a0_parting_factors))), (q_a0_parting_powers, .inl (cI, 10, .inl a0_parting_powers)), (h_a0_rows, .inr (5, [.ref q_a0_rows_values, .int a0_rows_many])), (q_a0_rows_values, .inl (cJ, 9600, .inr (.inl a0_rows_values)))]) [0, 1, 2, 3, 4, 5, 6, 7, 8, 9, 10, 11] (by decide) rfl
    exact W.iret (v := a0_sieved_many) hx hb hr (fun t ht hW => ⟨⟨_, (), rfl, h, by rw [ht]; exact hP9, hD9⟩, hS.F ht⟩) hS.2.2 dX8_about_65
  by_cases c_3 : p1 = (2 : Int32)
  · refine lv_tableIn (off := 65) (tgt := 66) hx hb dX8_about_1 (by rw [c_3]; decide) (by rw [c_3]; decide) (by rw [c_3]; rfl) (by decide) ?_
    replace h := h.2.2.1 c_3
    refine lv_aload_n hx hb dX8_about_66 rfl (lv_at hl 0 rfl) ?_
    refine va_get (D := (dC, dI)) (ci := 7) (v := .ref h_a0_parting) (C := RX8) (T := TX8) (N := 6) hx hb hts hin_X8 hown hK hP 0 rfl rfl 2 (by decide) hw_5 (fun _ h9 => h9) rfl dX8_about_67 ?_
    refine lv_ifnonnull (tgt := 77) hx hb dX8_about_70 (by decide) ?_
    refine lv_aload_n hx hb dX8_about_77 rfl (lv_at hl 0 rfl) ?_
    refine va_get (D := (dC, dI)) (ci := 7) (v := .ref h_a0_parting) (C := RX8) (T := TX8) (N := 6) hx hb hts hin_X8 hown hK hP 0 rfl rfl 2 (by decide) hw_5 (fun _ h9 => h9) rfl dX8_about_78 ?_
    refine va_getN (D := (dC, dI)) (ci := 1) (v := .int a0_parting_many) (C := RX1) (T := TX1) (N := 4) hx hb hts hin_X1 hown hK hP 7 rfl rfl 3 (by decide) (nw_9 hN) (fun _ h9 => h9) rfl dX8_about_81 ?_
    have hP9 := hP.sub (ws' := [(h_a0, .inr (7, [w_a0_primes, .ref h_a0_sieved, .ref h_a0_parting, w_a0_primeSums, w_a0_progression, .ref h_a0_rows])), (h_a0_sieved, .inr (6, [.ref q_a0_sieved_leasts, .ref q_a0_sieved_greatests, .ref q_a0_sieved_rests, .ref h_a0_sieved_squared, .long a0_sieved_from, .int a0_sieved_many, .int a0_sieved_primeCount, .int a0_sieved_gap, .int a0_sieved_twins, .int a0_sieved_squareFree])), (q_a0_sieved_leasts, .inl (cJ, 5000, .inr (.inl a0_sieved_leasts))), (q_a0_sieved_greatests, .inl (cJ, 5000, .inr (.inl a0_sieved_greatests))), (q_a0_sieved_rests, .inl (cJ, 5000, .inr (.inl a0_sieved_rests))), (h_a0_sieved_squared, .inr (0, [.ref q_a0_sieved_squared_words])), (q_a0_sieved_squared_words, .inl (cJ, 79, .inr (.inl a0_sieved_squared_words))), (h_a0_parting, .inr (1, [.ref q_a0_parting_factors, .ref q_a0_parting_powers, .long a0_parting_number, .int a0_parting_many])), (q_a0_parting_factors, .inl (cJ, 10, .inr (.inl a0_parting_factors))), (q_a0_parting_powers, .inl (cI, 10, .inl a0_parting_powers)), (h_a0_rows, .inr (5, [.ref q_a0_rows_values, .int a0_rows_many])), (q_a0_rows_values, .inl (cJ, 9600, .inr (.inl a0_rows_values)))]) [0, 1, 2, 3, 4, 5, 6, 7, 8, 9, 10, 11] rfl
    have hD9 := hD.sub (ws' := [(h_a0, .inr (7, [w_a0_primes, .ref h_a0_sieved, .ref h_a0_parting, w_a0_primeSums, w_a0_progression, .ref h_a0_rows])), (h_a0_sieved, .inr (6, [.ref q_a0_sieved_leasts, .ref q_a0_sieved_greatests, .ref q_a0_sieved_rests, .ref h_a0_sieved_squared, .long a0_sieved_from, .int a0_sieved_many, .int a0_sieved_primeCount, .int a0_sieved_gap, .int a0_sieved_twins, .int a0_sieved_squareFree])), (q_a0_sieved_leasts, .inl (cJ, 5000, .inr (.inl a0_sieved_leasts))), (q_a0_sieved_greatests, .inl (cJ, 5000, .inr (.inl a0_sieved_greatests))), (q_a0_sieved_rests, .inl (cJ, 5000, .inr (.inl a0_sieved_rests))), (h_a0_sieved_squared, .inr (0, [.ref q_a0_sieved_squared_words])), (q_a0_sieved_squared_words, .inl (cJ, 79, .inr (.inl a0_sieved_squared_words))), (h_a0_parting, .inr (1, [.ref q_a0_parting_factors, .ref q_a0_parting_powers, .long a0_parting_number, .int a0_parting_many])), (q_a0_parting_factors, .inl (cJ, 10, .inr (.inl a0_parting_factors))), (q_a0_parting_powers, .inl (cI, 10, .inl a0_parting_powers)), (h_a0_rows, .inr (5, [.ref q_a0_rows_values, .int a0_rows_many])), (q_a0_rows_values, .inl (cJ, 9600, .inr (.inl a0_rows_values)))]) [0, 1, 2, 3, 4, 5, 6, 7, 8, 9, 10, 11] (by decide) rfl
    exact W.iret (v := a0_parting_many) hx hb hr (fun t ht hW => ⟨⟨_, (), rfl, h, by rw [ht]; exact hP9, hD9⟩, hS.F ht⟩) hS.2.2 dX8_about_84
  have t0 : p1.toInt ≠ 0 := fun q => c_1 (Int32.toInt_inj.mp (q.trans (by decide)))
  have t1 : p1.toInt ≠ 1 := fun q => c_2 (Int32.toInt_inj.mp (q.trans (by decide)))
  have t2 : p1.toInt ≠ 2 := fun q => c_3 (Int32.toInt_inj.mp (q.trans (by decide)))
  refine lv_tableOut (tgt := 85) hx hb dX8_about_1 (by omega) (by decide) ?_
  replace h := h.2.2.2 c_1 c_2 c_3
  refine lv_iconst (v := (-1 : Int32)) hx hb dX8_about_85 (by decide) ?_
  have hP9 := hP.sub (ws' := [(h_a0, .inr (7, [w_a0_primes, .ref h_a0_sieved, .ref h_a0_parting, w_a0_primeSums, w_a0_progression, .ref h_a0_rows])), (h_a0_sieved, .inr (6, [.ref q_a0_sieved_leasts, .ref q_a0_sieved_greatests, .ref q_a0_sieved_rests, .ref h_a0_sieved_squared, .long a0_sieved_from, .int a0_sieved_many, .int a0_sieved_primeCount, .int a0_sieved_gap, .int a0_sieved_twins, .int a0_sieved_squareFree])), (q_a0_sieved_leasts, .inl (cJ, 5000, .inr (.inl a0_sieved_leasts))), (q_a0_sieved_greatests, .inl (cJ, 5000, .inr (.inl a0_sieved_greatests))), (q_a0_sieved_rests, .inl (cJ, 5000, .inr (.inl a0_sieved_rests))), (h_a0_sieved_squared, .inr (0, [.ref q_a0_sieved_squared_words])), (q_a0_sieved_squared_words, .inl (cJ, 79, .inr (.inl a0_sieved_squared_words))), (h_a0_parting, .inr (1, [.ref q_a0_parting_factors, .ref q_a0_parting_powers, .long a0_parting_number, .int a0_parting_many])), (q_a0_parting_factors, .inl (cJ, 10, .inr (.inl a0_parting_factors))), (q_a0_parting_powers, .inl (cI, 10, .inl a0_parting_powers)), (h_a0_rows, .inr (5, [.ref q_a0_rows_values, .int a0_rows_many])), (q_a0_rows_values, .inl (cJ, 9600, .inr (.inl a0_rows_values)))]) [0, 1, 2, 3, 4, 5, 6, 7, 8, 9, 10, 11] rfl
  have hD9 := hD.sub (ws' := [(h_a0, .inr (7, [w_a0_primes, .ref h_a0_sieved, .ref h_a0_parting, w_a0_primeSums, w_a0_progression, .ref h_a0_rows])), (h_a0_sieved, .inr (6, [.ref q_a0_sieved_leasts, .ref q_a0_sieved_greatests, .ref q_a0_sieved_rests, .ref h_a0_sieved_squared, .long a0_sieved_from, .int a0_sieved_many, .int a0_sieved_primeCount, .int a0_sieved_gap, .int a0_sieved_twins, .int a0_sieved_squareFree])), (q_a0_sieved_leasts, .inl (cJ, 5000, .inr (.inl a0_sieved_leasts))), (q_a0_sieved_greatests, .inl (cJ, 5000, .inr (.inl a0_sieved_greatests))), (q_a0_sieved_rests, .inl (cJ, 5000, .inr (.inl a0_sieved_rests))), (h_a0_sieved_squared, .inr (0, [.ref q_a0_sieved_squared_words])), (q_a0_sieved_squared_words, .inl (cJ, 79, .inr (.inl a0_sieved_squared_words))), (h_a0_parting, .inr (1, [.ref q_a0_parting_factors, .ref q_a0_parting_powers, .long a0_parting_number, .int a0_parting_many])), (q_a0_parting_factors, .inl (cJ, 10, .inr (.inl a0_parting_factors))), (q_a0_parting_powers, .inl (cI, 10, .inl a0_parting_powers)), (h_a0_rows, .inr (5, [.ref q_a0_rows_values, .int a0_rows_many])), (q_a0_rows_values, .inl (cJ, 9600, .inr (.inl a0_rows_values)))]) [0, 1, 2, 3, 4, 5, 6, 7, 8, 9, 10, 11] (by decide) rfl
  exact W.iret (v := (-1 : Int32)) hx hb hr (fun t ht hW => ⟨⟨_, (), rfl, h, by rw [ht]; exact hP9, hD9⟩, hS.F ht⟩) hS.2.2 dX8_about_86

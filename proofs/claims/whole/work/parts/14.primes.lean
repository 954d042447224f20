def wp_X3_keep (a0_table : Nat → Int32) (a0_many : Int32) (p1 : Int32) (Q : Int32 → (Nat → Int32) → Prop) : Prop :=
  ((a0_many < (0 : Int32) → Q a0_many a0_table) ∧ (¬ a0_many < (0 : Int32) → (((Int32.ofNat 9592) ≤ a0_many → Q a0_many a0_table) ∧ (¬ (Int32.ofNat 9592) ≤ a0_many → (vp_in a0_many 9592 ∧ (∀ y_4 : Int32, y_4 = (a0_many + (1 : Int32)) → Q y_4 (upd a0_table a0_many.toNatClampNeg p1)))))))
abbrev rm_X3_keep : Room := { frames := 0, cells := 0, slots := 0, locals := 0 }
abbrev qc_X3_keep (dC : Nat → ClassId) (dI : Nat → Nat → Nat) (cI cJ cZ : ClassId) (h_a0 : Nat) (a0_table : Nat → Int32) (q_a0_table : Nat) (a0_many : Int32) (Q : Int32 → (Nat → Int32) → Prop) (A : Nat → Prop) : Array Value → State → Outcome → State → Prop := va_Qv (fun (u : Int32 × (Nat → Int32)) => Q u.1 u.2) (post_ dC dI A (fun (u : Int32 × (Nat → Int32)) => [(h_a0, .inr (3, [.ref q_a0_table, .int u.1])), (q_a0_table, .inl (cI, 9592, .inl (u.2)))])) A
set_option maxHeartbeats 4000000 in
set_option maxRecDepth 100000 in
theorem c_X3_keep (l : Launch) (dC : Nat → ClassId) (dI : Nat → Nat → Nat) (cI cJ cZ : ClassId) (sz : Nat) (h_a0 : Nat) (a0_table : Nat → Int32) (q_a0_table : Nat) (a0_many : Int32) (p1 : Int32) (Q : Int32 → (Nat → Int32) → Prop) (hQ : wp_X3_keep a0_table a0_many p1 Q) : Met l yX3_keep wsX3_keep rm_X3_keep (pre_ dC dI cI cJ cZ [.ref h_a0, .int p1] [(h_a0, .inr (3, [.ref q_a0_table, .int a0_many])), (q_a0_table, .inl (cI, 9592, .inl a0_table))] sz) (qc_X3_keep dC dI cI cJ cZ h_a0 a0_table q_a0_table a0_many Q (va_A [(h_a0, .inr (3, [.ref q_a0_table, .int a0_many])), (q_a0_table, .inl (cI, 9592, .inl a0_table))] sz)) 0 0 (va_A [(h_a0, .inr (3, [.ref q_a0_table, .int a0_many])), (q_a0_table, .inl (cI, 9592, .inl a0_table))] sz) := by
  refine Met.ofW (cc := cX3_keep) (maxL := 2) (ret := none) (by decide) rfl ?_
  intro p e s m args below meth c s₁ B hml hv
  obtain ⟨rfl, hsz, hP, hK, hN, hD0⟩ := hv
  have hx := B.exec
  have hb := B.bytes
  have hr := B.returns
  have hts := atoms_spec (ws := wsX3_keep) B.pre
  have hown : s.vm.findClass RX3 = some m.cls := findClass_of_methodNamed B.named
  subst hsz
  have hD := hD0.self (sz := s.heap.size)
  generalize hAe : va_A [(h_a0, .inr (3, [.ref q_a0_table, .int a0_many])), (q_a0_table, .inl (cI, 9592, .inl a0_table))] s.heap.size = A at hD ⊢
  have hA : ∀ q : Nat, s.heap.size ≤ q → A q := fun q h => by rw [← hAe]; exact Or.inr h
  have hS : va_S A s.heap s.heap [] := va_S.rf
  have hl := lv_entry ([.ref h_a0, .int p1]) (n := 2) (Nat.le_of_ble_eq_true rfl)
  rw [lg_entry_eq]
  generalize (lg_sl ([.ref h_a0, .int p1]) ++ List.replicate (2 - (lg_sl ([.ref h_a0, .int p1])).length) Slot.unset).toArray = ls at hl ⊢
  have hl : lv_has ls 2 [(0, .ref h_a0), (1, .int p1)] := hl
  have h := hQ
  unfold wp_X3_keep at h
  have hw_0 := hts (.fieldLink RX3 15 "NumberSieves$Primes" "many" "I") (by decide +kernel)
  have hin_X3 : ∀ w ∈ wsX30, w ∈ wsX3_keep := by decide +kernel
  have hw_2 := hts (.fieldLink RX3 11 "NumberSieves$Primes" "table" "[I") (by decide +kernel)
  refine lv_aload_n hx hb dX3_keep_0 rfl (lv_at hl 0 rfl) ?_
  refine va_get (D := (dC, dI)) (ci := 3) (v := .int a0_many) (C := RX3) (T := TX3) (N := 2) hx hb hts hin_X3 hown hK hP 0 rfl rfl 1 (by decide) hw_0 (fun _ h9 => h9) rfl dX3_keep_1 ?_
  refine lv_if_lt (tgt := 39) hx hb dX3_keep_4 (by decide) (fun c_1 => ?_) (fun c_1 => ?_)
  · replace h := h.1 c_1
    have hP9 := hP.sub (ws' := [(h_a0, .inr (3, [.ref q_a0_table, .int a0_many])), (q_a0_table, .inl (cI, 9592, .inl a0_table))]) [0, 1] rfl
    have hD9 := hD.sub (ws' := [(h_a0, .inr (3, [.ref q_a0_table, .int a0_many])), (q_a0_table, .inl (cI, 9592, .inl a0_table))]) [0, 1] (by decide) rfl
    exact W.vret hx hb hr (fun t ht hW => ⟨⟨(a0_many, a0_table), rfl, h, by rw [ht]; exact hP9, hD9⟩, hS.F ht⟩) hS.2.2 dX3_keep_39
  · replace h := h.2 c_1
    refine lv_aload_n hx hb dX3_keep_7 rfl (lv_at hl 0 rfl) ?_
    refine va_get (D := (dC, dI)) (ci := 3) (v := .int a0_many) (C := RX3) (T := TX3) (N := 2) hx hb hts hin_X3 hown hK hP 0 rfl rfl 1 (by decide) hw_0 (fun _ h9 => h9) rfl dX3_keep_8 ?_
    refine lv_aload_n hx hb dX3_keep_11 rfl (lv_at hl 0 rfl) ?_
    refine va_get (D := (dC, dI)) (ci := 3) (v := .ref q_a0_table) (C := RX3) (T := TX3) (N := 2) hx hb hts hin_X3 hown hK hP 0 rfl rfl 0 (by decide) hw_2 (fun _ h9 => h9) rfl dX3_keep_12 ?_
    refine va_alen hx hb hK hP 1 0 rfl rfl rfl dX3_keep_15 ?_
    refine lv_icmp_ge (tgt := 39) hx hb dX3_keep_16 (by decide) (fun c_2 => ?_) (fun c_2 => ?_)
    · replace h := h.1 c_2
      have hP9 := hP.sub (ws' := [(h_a0, .inr (3, [.ref q_a0_table, .int a0_many])), (q_a0_table, .inl (cI, 9592, .inl a0_table))]) [0, 1] rfl
      have hD9 := hD.sub (ws' := [(h_a0, .inr (3, [.ref q_a0_table, .int a0_many])), (q_a0_table, .inl (cI, 9592, .inl a0_table))]) [0, 1] (by decide) rfl
      exact W.vret hx hb hr (fun t ht hW => ⟨⟨(a0_many, a0_table), rfl, h, by rw [ht]; exact hP9, hD9⟩, hS.F ht⟩) hS.2.2 dX3_keep_39
    · replace h := h.2 c_2
      refine lv_aload_n hx hb dX3_keep_19 rfl (lv_at hl 0 rfl) ?_
      refine va_get (D := (dC, dI)) (ci := 3) (v := .ref q_a0_table) (C := RX3) (T := TX3) (N := 2) hx hb hts hin_X3 hown hK hP 0 rfl rfl 0 (by decide) hw_2 (fun _ h9 => h9) rfl dX3_keep_20 ?_
      refine lv_aload_n hx hb dX3_keep_23 rfl (lv_at hl 0 rfl) ?_
      refine va_get (D := (dC, dI)) (ci := 3) (v := .int a0_many) (C := RX3) (T := TX3) (N := 2) hx hb hts hin_X3 hown hK hP 0 rfl rfl 1 (by decide) hw_0 (fun _ h9 => h9) rfl dX3_keep_24 ?_
      refine lv_iload_n hx hb dX3_keep_27 rfl (lv_at hl 1 rfl) ?_
      obtain ⟨hin_3, h⟩ := h
      refine va_iast hx hb hK hP hD hS 1 0 rfl rfl hin_3 dX3_keep_28 (fun H locs hP hD hS => ?_)
      have hP : va_P (dC, dI) vwCl [(h_a0, .inr (3, [.ref q_a0_table, .int a0_many])), (q_a0_table, .inl (cI, 9592, .inl (upd a0_table a0_many.toNatClampNeg p1)))] H := hP
      have hD : va_D A [(h_a0, .inr (3, [.ref q_a0_table, .int a0_many])), (q_a0_table, .inl (cI, 9592, .inl (upd a0_table a0_many.toNatClampNeg p1)))] := hD
      refine lv_aload_n hx hb dX3_keep_29 rfl (lv_at hl 0 rfl) ?_
      refine lv_dup hx hb dX3_keep_30 rfl ?_
      refine va_get (D := (dC, dI)) (ci := 3) (v := .int a0_many) (C := RX3) (T := TX3) (N := 2) hx hb hts hin_X3 hown hK hP 0 rfl rfl 1 (by decide) hw_0 (fun _ h9 => h9) rfl dX3_keep_31 ?_
      refine lv_iconst (v := (1 : Int32)) hx hb dX3_keep_34 (by decide) ?_
      refine lv_iadd hx hb dX3_keep_35 ?_
      refine lv_topi (fun y_4 e_y_4 => ?_)
      replace h := h y_4 e_y_4
      refine va_put (D := (dC, dI)) (ci := 3) (v := .int y_4) (ty := .int) (C := RX3) (T := TX3) (N := 2) hx hb hts hin_X3 tyX3 tyX3_ok nmX3 hown hK hP hD hS 0 rfl rfl 1 (by decide) hw_0 (fun _ h9 => h9) rfl (by decide +kernel) rfl rfl (Nat.le_of_ble_eq_true rfl) dX3_keep_36 (fun H locs hP hD hS => ?_)
      have hP : va_P (dC, dI) vwCl [(h_a0, .inr (3, [.ref q_a0_table, .int y_4])), (q_a0_table, .inl (cI, 9592, .inl (upd a0_table a0_many.toNatClampNeg p1)))] H := hP
      have hD : va_D A [(h_a0, .inr (3, [.ref q_a0_table, .int y_4])), (q_a0_table, .inl (cI, 9592, .inl (upd a0_table a0_many.toNatClampNeg p1)))] := hD
      have hP9 := hP.sub (ws' := [(h_a0, .inr (3, [.ref q_a0_table, .int y_4])), (q_a0_table, .inl (cI, 9592, .inl (upd a0_table a0_many.toNatClampNeg p1)))]) [0, 1] rfl
      have hD9 := hD.sub (ws' := [(h_a0, .inr (3, [.ref q_a0_table, .int y_4])), (q_a0_table, .inl (cI, 9592, .inl (upd a0_table a0_many.toNatClampNeg p1)))]) [0, 1] (by decide) rfl
      exact W.vret hx hb hr (fun t ht hW => ⟨⟨(y_4, (upd a0_table a0_many.toNatClampNeg p1)), rfl, h, by rw [ht]; exact hP9, hD9⟩, hS.F ht⟩) hS.2.2 dX3_keep_39
def wp_X3_strikeOddMultiples (N_a0 : Nat) (a0_words : Nat → Int64) (p1 : Int32) (Q : (Nat → Int64) → Prop) : Prop :=
  ((p1 < (2 : Int32) → Q a0_words) ∧ (¬ p1 < (2 : Int32) → (¬ p1 = 0 ∧ ((p1 ≤ ((100000 : Int32) / p1) → wp_X0_markEvery N_a0 a0_words (p1 * p1) ((2 : Int32) * p1) (100001 : Int32) (fun o_4 => Q o_4)) ∧ (¬ p1 ≤ ((100000 : Int32) / p1) → Q a0_words)))))
abbrev rm_X3_strikeOddMultiples : Room := { frames := 2, cells := 0, slots := 0, locals := 48 }
abbrev qc_X3_strikeOddMultiples (dC : Nat → ClassId) (dI : Nat → Nat → Nat) (cI cJ cZ : ClassId) (h_a0 : Nat) (N_a0 : Nat) (a0_words : Nat → Int64) (q_a0_words : Nat) (Q : (Nat → Int64) → Prop) (A : Nat → Prop) : Array Value → State → Outcome → State → Prop := va_Qv (fun (u : (Nat → Int64)) => Q u) (post_ dC dI A (fun (u : (Nat → Int64)) => [(h_a0, .inr (0, [.ref q_a0_words])), (q_a0_words, .inl (cJ, N_a0, .inr (.inl u)))])) A
set_option maxHeartbeats 4000000 in
set_option maxRecDepth 100000 in
theorem c_X3_strikeOddMultiples (l : Launch) (dC : Nat → ClassId) (dI : Nat → Nat → Nat) (cI cJ cZ : ClassId) (sz : Nat) (h_a0 : Nat) (N_a0 : Nat) (a0_words : Nat → Int64) (q_a0_words : Nat) (p1 : Int32) (Q : (Nat → Int64) → Prop) (hQ : wp_X3_strikeOddMultiples N_a0 a0_words p1 Q) : Met l yX3_strikeOddMultiples wsX3_strikeOddMultiples rm_X3_strikeOddMultiples (pre_ dC dI cI cJ cZ [.ref h_a0, .int p1] [(h_a0, .inr (0, [.ref q_a0_words])), (q_a0_words, .inl (cJ, N_a0, .inr (.inl a0_words)))] sz) (qc_X3_strikeOddMultiples dC dI cI cJ cZ h_a0 N_a0 a0_words q_a0_words Q (va_A [(h_a0, .inr (0, [.ref q_a0_words])), (q_a0_words, .inl (cJ, N_a0, .inr (.inl a0_words)))] sz)) 0 0 (va_A [(h_a0, .inr (0, [.ref q_a0_words])), (q_a0_words, .inl (cJ, N_a0, .inr (.inl a0_words)))] sz) := by
  refine Met.ofW (cc := cX3_strikeOddMultiples) (maxL := 2) (ret := none) (by decide) rfl ?_
  intro p e s m args below meth c s₁ B hml hv
  obtain ⟨rfl, hsz, hP, hK, hN, hD0⟩ := hv
  have hx := B.exec
  have hb := B.bytes
  have hr := B.returns
  have hts := atoms_spec (ws := wsX3_strikeOddMultiples) B.pre
  have hown : s.vm.findClass RX3 = some m.cls := findClass_of_methodNamed B.named
  subst hsz
  have hD := hD0.self (sz := s.heap.size)
  generalize hAe : va_A [(h_a0, .inr (0, [.ref q_a0_words])), (q_a0_words, .inl (cJ, N_a0, .inr (.inl a0_words)))] s.heap.size = A at hD ⊢
  have hA : ∀ q : Nat, s.heap.size ≤ q → A q := fun q h => by rw [← hAe]; exact Or.inr h
  have hS : va_S A s.heap s.heap [] := va_S.rf
  have hl := lv_entry ([.ref h_a0, .int p1]) (n := 2) (Nat.le_of_ble_eq_true rfl)
  rw [lg_entry_eq]
  generalize (lg_sl ([.ref h_a0, .int p1]) ++ List.replicate (2 - (lg_sl ([.ref h_a0, .int p1])).length) Slot.unset).toArray = ls at hl ⊢
  have hl : lv_has ls 2 [(0, .ref h_a0), (1, .int p1)] := hl
  have h := hQ
  unfold wp_X3_strikeOddMultiples at h
  have hw_0 := hts (.constant RX3 28 (100000)) (by decide +kernel)
  have hw_1 := hts (.constant RX3 21 (100001)) (by decide +kernel)
  refine lv_iload_n hx hb dX3_strikeOddMultiples_0 rfl (lv_at hl 1 rfl) ?_
  refine lv_iconst (v := (2 : Int32)) hx hb dX3_strikeOddMultiples_1 (by decide) ?_
  refine lv_icmp_lt (tgt := 13) hx hb dX3_strikeOddMultiples_2 (by decide) (fun c_1 => ?_) (fun c_1 => ?_)
  · replace h := h.1 c_1
    have hP9 := hP.sub (ws' := [(h_a0, .inr (0, [.ref q_a0_words])), (q_a0_words, .inl (cJ, N_a0, .inr (.inl a0_words)))]) [0, 1] rfl
    have hD9 := hD.sub (ws' := [(h_a0, .inr (0, [.ref q_a0_words])), (q_a0_words, .inl (cJ, N_a0, .inr (.inl a0_words)))]) [0, 1] (by decide) rfl
    exact W.vret hx hb hr (fun t ht hW => ⟨⟨a0_words, rfl, h, by rw [ht]; exact hP9, hD9⟩, hS.F ht⟩) hS.2.2 dX3_strikeOddMultiples_13
  · replace h := h.2 c_1
    refine lv_iload_n hx hb dX3_strikeOddMultiples_5 rfl (lv_at hl 1 rfl) ?_
    refine lv_ldc hx hb hown hw_0 dX3_strikeOddMultiples_6 ?_
    refine lv_iload_n hx hb dX3_strikeOddMultiples_8 rfl (lv_at hl 1 rfl) ?_
    obtain ⟨hne_2, h⟩ := h
    refine lv_idiv hx hb dX3_strikeOddMultiples_9 hne_2 ?_
    refine lv_icmp_le (tgt := 14) hx hb dX3_strikeOddMultiples_10 (by decide) (fun c_3 => ?_) (fun c_3 => ?_)
    · replace h := h.1 c_3
      refine lv_aload_n hx hb dX3_strikeOddMultiples_14 rfl (lv_at hl 0 rfl) ?_
      refine lv_iload_n hx hb dX3_strikeOddMultiples_15 rfl (lv_at hl 1 rfl) ?_
      refine lv_iload_n hx hb dX3_strikeOddMultiples_16 rfl (lv_at hl 1 rfl) ?_
      refine lv_imul hx hb dX3_strikeOddMultiples_17 ?_
      refine lv_iconst (v := (2 : Int32)) hx hb dX3_strikeOddMultiples_18 (by decide) ?_
      refine lv_iload_n hx hb dX3_strikeOddMultiples_19 rfl (lv_at hl 1 rfl) ?_
      refine lv_imul hx hb dX3_strikeOddMultiples_20 ?_
      refine lv_ldc hx hb hown hw_1 dX3_strikeOddMultiples_21 ?_
      have hPc := hP.sub (ws' := [(h_a0, .inr (0, [.ref q_a0_words])), (q_a0_words, .inl (cJ, N_a0, .inr (.inl a0_words)))]) [0, 1] rfl
      have hDc := hD.sub (ws' := [(h_a0, .inr (0, [.ref q_a0_words])), (q_a0_words, .inl (cJ, N_a0, .inr (.inl a0_words)))]) [0, 1] (by decide) rfl
      have hFc := va_free (wc := [(h_a0, .inr (0, [.ref q_a0_words])), (q_a0_words, .inl (cJ, N_a0, .inr (.inl a0_words)))]) hD hS hA [0, 1] rfl
      refine va_callv (va_runV (As := [.int (p1 * p1), .int ((2 : Int32) * p1), .int (100001 : Int32)]) (rest := []) ⟨hx, hb, hml, hown, hts⟩ (c_X0_markEvery l dC dI cI cJ cZ _ h_a0 N_a0 a0_words q_a0_words (p1 * p1) ((2 : Int32) * p1) (100001 : Int32) _ h) (cwV 3 hts gX3_strikeOddMultiples_X0_markEvery rfl rfl rfl (by decide +kernel) ⟨Nat.le_of_ble_eq_true rfl, Nat.le_of_ble_eq_true rfl⟩) ⟨pre_fb, va_recv hK hPc (ci := 0) (q0 := 0) rfl rfl, pre_of hPc hDc hK hN⟩ rfl rfl hl.1 rfl (lv_room (Nat.le_of_ble_eq_true rfl)) dX3_strikeOddMultiples_23 ⟨by first | exact Nat.le_of_ble_eq_true rfl | exact Nat.le_refl _, by first | exact Nat.le_of_ble_eq_true rfl | exact Nat.le_refl _⟩) hS (fun q _ h => hFc q h) hFc (fun u t H1 locs ht hvm h hB hz1 hk1 hS => ?_)
      obtain ⟨o_4, rfl⟩ : ∃ z, z = u := ⟨_, rfl⟩
      obtain ⟨hP1, hD1⟩ := hB
      rw [ht] at hP1
      try dsimp only at h
      obtain ⟨hP, hD⟩ := va_join (wr := []) (w1 := [(h_a0, .inr (0, [.ref q_a0_words])), (q_a0_words, .inl (cJ, N_a0, .inr (.inl o_4)))]) hP hD [0, 1] [] rfl rfl (by decide) (by decide) hk1 hFc hP1 hD1
      generalize H1 = H at hP hS ⊢
      have hP : va_P (dC, dI) vwCl [(h_a0, .inr (0, [.ref q_a0_words])), (q_a0_words, .inl (cJ, N_a0, .inr (.inl o_4)))] H := hP
      have hD : va_D A [(h_a0, .inr (0, [.ref q_a0_words])), (q_a0_words, .inl (cJ, N_a0, .inr (.inl o_4)))] := hD
      have hP9 := hP.sub (ws' := [(h_a0, .inr (0, [.ref q_a0_words])), (q_a0_words, .inl (cJ, N_a0, .inr (.inl o_4)))]) [0, 1] rfl
      have hD9 := hD.sub (ws' := [(h_a0, .inr (0, [.ref q_a0_words])), (q_a0_words, .inl (cJ, N_a0, .inr (.inl o_4)))]) [0, 1] (by decide) rfl
      exact W.vret hx hb hr (fun t ht hW => ⟨⟨o_4, rfl, h, by rw [ht]; exact hP9, hD9⟩, hS.F ht⟩) hS.2.2 dX3_strikeOddMultiples_26
    · replace h := h.2 c_3
      have hP9 := hP.sub (ws' := [(h_a0, .inr (0, [.ref q_a0_words])), (q_a0_words, .inl (cJ, N_a0, .inr (.inl a0_words)))]) [0, 1] rfl
      have hD9 := hD.sub (ws' := [(h_a0, .inr (0, [.ref q_a0_words])), (q_a0_words, .inl (cJ, N_a0, .inr (.inl a0_words)))]) [0, 1] (by decide) rfl
      exact W.vret hx hb hr (fun t ht hW => ⟨⟨a0_words, rfl, h, by rw [ht]; exact hP9, hD9⟩, hS.F ht⟩) hS.2.2 dX3_strikeOddMultiples_13
def wp_X3_init   (Q : (Nat → Int32) → Int32 → Prop) : Prop :=
  wp_X0_init 1563 (100001 : Int32) (fun o_3 => wp_X3_keep (fun _ => 0) (0 : Int32) (2 : Int32) (fun o_5 o_6 => (∃ (I_35_6 : Int32 → (Nat → Int64) → Int32 → (Nat → Int32) → Prop) (m_35_6 : Int32 → (Nat → Int64) → Int32 → (Nat → Int32) → Nat), I_35_6 (3 : Int32) o_3 o_5 o_6 ∧ ∀ (l2_35_6 : Int32) (n22_24_35_6 : Nat → Int64) (a0_many_35_6 : Int32) (n8_35_6 : Nat → Int32), I_35_6 l2_35_6 n22_24_35_6 a0_many_35_6 n8_35_6 → (((100000 : Int32) < l2_35_6 → Q n8_35_6 a0_many_35_6) ∧ (¬ (100000 : Int32) < l2_35_6 → wp_X0_isMarked 1563 n22_24_35_6 l2_35_6 (fun r_9 => ((r_9 = (0 : Int32) → wp_X3_keep n8_35_6 a0_many_35_6 l2_35_6 (fun o_12 o_13 => wp_X3_strikeOddMultiples 1563 n22_24_35_6 l2_35_6 (fun o_14 => (∀ x2_15 : Int32, x2_15 = l2_35_6 + (2 : Int32) → (I_35_6 x2_15 o_14 o_12 o_13 ∧ m_35_6 x2_15 o_14 o_12 o_13 < m_35_6 l2_35_6 n22_24_35_6 a0_many_35_6 n8_35_6))))) ∧ (¬ r_9 = (0 : Int32) → (∀ x2_11 : Int32, x2_11 = l2_35_6 + (2 : Int32) → (I_35_6 x2_11 n22_24_35_6 a0_many_35_6 n8_35_6 ∧ m_35_6 x2_11 n22_24_35_6 a0_many_35_6 n8_35_6 < m_35_6 l2_35_6 n22_24_35_6 a0_many_35_6 n8_35_6))))))))))
abbrev rm_X3_init : Room := { frames := 3, cells := 3, slots := 11156, locals := 69 }
abbrev qc_X3_init (dC : Nat → ClassId) (dI : Nat → Nat → Nat) (cI cJ cZ : ClassId) (h_a0 : Nat) (Q : (Nat → Int32) → Int32 → Prop) (A : Nat → Prop) : Array Value → State → Outcome → State → Prop := va_Qv (fun (u : Nat × (Nat → Int32) × Int32) => Q u.2.1 u.2.2) (post_ dC dI A (fun (u : Nat × (Nat → Int32) × Int32) => [(h_a0, .inr (3, [.ref u.1, .int u.2.2])), (u.1, .inl (cI, 9592, .inl (u.2.1)))])) A
set_option maxHeartbeats 4000000 in
set_option maxRecDepth 100000 in
theorem c_X3_init (l : Launch) (dC : Nat → ClassId) (dI : Nat → Nat → Nat) (cI cJ cZ : ClassId) (sz : Nat) (h_a0 : Nat)  (Q : (Nat → Int32) → Int32 → Prop) (hQ : wp_X3_init  Q) : Met l yX3_init wsX3_init rm_X3_init (pre_ dC dI cI cJ cZ [.ref h_a0] [(h_a0, .inr (3, [.null, .int (0 : Int32)]))] sz) (qc_X3_init dC dI cI cJ cZ h_a0 Q (va_A [(h_a0, .inr (3, [.null, .int (0 : Int32)]))] sz)) 3 11156 (va_A [(h_a0, .inr (3, [.null, .int (0 : Int32)]))] sz) := by
  refine Met.ofW (cc := cX3_init) (maxL := 3) (ret := none) (by decide) rfl ?_
  intro p e s m args below meth c s₁ B hml hv
  obtain ⟨rfl, hsz, hP, hK, hN, hD0⟩ := hv
  have hx := B.exec
  have hb := B.bytes
  have hr := B.returns
  have hts := atoms_spec (ws := wsX3_init) B.pre
  have hown : s.vm.findClass RX3 = some m.cls := findClass_of_methodNamed B.named
  have hin0 : meth.name = "<init>" := (name_of_methodNamed B.named B.method).1
  subst hsz
  have hD := hD0.self (sz := s.heap.size)
  generalize hAe : va_A [(h_a0, .inr (3, [.null, .int (0 : Int32)]))] s.heap.size = A at hD ⊢
  have hA : ∀ q : Nat, s.heap.size ≤ q → A q := fun q h => by rw [← hAe]; exact Or.inr h
  have hS : va_S A s.heap s.heap [] := va_S.rf
  have hl := lv_entry ([.ref h_a0]) (n := 3) (Nat.le_of_ble_eq_true rfl)
  rw [lg_entry_eq]
  generalize (lg_sl ([.ref h_a0]) ++ List.replicate (3 - (lg_sl ([.ref h_a0])).length) Slot.unset).toArray = ls at hl ⊢
  have hl : lv_has ls 3 [(0, .ref h_a0)] := hl
  have h := hQ
  unfold wp_X3_init at h
  have hw_0 := hts (.methodLink RX3 3 objectInit) (by decide +kernel)
  have hw_1 := hts (.instanceMethod objectInit) (by decide +kernel)
  have hw_2 := hts (.code objectInit ⟨#[0xb1]⟩ 1 none) (by decide +kernel)
  have hw_3 := hts (.arrayClass .int) (by decide +kernel)
  have hw_4 := hts (.fieldLink RX3 11 "NumberSieves$Primes" "table" "[I") (by decide +kernel)
  have hin_X3 : ∀ w ∈ wsX30, w ∈ wsX3_init := by decide +kernel
  have hw_6 := hts (.fieldLink RX3 15 "NumberSieves$Primes" "many" "I") (by decide +kernel)
  have hin_X0 : ∀ w ∈ wsX00, w ∈ wsX3_init := by decide +kernel
  have hw_8 := hts (.classLink RX3 19 RX0) (by decide +kernel)
  have hw_9 := hts (.instantiable RX0 1) (by decide +kernel)
  have hw_10 := hts (.initialized RX0) (by decide +kernel)
  have hw_11 := hts (.constant RX3 21 (100001)) (by decide +kernel)
  have hw_12 := hts (.methodLink RX3 22 yX0_init) (by decide +kernel)
  have hw_13 := hts (.instanceMethod yX0_init) (by decide +kernel)
  have hw_14 := hts (.constant RX3 28 (100000)) (by decide +kernel)
  refine lv_aload_n hx hb dX3_init_0 rfl (lv_at hl 0 rfl) ?_
  refine W.objInit hx hb hown hw_0 hw_1 hw_2 rfl (by rw [hml]; exact hl.1) rfl dX3_init_1 (Nat.le_of_ble_eq_true rfl) (Nat.le_of_ble_eq_true rfl) ?_
  refine W.eq (g2 := F0 m 4 ls []) rfl ?_
  refine lv_aload_n hx hb dX3_init_4 rfl (lv_at hl 0 rfl) ?_
  refine lv_sipush (v := (9592 : Int32)) hx hb dX3_init_5 (by decide) ?_
  refine va_newa (atype := .int) (ty := .int) (a0 := (9592, .inl (fun _ => 0))) (N' := 9592) hx hb hw_3 rfl hK hP hD hS hA (fun _ => rfl) (by decide) (by decide) (by decide) (by first | exact Nat.le_refl _ | exact Nat.le_of_ble_eq_true rfl) (by first | exact Nat.le_refl _ | exact Nat.le_of_ble_eq_true rfl | exact Nat.le_of_eq (Nat.zero_add _)) dX3_init_8 (fun q_1 cA H hK9 hP hD hS => ?_)
  rw [cls_I hK9] at hP hD
  have hP : va_P (dC, dI) vwCl [(h_a0, .inr (3, [.null, .int (0 : Int32)])), (q_1, .inl (cI, 9592, .inl (fun _ => 0)))] H := hP
  have hD : va_D A [(h_a0, .inr (3, [.null, .int (0 : Int32)])), (q_1, .inl (cI, 9592, .inl (fun _ => 0)))] := hD
  refine W.widen (k := 1) (n := 9592) (by omega) (by omega) ?_
  refine va_putF (D := (dC, dI)) (ci := 3) (v := .ref q_1) (ty := .array .int) (C := RX3) (T := TX3) (N := 2) hx hb hts hin_X3 tyX3 tyX3_ok nmX3 hown hK hP hD hS 0 rfl rfl 0 (by decide) hw_4 (fun _ h9 => h9) rfl hin0 rfl (by decide +kernel) rfl rfl (Nat.le_of_ble_eq_true rfl) dX3_init_10 (fun H locs hP hD hS => ?_)
  have hP : va_P (dC, dI) vwCl [(h_a0, .inr (3, [.ref q_1, .int (0 : Int32)])), (q_1, .inl (cI, 9592, .inl (fun _ => 0)))] H := hP
  have hD : va_D A [(h_a0, .inr (3, [.ref q_1, .int (0 : Int32)])), (q_1, .inl (cI, 9592, .inl (fun _ => 0)))] := hD
  refine lv_aload_n hx hb dX3_init_13 rfl (lv_at hl 0 rfl) ?_
  refine lv_iconst (v := (0 : Int32)) hx hb dX3_init_14 (by decide) ?_
  refine va_put (D := (dC, dI)) (ci := 3) (v := .int (0 : Int32)) (ty := .int) (C := RX3) (T := TX3) (N := 2) hx hb hts hin_X3 tyX3 tyX3_ok nmX3 hown hK hP hD hS 0 rfl rfl 1 (by decide) hw_6 (fun _ h9 => h9) rfl (by decide +kernel) rfl rfl (Nat.le_of_ble_eq_true rfl) dX3_init_15 (fun H locs hP hD hS => ?_)
  have hP : va_P (dC, dI) vwCl [(h_a0, .inr (3, [.ref q_1, .int (0 : Int32)])), (q_1, .inl (cI, 9592, .inl (fun _ => 0)))] H := hP
  have hD : va_D A [(h_a0, .inr (3, [.ref q_1, .int (0 : Int32)])), (q_1, .inl (cI, 9592, .inl (fun _ => 0)))] := hD
  refine va_new (ci := 0) (fs := [.null]) (C := RX0) (T := TX0) (N := 1) hx hb hts hin_X0 tyX0 tyX0_ok hown hw_8 hw_9 hw_10 hK hP hD hS hA rfl (by decide +kernel) (Nat.le_of_ble_eq_true rfl) (Nat.le_of_ble_eq_true rfl) dX3_init_18 (fun q_2 H hP hD hS => ?_)
  have hP : va_P (dC, dI) vwCl [(h_a0, .inr (3, [.ref q_1, .int (0 : Int32)])), (q_1, .inl (cI, 9592, .inl (fun _ => 0))), (q_2, .inr (0, [.null]))] H := hP
  have hD : va_D A [(h_a0, .inr (3, [.ref q_1, .int (0 : Int32)])), (q_1, .inl (cI, 9592, .inl (fun _ => 0))), (q_2, .inr (0, [.null]))] := hD
  refine W.widen (k := 2) (n := 9593) (by omega) (by omega) ?_
  refine lv_dup hx hb dX3_init_21 rfl ?_
  refine lv_ldc hx hb hown hw_11 dX3_init_22 ?_
  have hPc := hP.sub (ws' := [(q_2, .inr (0, [.null]))]) [2] rfl
  have hDc := hD.sub (ws' := [(q_2, .inr (0, [.null]))]) [2] (by decide) rfl
  have hFc := va_free (wc := [(q_2, .inr (0, [.null]))]) hD hS hA [2] rfl
  refine va_callv (va_runI (As := [.int (100001 : Int32)]) (rest := [.ref q_2]) ⟨hx, hb, hml, hown, hts⟩ (c_X0_init l dC dI cI cJ cZ _ q_2 1563 (100001 : Int32) _ h) (cwI 1 hts gX3_init_X0_init rfl rfl rfl hw_10 hw_12 hw_13 rfl (by decide +kernel) ⟨Nat.le_of_ble_eq_true rfl, Nat.le_of_ble_eq_true rfl⟩) ⟨pre_fb, pre_of hPc hDc hK hN⟩ rfl rfl hl.1 rfl (lv_room (Nat.le_of_ble_eq_true rfl)) dX3_init_24 ⟨by first | exact Nat.le_of_ble_eq_true rfl | exact Nat.le_refl _, by first | exact Nat.le_of_ble_eq_true rfl | exact Nat.le_refl _⟩) hS (fun q _ h => hFc q h) hFc (fun u t H1 locs ht hvm h hB hz1 hk1 hS => ?_)
  obtain ⟨q_4, o_3⟩ := u
  obtain ⟨hP1, hD1⟩ := hB
  rw [ht] at hP1
  try dsimp only at h
  obtain ⟨hP, hD⟩ := va_join (wr := [(h_a0, .inr (3, [.ref q_1, .int (0 : Int32)])), (q_1, .inl (cI, 9592, .inl (fun _ => 0)))]) (w1 := [(q_2, .inr (0, [.ref q_4])), (q_4, .inl (cJ, 1563, .inr (.inl o_3)))]) hP hD [2] [0, 1] rfl rfl (by decide) (by decide) hk1 hFc hP1 hD1
  generalize H1 = H at hP hS ⊢
  have hP : va_P (dC, dI) vwCl [(h_a0, .inr (3, [.ref q_1, .int (0 : Int32)])), (q_1, .inl (cI, 9592, .inl (fun _ => 0))), (q_2, .inr (0, [.ref q_4])), (q_4, .inl (cJ, 1563, .inr (.inl o_3)))] H := hP
  have hD : va_D A [(h_a0, .inr (3, [.ref q_1, .int (0 : Int32)])), (q_1, .inl (cI, 9592, .inl (fun _ => 0))), (q_2, .inr (0, [.ref q_4])), (q_4, .inl (cJ, 1563, .inr (.inl o_3)))] := hD
  refine W.widen (k := 3) (n := 11156) (by omega) (by omega) ?_
  refine lv_astore_n (lv' := [(1, .ref q_2), (0, .ref h_a0)]) hx hb dX3_init_27 rfl hl (by decide) rfl (fun ls hl => ?_)
  refine lv_aload_n hx hb dX3_init_28 rfl (lv_at hl 1 rfl) ?_
  refine lv_iconst (v := (2 : Int32)) hx hb dX3_init_29 (by decide) ?_
  have hPc := hP.sub (ws' := [(h_a0, .inr (3, [.ref q_1, .int (0 : Int32)])), (q_1, .inl (cI, 9592, .inl (fun _ => 0)))]) [0, 1] rfl
  have hDc := hD.sub (ws' := [(h_a0, .inr (3, [.ref q_1, .int (0 : Int32)])), (q_1, .inl (cI, 9592, .inl (fun _ => 0)))]) [0, 1] (by decide) rfl
  have hFc := va_free (wc := [(h_a0, .inr (3, [.ref q_1, .int (0 : Int32)])), (q_1, .inl (cI, 9592, .inl (fun _ => 0)))]) hD hS hA [0, 1] rfl
  refine va_callv (va_runV (As := [.int (2 : Int32)]) (rest := []) ⟨hx, hb, hml, hown, hts⟩ (c_X3_keep l dC dI cI cJ cZ _ h_a0 (fun _ => 0) q_1 (0 : Int32) (2 : Int32) _ h) (cwV 1 hts gX3_init_X3_keep rfl rfl rfl (by decide +kernel) ⟨Nat.le_of_ble_eq_true rfl, Nat.le_of_ble_eq_true rfl⟩) ⟨pre_fb, va_recv hK hPc (ci := 3) (q0 := 0) rfl rfl, pre_of hPc hDc hK hN⟩ rfl rfl hl.1 rfl (lv_room (Nat.le_of_ble_eq_true rfl)) dX3_init_30 ⟨by first | exact Nat.le_of_ble_eq_true rfl | exact Nat.le_refl _, by first | exact Nat.le_of_ble_eq_true rfl | exact Nat.le_refl _⟩) hS (fun q _ h => hFc q h) hFc (fun u t H1 locs ht hvm h hB hz1 hk1 hS => ?_)
  obtain ⟨o_5, o_6⟩ := u
  obtain ⟨hP1, hD1⟩ := hB
  rw [ht] at hP1
  try dsimp only at h
  obtain ⟨hP, hD⟩ := va_join (wr := [(q_2, .inr (0, [.ref q_4])), (q_4, .inl (cJ, 1563, .inr (.inl o_3)))]) (w1 := [(h_a0, .inr (3, [.ref q_1, .int o_5])), (q_1, .inl (cI, 9592, .inl o_6))]) hP hD [0, 1] [2, 3] rfl rfl (by decide) (by decide) hk1 hFc hP1 hD1
  generalize H1 = H at hP hS ⊢
  have hP : va_P (dC, dI) vwCl [(q_2, .inr (0, [.ref q_4])), (q_4, .inl (cJ, 1563, .inr (.inl o_3))), (h_a0, .inr (3, [.ref q_1, .int o_5])), (q_1, .inl (cI, 9592, .inl o_6))] H := hP
  have hD : va_D A [(q_2, .inr (0, [.ref q_4])), (q_4, .inl (cJ, 1563, .inr (.inl o_3))), (h_a0, .inr (3, [.ref q_1, .int o_5])), (q_1, .inl (cI, 9592, .inl o_6))] := hD
  refine lv_iconst (v := (3 : Int32)) hx hb dX3_init_33 (by decide) ?_
  refine lv_istore_n (lv' := [(2, .int (3 : Int32)), (1, .ref q_2), (0, .ref h_a0)]) hx hb dX3_init_34 rfl hl (by decide) rfl (fun ls hl => ?_)
  obtain ⟨I_35_6, m_35_6, h0_35_6, hs_35_6⟩ := h
  have key_35_6 : ∀ (n : Nat) (l2_35_6 : Int32) (n22_24_35_6 : Nat → Int64) (a0_many_35_6 : Int32) (n8_35_6 : Nat → Int32), m_35_6 l2_35_6 n22_24_35_6 a0_many_35_6 n8_35_6 < n → I_35_6 l2_35_6 n22_24_35_6 a0_many_35_6 n8_35_6 → ∀ (ls : Array Slot) (H : Heap) (locs : List Loc), lv_has ls 3 [(2, .int l2_35_6), (1, .ref q_2), (0, .ref h_a0)] → va_P (dC, dI) vwCl [(q_2, .inr (0, [.ref q_4])), (q_4, .inl (cJ, 1563, .inr (.inl n22_24_35_6))), (h_a0, .inr (3, [.ref q_1, .int a0_many_35_6])), (q_1, .inl (cI, 9592, .inl n8_35_6))] H → va_D A [(q_2, .inr (0, [.ref q_4])), (q_4, .inl (cJ, 1563, .inr (.inl n22_24_35_6))), (h_a0, .inr (3, [.ref q_1, .int a0_many_35_6])), (q_1, .inl (cI, 9592, .inl n8_35_6))] → va_S A s.heap H locs → W p l e (headSpec wsX3_init rm_X3_init).room s m ([.ref h_a0] : List Value).toArray below meth c H locs 3 11156 (MQ below (qc_X3_init dC dI cI cJ cZ h_a0 Q A) ([.ref h_a0] : List Value).toArray s 3 11156 A) (F0 m 35 ls []) := by
    intro n
    induction n with
    | zero =>
      intro l2_35_6 n22_24_35_6 a0_many_35_6 n8_35_6 hm
      exact absurd hm (Nat.not_lt_zero _)
    | succ n ih_35_6 =>
      intro l2_35_6 n22_24_35_6 a0_many_35_6 n8_35_6 hm_35_6 hI ls H locs hl hP hD hS
      have h := hs_35_6 l2_35_6 n22_24_35_6 a0_many_35_6 n8_35_6 hI
      refine lv_iload_n hx hb dX3_init_35 rfl (lv_at hl 0 rfl) ?_
      refine lv_ldc hx hb hown hw_14 dX3_init_36 ?_
      refine lv_icmp_gt (tgt := 65) hx hb dX3_init_38 (by decide) (fun c_8 => ?_) (fun c_8 => ?_)
      · replace h := h.1 c_8
        have hP9 := hP.sub (ws' := [(h_a0, .inr (3, [.ref q_1, .int a0_many_35_6])), (q_1, .inl (cI, 9592, .inl n8_35_6))]) [2, 3] rfl
        have hD9 := hD.sub (ws' := [(h_a0, .inr (3, [.ref q_1, .int a0_many_35_6])), (q_1, .inl (cI, 9592, .inl n8_35_6))]) [2, 3] (by decide) rfl
        exact W.vret hx hb hr (fun t ht hW => ⟨⟨(q_1, n8_35_6, a0_many_35_6), rfl, h, by rw [ht]; exact hP9, hD9⟩, hS.F ht⟩) hS.2.2 dX3_init_65
      · replace h := h.2 c_8
        refine lv_aload_n hx hb dX3_init_41 rfl (lv_at hl 1 rfl) ?_
        refine lv_iload_n hx hb dX3_init_42 rfl (lv_at hl 0 rfl) ?_
        have hPc := hP.sub (ws' := [(q_2, .inr (0, [.ref q_4])), (q_4, .inl (cJ, 1563, .inr (.inl n22_24_35_6)))]) [0, 1] rfl
        have hDc := hD.sub (ws' := [(q_2, .inr (0, [.ref q_4])), (q_4, .inl (cJ, 1563, .inr (.inl n22_24_35_6)))]) [0, 1] (by decide) rfl
        have hFc := va_free (wc := [(q_2, .inr (0, [.ref q_4])), (q_4, .inl (cJ, 1563, .inr (.inl n22_24_35_6)))]) hD hS hA [0, 1] rfl
        refine va_calli (va_runV (As := [.int l2_35_6]) (rest := []) ⟨hx, hb, hml, hown, hts⟩ (c_X0_isMarked l dC dI cI cJ cZ _ q_2 1563 n22_24_35_6 q_4 l2_35_6 _ h) (cwV 1 hts gX3_init_X0_isMarked rfl rfl rfl (by decide +kernel) ⟨Nat.le_of_ble_eq_true rfl, Nat.le_of_ble_eq_true rfl⟩) ⟨pre_fb, va_recv hK hPc (ci := 0) (q0 := 0) rfl rfl, pre_of hPc hDc hK hN⟩ rfl rfl hl.1 rfl (lv_room (Nat.le_of_ble_eq_true rfl)) dX3_init_43 ⟨by first | exact Nat.le_of_ble_eq_true rfl | exact Nat.le_refl _, by first | exact Nat.le_of_ble_eq_true rfl | exact Nat.le_refl _⟩) hS (fun q _ h => hFc q h) hFc (fun r_9 u t H1 locs ht hvm h hB hz1 hk1 hS => ?_)
        obtain ⟨hP1, hD1⟩ := hB
        rw [ht] at hP1
        try dsimp only at h
        obtain ⟨hP, hD⟩ := va_join (wr := [(h_a0, .inr (3, [.ref q_1, .int a0_many_35_6])), (q_1, .inl (cI, 9592, .inl n8_35_6))]) (w1 := [(q_2, .inr (0, [.ref q_4])), (q_4, .inl (cJ, 1563, .inr (.inl n22_24_35_6)))]) hP hD [0, 1] [2, 3] rfl rfl (by decide) (by decide) hk1 hFc hP1 hD1
        generalize H1 = H at hP hS ⊢
        have hP : va_P (dC, dI) vwCl [(h_a0, .inr (3, [.ref q_1, .int a0_many_35_6])), (q_1, .inl (cI, 9592, .inl n8_35_6)), (q_2, .inr (0, [.ref q_4])), (q_4, .inl (cJ, 1563, .inr (.inl n22_24_35_6)))] H := hP
        have hD : va_D A [(h_a0, .inr (3, [.ref q_1, .int a0_many_35_6])), (q_1, .inl (cI, 9592, .inl n8_35_6)), (q_2, .inr (0, [.ref q_4])), (q_4, .inl (cJ, 1563, .inr (.inl n22_24_35_6)))] := hD
        refine lv_if_ne (tgt := 59) hx hb dX3_init_46 (by decide) (fun c_10 => ?_) (fun c_10 => ?_)
        · replace h := h.2 c_10
          obtain ⟨x2_11, e_x2_11⟩ : ∃ y : Int32, y = l2_35_6 + (2 : Int32) := ⟨_, rfl⟩
          replace h := h x2_11 e_x2_11
          refine lv_iinc (v := x2_11) (lv' := [(2, .int x2_11), (1, .ref q_2), (0, .ref h_a0)]) hx hb dX3_init_59 hl (k := 0) rfl (by rw [e_x2_11]; rfl) (by decide) rfl (fun ls hl => ?_)
          refine lv_goto (tgt := 35) hx hb dX3_init_62 (by decide) ?_
          exact ih_35_6 x2_11 n22_24_35_6 a0_many_35_6 n8_35_6 (Nat.lt_of_lt_of_le h.2 (Nat.le_of_lt_succ hm_35_6)) h.1 _ _ _ (lv_sub hl [0, 1, 2] rfl) (hP.sub [2, 3, 0, 1] rfl) (hD.sub [2, 3, 0, 1] (by decide) rfl) hS
        · replace h := h.1 c_10
          refine lv_aload_n hx hb dX3_init_49 rfl (lv_at hl 2 rfl) ?_
          refine lv_iload_n hx hb dX3_init_50 rfl (lv_at hl 0 rfl) ?_
          have hPc := hP.sub (ws' := [(h_a0, .inr (3, [.ref q_1, .int a0_many_35_6])), (q_1, .inl (cI, 9592, .inl n8_35_6))]) [0, 1] rfl
          have hDc := hD.sub (ws' := [(h_a0, .inr (3, [.ref q_1, .int a0_many_35_6])), (q_1, .inl (cI, 9592, .inl n8_35_6))]) [0, 1] (by decide) rfl
          have hFc := va_free (wc := [(h_a0, .inr (3, [.ref q_1, .int a0_many_35_6])), (q_1, .inl (cI, 9592, .inl n8_35_6))]) hD hS hA [0, 1] rfl
          refine va_callv (va_runV (As := [.int l2_35_6]) (rest := []) ⟨hx, hb, hml, hown, hts⟩ (c_X3_keep l dC dI cI cJ cZ _ h_a0 n8_35_6 q_1 a0_many_35_6 l2_35_6 _ h) (cwV 1 hts gX3_init_X3_keep rfl rfl rfl (by decide +kernel) ⟨Nat.le_of_ble_eq_true rfl, Nat.le_of_ble_eq_true rfl⟩) ⟨pre_fb, va_recv hK hPc (ci := 3) (q0 := 0) rfl rfl, pre_of hPc hDc hK hN⟩ rfl rfl hl.1 rfl (lv_room (Nat.le_of_ble_eq_true rfl)) dX3_init_51 ⟨by first | exact Nat.le_of_ble_eq_true rfl | exact Nat.le_refl _, by first | exact Nat.le_of_ble_eq_true rfl | exact Nat.le_refl _⟩) hS (fun q _ h => hFc q h) hFc (fun u t H1 locs ht hvm h hB hz1 hk1 hS => ?_)
          obtain ⟨o_12, o_13⟩ := u
          obtain ⟨hP1, hD1⟩ := hB
          rw [ht] at hP1
          try dsimp only at h
          obtain ⟨hP, hD⟩ := va_join (wr := [(q_2, .inr (0, [.ref q_4])), (q_4, .inl (cJ, 1563, .inr (.inl n22_24_35_6)))]) (w1 := [(h_a0, .inr (3, [.ref q_1, .int o_12])), (q_1, .inl (cI, 9592, .inl o_13))]) hP hD [0, 1] [2, 3] rfl rfl (by decide) (by decide) hk1 hFc hP1 hD1
          generalize H1 = H at hP hS ⊢
          have hP : va_P (dC, dI) vwCl [(q_2, .inr (0, [.ref q_4])), (q_4, .inl (cJ, 1563, .inr (.inl n22_24_35_6))), (h_a0, .inr (3, [.ref q_1, .int o_12])), (q_1, .inl (cI, 9592, .inl o_13))] H := hP
          have hD : va_D A [(q_2, .inr (0, [.ref q_4])), (q_4, .inl (cJ, 1563, .inr (.inl n22_24_35_6))), (h_a0, .inr (3, [.ref q_1, .int o_12])), (q_1, .inl (cI, 9592, .inl o_13))] := hD
          refine lv_aload_n hx hb dX3_init_54 rfl (lv_at hl 1 rfl) ?_
          refine lv_iload_n hx hb dX3_init_55 rfl (lv_at hl 0 rfl) ?_
          have hPc := hP.sub (ws' := [(q_2, .inr (0, [.ref q_4])), (q_4, .inl (cJ, 1563, .inr (.inl n22_24_35_6)))]) [0, 1] rfl
          have hDc := hD.sub (ws' := [(q_2, .inr (0, [.ref q_4])), (q_4, .inl (cJ, 1563, .inr (.inl n22_24_35_6)))]) [0, 1] (by decide) rfl
          have hFc := va_free (wc := [(q_2, .inr (0, [.ref q_4])), (q_4, .inl (cJ, 1563, .inr (.inl n22_24_35_6)))]) hD hS hA [0, 1] rfl
          refine va_callv (va_runS (As := [.ref q_2, .int l2_35_6]) (rest := []) ⟨hx, hb, hml, hown, hts⟩ (c_X3_strikeOddMultiples l dC dI cI cJ cZ _ q_2 1563 n22_24_35_6 q_4 l2_35_6 _ h) (va_cwS 2 hts gX3_init_X3_strikeOddMultiples rfl rfl rfl (by decide +kernel) ⟨Nat.le_of_ble_eq_true rfl, Nat.le_of_ble_eq_true rfl⟩) ⟨pre_fb, pre_of hPc hDc hK hN⟩ rfl rfl hl.1 rfl (lv_room (Nat.le_of_ble_eq_true rfl)) dX3_init_56 ⟨by first | exact Nat.le_of_ble_eq_true rfl | exact Nat.le_refl _, by first | exact Nat.le_of_ble_eq_true rfl | exact Nat.le_refl _⟩) hS (fun q _ h => hFc q h) hFc (fun u t H1 locs ht hvm h hB hz1 hk1 hS => ?_)
          obtain ⟨o_14, rfl⟩ : ∃ z, z = u := ⟨_, rfl⟩
          obtain ⟨hP1, hD1⟩ := hB
          rw [ht] at hP1
          try dsimp only at h
          obtain ⟨hP, hD⟩ := va_join (wr := [(h_a0, .inr (3, [.ref q_1, .int o_12])), (q_1, .inl (cI, 9592, .inl o_13))]) (w1 := [(q_2, .inr (0, [.ref q_4])), (q_4, .inl (cJ, 1563, .inr (.inl o_14)))]) hP hD [0, 1] [2, 3] rfl rfl (by decide) (by decide) hk1 hFc hP1 hD1
          generalize H1 = H at hP hS ⊢
          have hP : va_P (dC, dI) vwCl [(h_a0, .inr (3, [.ref q_1, .int o_12])), (q_1, .inl (cI, 9592, .inl o_13)), (q_2, .inr (0, [.ref q_4])), (q_4, .inl (cJ, 1563, .inr (.inl o_14)))] H := hP
          have hD : va_D A [(h_a0, .inr (3, [.ref q_1, .int o_12])), (q_1, .inl (cI, 9592, .inl o_13)), (q_2, .inr (0, [.ref q_4])), (q_4, .inl (cJ, 1563, .inr (.inl o_14)))] := hD
          obtain ⟨x2_15, e_x2_15⟩ : ∃ y : Int32, y = l2_35_6 + (2 : Int32) := ⟨_, rfl⟩
          replace h := h x2_15 e_x2_15
          refine lv_iinc (v := x2_15) (lv' := [(2, .int x2_15), (1, .ref q_2), (0, .ref h_a0)]) hx hb dX3_init_59 hl (k := 0) rfl (by rw [e_x2_15]; rfl) (by decide) rfl (fun ls hl => ?_)
          refine lv_goto (tgt := 35) hx hb dX3_init_62 (by decide) ?_
          exact ih_35_6 x2_15 o_14 o_12 o_13 (Nat.lt_of_lt_of_le h.2 (Nat.le_of_lt_succ hm_35_6)) h.1 _ _ _ (lv_sub hl [0, 1, 2] rfl) (hP.sub [2, 3, 0, 1] rfl) (hD.sub [2, 3, 0, 1] (by decide) rfl) hS
  exact key_35_6 _ (3 : Int32) o_3 o_5 o_6 (Nat.lt_succ_self _) h0_35_6 _ _ _ (lv_sub hl [0, 1, 2] rfl) (hP.sub [0, 1, 2, 3] rfl) (hD.sub [0, 1, 2, 3] (by decide) rfl) hS
def wp_X3_nth (a0_table : Nat → Int32) (a0_many : Int32) (p1 : Int32) (Q : Int32 → Prop) : Prop :=
  ((p1 < (0 : Int32) → Q (0 : Int32)) ∧ (¬ p1 < (0 : Int32) → ((a0_many ≤ p1 → Q (0 : Int32)) ∧ (¬ a0_many ≤ p1 → (((Int32.ofNat 9592) ≤ p1 → Q (0 : Int32)) ∧ (¬ (Int32.ofNat 9592) ≤ p1 → (vp_in p1 9592 ∧ Q (a0_table p1.toNatClampNeg))))))))
abbrev rm_X3_nth : Room := { frames := 0, cells := 0, slots := 0, locals := 0 }
abbrev qc_X3_nth (dC : Nat → ClassId) (dI : Nat → Nat → Nat) (cI cJ cZ : ClassId) (h_a0 : Nat) (a0_table : Nat → Int32) (q_a0_table : Nat) (a0_many : Int32) (Q : Int32 → Prop) (A : Nat → Prop) : Array Value → State → Outcome → State → Prop := va_Qi (fun (r : Int32) (_ : Unit) => Q r) (post_ dC dI A (fun (u : Unit) => [(h_a0, .inr (3, [.ref q_a0_table, .int a0_many])), (q_a0_table, .inl (cI, 9592, .inl a0_table))])) A
set_option maxHeartbeats 4000000 in
set_option maxRecDepth 100000 in
theorem c_X3_nth (l : Launch) (dC : Nat → ClassId) (dI : Nat → Nat → Nat) (cI cJ cZ : ClassId) (sz : Nat) (h_a0 : Nat) (a0_table : Nat → Int32) (q_a0_table : Nat) (a0_many : Int32) (p1 : Int32) (Q : Int32 → Prop) (hQ : wp_X3_nth a0_table a0_many p1 Q) : Met l yX3_nth wsX3_nth rm_X3_nth (pre_ dC dI cI cJ cZ [.ref h_a0, .int p1] [(h_a0, .inr (3, [.ref q_a0_table, .int a0_many])), (q_a0_table, .inl (cI, 9592, .inl a0_table))] sz) (qc_X3_nth dC dI cI cJ cZ h_a0 a0_table q_a0_table a0_many Q (va_A [(h_a0, .inr (3, [.ref q_a0_table, .int a0_many])), (q_a0_table, .inl (cI, 9592, .inl a0_table))] sz)) 0 0 (va_A [(h_a0, .inr (3, [.ref q_a0_table, .int a0_many])), (q_a0_table, .inl (cI, 9592, .inl a0_table))] sz) := by
  refine Met.ofW (cc := cX3_nth) (maxL := 2) (ret := (some .int)) (by decide) rfl ?_
  intro p e s m args below meth c s₁ B hml hv
  obtain ⟨rfl, hsz, hP, hK, hN, hD0⟩ := hv
  have hx := B.exec
  have hb := B.bytes
  have hr := B.returns
  have hts := atoms_spec (ws := wsX3_nth) B.pre
  have hown : s.vm.findClass RX3 = some m.cls := findClass_of_methodNamed B.named
  subst hsz
  have hD := hD0.self (sz := s.heap.size)
  generalize hAe : va_A [(h_a0, .inr (3, [.ref q_a0_table, .int a0_many])), (q_a0_table, .inl (cI, 9592, .inl a0_table))] s.heap.size = A at hD ⊢
  have hA : ∀ q : Nat, s.heap.size ≤ q → A q := fun q h => by rw [← hAe]; exact Or.inr h
  have hS : va_S A s.heap s.heap [] := va_S.rf
  have hl := lv_entry ([.ref h_a0, .int p1]) (n := 2) (Nat.le_of_ble_eq_true rfl)
  rw [lg_entry_eq]
  generalize (lg_sl ([.ref h_a0, .int p1]) ++ List.replicate (2 - (lg_sl ([.ref h_a0, .int p1])).length) Slot.unset).toArray = ls at hl ⊢
  have hl : lv_has ls 2 [(0, .ref h_a0), (1, .int p1)] := hl
  have h := hQ
  unfold wp_X3_nth at h
  have hw_0 := hts (.fieldLink RX3 15 "NumberSieves$Primes" "many" "I") (by decide +kernel)
  have hin_X3 : ∀ w ∈ wsX30, w ∈ wsX3_nth := by decide +kernel
  have hw_2 := hts (.fieldLink RX3 11 "NumberSieves$Primes" "table" "[I") (by decide +kernel)
  refine lv_iload_n hx hb dX3_nth_0 rfl (lv_at hl 1 rfl) ?_
  refine lv_if_lt (tgt := 30) hx hb dX3_nth_1 (by decide) (fun c_1 => ?_) (fun c_1 => ?_)
  · replace h := h.1 c_1
    refine lv_iconst (v := (0 : Int32)) hx hb dX3_nth_30 (by decide) ?_
    have hP9 := hP.sub (ws' := [(h_a0, .inr (3, [.ref q_a0_table, .int a0_many])), (q_a0_table, .inl (cI, 9592, .inl a0_table))]) [0, 1] rfl
    have hD9 := hD.sub (ws' := [(h_a0, .inr (3, [.ref q_a0_table, .int a0_many])), (q_a0_table, .inl (cI, 9592, .inl a0_table))]) [0, 1] (by decide) rfl
    exact W.iret (v := (0 : Int32)) hx hb hr (fun t ht hW => ⟨⟨_, (), rfl, h, by rw [ht]; exact hP9, hD9⟩, hS.F ht⟩) hS.2.2 dX3_nth_31
  · replace h := h.2 c_1
    refine lv_iload_n hx hb dX3_nth_4 rfl (lv_at hl 1 rfl) ?_
    refine lv_aload_n hx hb dX3_nth_5 rfl (lv_at hl 0 rfl) ?_
    refine va_get (D := (dC, dI)) (ci := 3) (v := .int a0_many) (C := RX3) (T := TX3) (N := 2) hx hb hts hin_X3 hown hK hP 0 rfl rfl 1 (by decide) hw_0 (fun _ h9 => h9) rfl dX3_nth_6 ?_
    refine lv_icmp_ge (tgt := 30) hx hb dX3_nth_9 (by decide) (fun c_2 => ?_) (fun c_2 => ?_)
    · replace h := h.1 c_2
      refine lv_iconst (v := (0 : Int32)) hx hb dX3_nth_30 (by decide) ?_
      have hP9 := hP.sub (ws' := [(h_a0, .inr (3, [.ref q_a0_table, .int a0_many])), (q_a0_table, .inl (cI, 9592, .inl a0_table))]) [0, 1] rfl
      have hD9 := hD.sub (ws' := [(h_a0, .inr (3, [.ref q_a0_table, .int a0_many])), (q_a0_table, .inl (cI, 9592, .inl a0_table))]) [0, 1] (by decide) rfl
      exact W.iret (v := (0 : Int32)) hx hb hr (fun t ht hW => ⟨⟨_, (), rfl, h, by rw [ht]; exact hP9, hD9⟩, hS.F ht⟩) hS.2.2 dX3_nth_31
    · replace h := h.2 c_2
      refine lv_iload_n hx hb dX3_nth_12 rfl (lv_at hl 1 rfl) ?_
      refine lv_aload_n hx hb dX3_nth_13 rfl (lv_at hl 0 rfl) ?_
      refine va_get (D := (dC, dI)) (ci := 3) (v := .ref q_a0_table) (C := RX3) (T := TX3) (N := 2) hx hb hts hin_X3 hown hK hP 0 rfl rfl 0 (by decide) hw_2 (fun _ h9 => h9) rfl dX3_nth_14 ?_
      refine va_alen hx hb hK hP 1 0 rfl rfl rfl dX3_nth_17 ?_
      refine lv_icmp_ge (tgt := 30) hx hb dX3_nth_18 (by decide) (fun c_3 => ?_) (fun c_3 => ?_)
      · replace h := h.1 c_3
        refine lv_iconst (v := (0 : Int32)) hx hb dX3_nth_30 (by decide) ?_
        have hP9 := hP.sub (ws' := [(h_a0, .inr (3, [.ref q_a0_table, .int a0_many])), (q_a0_table, .inl (cI, 9592, .inl a0_table))]) [0, 1] rfl
        have hD9 := hD.sub (ws' := [(h_a0, .inr (3, [.ref q_a0_table, .int a0_many])), (q_a0_table, .inl (cI, 9592, .inl a0_table))]) [0, 1] (by decide) rfl
        exact W.iret (v := (0 : Int32)) hx hb hr (fun t ht hW => ⟨⟨_, (), rfl, h, by rw [ht]; exact hP9, hD9⟩, hS.F ht⟩) hS.2.2 dX3_nth_31
      · replace h := h.2 c_3
        refine lv_aload_n hx hb dX3_nth_21 rfl (lv_at hl 0 rfl) ?_
        refine va_get (D := (dC, dI)) (ci := 3) (v := .ref q_a0_table) (C := RX3) (T := TX3) (N := 2) hx hb hts hin_X3 hown hK hP 0 rfl rfl 0 (by decide) hw_2 (fun _ h9 => h9) rfl dX3_nth_22 ?_
        refine lv_iload_n hx hb dX3_nth_25 rfl (lv_at hl 1 rfl) ?_
        obtain ⟨hin_4, h⟩ := h
        refine va_iald hx hb hK hP 1 0 rfl rfl hin_4 dX3_nth_26 ?_
        refine lv_goto (tgt := 31) hx hb dX3_nth_27 (by decide) ?_
        have hP9 := hP.sub (ws' := [(h_a0, .inr (3, [.ref q_a0_table, .int a0_many])), (q_a0_table, .inl (cI, 9592, .inl a0_table))]) [0, 1] rfl
        have hD9 := hD.sub (ws' := [(h_a0, .inr (3, [.ref q_a0_table, .int a0_many])), (q_a0_table, .inl (cI, 9592, .inl a0_table))]) [0, 1] (by decide) rfl
        exact W.iret (v := (a0_table p1.toNatClampNeg)) hx hb hr (fun t ht hW => ⟨⟨_, (), rfl, h, by rw [ht]; exact hP9, hD9⟩, hS.F ht⟩) hS.2.2 dX3_nth_31
def wp_X3_isPrime (a0_table : Nat → Int32) (a0_many : Int32) (p1 : Int64) (Q : Int32 → Prop) : Prop :=
  (((2 : Int64) ≤ p1 → (∃ (I_12_1 : Int32 → Prop) (m_12_1 : Int32 → Nat), I_12_1 (0 : Int32) ∧ ∀ (l3_12_1 : Int32), I_12_1 l3_12_1 → ((a0_many ≤ l3_12_1 → Q (1 : Int32)) ∧ (¬ a0_many ≤ l3_12_1 → wp_X3_nth a0_table a0_many l3_12_1 (fun r_4 => (∀ x4_5 : Int64, x4_5 = r_4.toInt64 → ((x4_5 < (2 : Int64) → Q (1 : Int32)) ∧ (¬ x4_5 < (2 : Int64) → (((x4_5 * x4_5) ≤ p1 → (¬ x4_5 = 0 ∧ (((p1 - p1 / x4_5 * x4_5) = (0 : Int64) → Q (0 : Int32)) ∧ (¬ (p1 - p1 / x4_5 * x4_5) = (0 : Int64) → (∀ x3_10 : Int32, x3_10 = l3_12_1 + (1 : Int32) → (I_12_1 x3_10 ∧ m_12_1 x3_10 < m_12_1 l3_12_1)))))) ∧ (¬ (x4_5 * x4_5) ≤ p1 → Q (1 : Int32))))))))))) ∧ (¬ (2 : Int64) ≤ p1 → Q (0 : Int32)))
abbrev rm_X3_isPrime : Room := { frames := 1, cells := 0, slots := 0, locals := 21 }
abbrev qc_X3_isPrime (dC : Nat → ClassId) (dI : Nat → Nat → Nat) (cI cJ cZ : ClassId) (h_a0 : Nat) (a0_table : Nat → Int32) (q_a0_table : Nat) (a0_many : Int32) (Q : Int32 → Prop) (A : Nat → Prop) : Array Value → State → Outcome → State → Prop := va_Qi (fun (r : Int32) (_ : Unit) => Q r) (post_ dC dI A (fun (u : Unit) => [(h_a0, .inr (3, [.ref q_a0_table, .int a0_many])), (q_a0_table, .inl (cI, 9592, .inl a0_table))])) A
set_option maxHeartbeats 4000000 in
set_option maxRecDepth 100000 in
theorem c_X3_isPrime (l : Launch) (dC : Nat → ClassId) (dI : Nat → Nat → Nat) (cI cJ cZ : ClassId) (sz : Nat) (h_a0 : Nat) (a0_table : Nat → Int32) (q_a0_table : Nat) (a0_many : Int32) (p1 : Int64) (Q : Int32 → Prop) (hQ : wp_X3_isPrime a0_table a0_many p1 Q) : Met l yX3_isPrime wsX3_isPrime rm_X3_isPrime (pre_ dC dI cI cJ cZ [.ref h_a0, .long p1] [(h_a0, .inr (3, [.ref q_a0_table, .int a0_many])), (q_a0_table, .inl (cI, 9592, .inl a0_table))] sz) (qc_X3_isPrime dC dI cI cJ cZ h_a0 a0_table q_a0_table a0_many Q (va_A [(h_a0, .inr (3, [.ref q_a0_table, .int a0_many])), (q_a0_table, .inl (cI, 9592, .inl a0_table))] sz)) 0 0 (va_A [(h_a0, .inr (3, [.ref q_a0_table, .int a0_many])), (q_a0_table, .inl (cI, 9592, .inl a0_table))] sz) := by
  refine Met.ofW (cc := cX3_isPrime) (maxL := 6) (ret := (some .boolean)) (by decide) rfl ?_
  intro p e s m args below meth c s₁ B hml hv
  obtain ⟨rfl, hsz, hP, hK, hN, hD0⟩ := hv
  have hx := B.exec
  have hb := B.bytes
  have hr := B.returns
  have hts := atoms_spec (ws := wsX3_isPrime) B.pre
  have hown : s.vm.findClass RX3 = some m.cls := findClass_of_methodNamed B.named
  subst hsz
  have hD := hD0.self (sz := s.heap.size)
  generalize hAe : va_A [(h_a0, .inr (3, [.ref q_a0_table, .int a0_many])), (q_a0_table, .inl (cI, 9592, .inl a0_table))] s.heap.size = A at hD ⊢
  have hA : ∀ q : Nat, s.heap.size ≤ q → A q := fun q h => by rw [← hAe]; exact Or.inr h
  have hS : va_S A s.heap s.heap [] := va_S.rf
  have hl := lv_entry ([.ref h_a0, .long p1]) (n := 6) (Nat.le_of_ble_eq_true rfl)
  rw [lg_entry_eq]
  generalize (lg_sl ([.ref h_a0, .long p1]) ++ List.replicate (6 - (lg_sl ([.ref h_a0, .long p1])).length) Slot.unset).toArray = ls at hl ⊢
  have hl : lv_has ls 6 [(0, .ref h_a0), (1, .long p1)] := hl
  have h := hQ
  unfold wp_X3_isPrime at h
  have hw_0 := hts (.constantLong RX3 41 (2)) (by decide +kernel)
  have hw_1 := hts (.fieldLink RX3 15 "NumberSieves$Primes" "many" "I") (by decide +kernel)
  have hin_X3 : ∀ w ∈ wsX30, w ∈ wsX3_isPrime := by decide +kernel
  refine lv_lload_n hx hb dX3_isPrime_0 rfl (lv_at hl 1 rfl) ?_
  refine lv_ldc2 hx hb hown hw_0 dX3_isPrime_1 ?_
  refine W.lcmp hx hb dX3_isPrime_4 ?_
  refine lv_if_ge (tgt := 10) hx hb dX3_isPrime_5 (by decide) (fun c_1 => ?_) (fun c_1 => ?_)
  · replace c_1 := (lg_cmp_ge _ _).mp c_1
    replace h := h.1 c_1
    refine lv_iconst (v := (0 : Int32)) hx hb dX3_isPrime_10 (by decide) ?_
    refine lv_istore_n (lv' := [(3, .int (0 : Int32)), (0, .ref h_a0), (1, .long p1)]) hx hb dX3_isPrime_11 rfl hl (by decide) rfl (fun ls hl => ?_)
    obtain ⟨I_12_1, m_12_1, h0_12_1, hs_12_1⟩ := h
    have key_12_1 : ∀ (n : Nat) (l3_12_1 : Int32), m_12_1 l3_12_1 < n → I_12_1 l3_12_1 → ∀ (ls : Array Slot) (H : Heap) (locs : List Loc), lv_has ls 6 [(3, .int l3_12_1), (0, .ref h_a0), (1, .long p1)] → va_P (dC, dI) vwCl [(h_a0, .inr (3, [.ref q_a0_table, .int a0_many])), (q_a0_table, .inl (cI, 9592, .inl a0_table))] H → va_D A [(h_a0, .inr (3, [.ref q_a0_table, .int a0_many])), (q_a0_table, .inl (cI, 9592, .inl a0_table))] → va_S A s.heap H locs → W p l e (headSpec wsX3_isPrime rm_X3_isPrime).room s m ([.ref h_a0, .long p1] : List Value).toArray below meth c H locs 0 0 (MQ below (qc_X3_isPrime dC dI cI cJ cZ h_a0 a0_table q_a0_table a0_many Q A) ([.ref h_a0, .long p1] : List Value).toArray s 0 0 A) (F0 m 12 ls []) := by
      intro n
      induction n with
      | zero =>
        intro l3_12_1 hm
        exact absurd hm (Nat.not_lt_zero _)
      | succ n ih_12_1 =>
        intro l3_12_1 hm_12_1 hI ls H locs hl hP hD hS
        have h := hs_12_1 l3_12_1 hI
        refine lv_iload_n hx hb dX3_isPrime_12 rfl (lv_at hl 0 rfl) ?_
        refine lv_aload_n hx hb dX3_isPrime_13 rfl (lv_at hl 1 rfl) ?_
        refine va_get (D := (dC, dI)) (ci := 3) (v := .int a0_many) (C := RX3) (T := TX3) (N := 2) hx hb hts hin_X3 hown hK hP 0 rfl rfl 1 (by decide) hw_1 (fun _ h9 => h9) rfl dX3_isPrime_14 ?_
        refine lv_icmp_ge (tgt := 66) hx hb dX3_isPrime_17 (by decide) (fun c_3 => ?_) (fun c_3 => ?_)
        · replace h := h.1 c_3
          refine lv_iconst (v := (1 : Int32)) hx hb dX3_isPrime_66 (by decide) ?_
          have hP9 := hP.sub (ws' := [(h_a0, .inr (3, [.ref q_a0_table, .int a0_many])), (q_a0_table, .inl (cI, 9592, .inl a0_table))]) [0, 1] rfl
          have hD9 := hD.sub (ws' := [(h_a0, .inr (3, [.ref q_a0_table, .int a0_many])), (q_a0_table, .inl (cI, 9592, .inl a0_table))]) [0, 1] (by decide) rfl
          exact W.zret (v := (1 : Int32)) hx hb hr (by decide) (fun t ht hW => ⟨⟨_, (), rfl, h, by rw [ht]; exact hP9, hD9⟩, hS.F ht⟩) hS.2.2 dX3_isPrime_67
        · replace h := h.2 c_3
          refine lv_aload_n hx hb dX3_isPrime_20 rfl (lv_at hl 1 rfl) ?_
          refine lv_iload_n hx hb dX3_isPrime_21 rfl (lv_at hl 0 rfl) ?_
          have hPc := hP.sub (ws' := [(h_a0, .inr (3, [.ref q_a0_table, .int a0_many])), (q_a0_table, .inl (cI, 9592, .inl a0_table))]) [0, 1] rfl
          have hDc := hD.sub (ws' := [(h_a0, .inr (3, [.ref q_a0_table, .int a0_many])), (q_a0_table, .inl (cI, 9592, .inl a0_table))]) [0, 1] (by decide) rfl
          have hFc := va_free (wc := [(h_a0, .inr (3, [.ref q_a0_table, .int a0_many])), (q_a0_table, .inl (cI, 9592, .inl a0_table))]) hD hS hA [0, 1] rfl
          refine va_calli (va_runV (As := [.int l3_12_1]) (rest := []) ⟨hx, hb, hml, hown, hts⟩ (c_X3_nth l dC dI cI cJ cZ _ h_a0 a0_table q_a0_table a0_many l3_12_1 _ h) (cwV 1 hts gX3_isPrime_X3_nth rfl rfl rfl (by decide +kernel) ⟨Nat.le_of_ble_eq_true rfl, Nat.le_of_ble_eq_true rfl⟩) ⟨pre_fb, va_recv hK hPc (ci := 3) (q0 := 0) rfl rfl, pre_of hPc hDc hK hN⟩ rfl rfl hl.1 rfl (lv_room (Nat.le_of_ble_eq_true rfl)) dX3_isPrime_22 ⟨by first | exact Nat.le_of_ble_eq_true rfl | exact Nat.le_refl _, by first | exact Nat.le_of_ble_eq_true rfl | exact Nat.le_refl _⟩) hS (fun q _ h => hFc q h) hFc (fun r_4 u t H1 locs ht hvm h hB hz1 hk1 hS => ?_)
          obtain ⟨hP1, hD1⟩ := hB
          rw [ht] at hP1
          try dsimp only at h
          obtain ⟨hP, hD⟩ := va_join (wr := []) (w1 := [(h_a0, .inr (3, [.ref q_a0_table, .int a0_many])), (q_a0_table, .inl (cI, 9592, .inl a0_table))]) hP hD [0, 1] [] rfl rfl (by decide) (by decide) hk1 hFc hP1 hD1
          generalize H1 = H at hP hS ⊢
          have hP : va_P (dC, dI) vwCl [(h_a0, .inr (3, [.ref q_a0_table, .int a0_many])), (q_a0_table, .inl (cI, 9592, .inl a0_table))] H := hP
          have hD : va_D A [(h_a0, .inr (3, [.ref q_a0_table, .int a0_many])), (q_a0_table, .inl (cI, 9592, .inl a0_table))] := hD
          refine lv_i2l hx hb dX3_isPrime_25 rfl ?_
          refine lv_topl (fun x4_5 e_x4_5 => ?_)
          replace h := h x4_5 e_x4_5
          refine lv_lstore (lv' := [(4, .long x4_5), (3, .int l3_12_1), (0, .ref h_a0), (1, .long p1)]) hx hb dX3_isPrime_26 hl (by decide) rfl (fun ls hl => ?_)
          refine lv_lload hx hb dX3_isPrime_28 (lv_at hl 0 rfl) ?_
          refine lv_ldc2 hx hb hown hw_0 dX3_isPrime_30 ?_
          refine W.lcmp hx hb dX3_isPrime_33 ?_
          refine lv_if_lt (tgt := 47) hx hb dX3_isPrime_34 (by decide) (fun c_6 => ?_) (fun c_6 => ?_)
          · replace c_6 := (lg_cmp_lt _ _).mp c_6
            replace h := h.1 c_6
            refine lv_iconst (v := (1 : Int32)) hx hb dX3_isPrime_47 (by decide) ?_
            have hP9 := hP.sub (ws' := [(h_a0, .inr (3, [.ref q_a0_table, .int a0_many])), (q_a0_table, .inl (cI, 9592, .inl a0_table))]) [0, 1] rfl
            have hD9 := hD.sub (ws' := [(h_a0, .inr (3, [.ref q_a0_table, .int a0_many])), (q_a0_table, .inl (cI, 9592, .inl a0_table))]) [0, 1] (by decide) rfl
            exact W.zret (v := (1 : Int32)) hx hb hr (by decide) (fun t ht hW => ⟨⟨_, (), rfl, h, by rw [ht]; exact hP9, hD9⟩, hS.F ht⟩) hS.2.2 dX3_isPrime_48
          · replace c_6 := lc_nlt c_6
            replace h := h.2 c_6
            refine lv_lload hx hb dX3_isPrime_37 (lv_at hl 0 rfl) ?_
            refine lv_lload hx hb dX3_isPrime_39 (lv_at hl 0 rfl) ?_
            refine lv_lmul hx hb dX3_isPrime_41 ?_
            refine lv_lload_n hx hb dX3_isPrime_42 rfl (lv_at hl 3 rfl) ?_
            refine W.lcmp hx hb dX3_isPrime_43 ?_
            refine lv_if_le (tgt := 49) hx hb dX3_isPrime_44 (by decide) (fun c_7 => ?_) (fun c_7 => ?_)
            · replace c_7 := (lg_cmp_le _ _).mp c_7
              replace h := h.1 c_7
              refine lv_lload_n hx hb dX3_isPrime_49 rfl (lv_at hl 3 rfl) ?_
              refine lv_lload hx hb dX3_isPrime_50 (lv_at hl 0 rfl) ?_
              obtain ⟨hne_8, h⟩ := h
              refine lv_lrem hx hb dX3_isPrime_52 hne_8 ?_
              refine lv_lconst (v := (0 : Int64)) hx hb dX3_isPrime_53 (by decide) ?_
              refine W.lcmp hx hb dX3_isPrime_54 ?_
              refine lv_if_ne (tgt := 60) hx hb dX3_isPrime_55 (by decide) (fun c_9 => ?_) (fun c_9 => ?_)
              · replace c_9 := lc_neq c_9
                replace h := h.2 c_9
                obtain ⟨x3_10, e_x3_10⟩ : ∃ y : Int32, y = l3_12_1 + (1 : Int32) := ⟨_, rfl⟩
                replace h := h x3_10 e_x3_10
                refine lv_iinc (v := x3_10) (lv' := [(3, .int x3_10), (4, .long x4_5), (0, .ref h_a0), (1, .long p1)]) hx hb dX3_isPrime_60 hl (k := 1) rfl (by rw [e_x3_10]; rfl) (by decide) rfl (fun ls hl => ?_)
                refine lv_goto (tgt := 12) hx hb dX3_isPrime_63 (by decide) ?_
                exact ih_12_1 x3_10 (Nat.lt_of_lt_of_le h.2 (Nat.le_of_lt_succ hm_12_1)) h.1 _ _ _ (lv_sub hl [0, 2, 3] rfl) (hP.sub [0, 1] rfl) (hD.sub [0, 1] (by decide) rfl) hS
              · replace c_9 := (lg_cmp_eq _ _).mp c_9
                replace h := h.1 c_9
                refine lv_iconst (v := (0 : Int32)) hx hb dX3_isPrime_58 (by decide) ?_
                have hP9 := hP.sub (ws' := [(h_a0, .inr (3, [.ref q_a0_table, .int a0_many])), (q_a0_table, .inl (cI, 9592, .inl a0_table))]) [0, 1] rfl
                have hD9 := hD.sub (ws' := [(h_a0, .inr (3, [.ref q_a0_table, .int a0_many])), (q_a0_table, .inl (cI, 9592, .inl a0_table))]) [0, 1] (by decide) rfl
                exact W.zret (v := (0 : Int32)) hx hb hr (by decide) (fun t ht hW => ⟨⟨_, (), rfl, h, by rw [ht]; exact hP9, hD9⟩, hS.F ht⟩) hS.2.2 dX3_isPrime_59
            · replace c_7 := lc_nle c_7
              replace h := h.2 c_7
              refine lv_iconst (v := (1 : Int32)) hx hb dX3_isPrime_47 (by decide) ?_
              have hP9 := hP.sub (ws' := [(h_a0, .inr (3, [.ref q_a0_table, .int a0_many])), (q_a0_table, .inl (cI, 9592, .inl a0_table))]) [0, 1] rfl
              have hD9 := hD.sub (ws' := [(h_a0, .inr (3, [.ref q_a0_table, .int a0_many])), (q_a0_table, .inl (cI, 9592, .inl a0_table))]) [0, 1] (by decide) rfl
              exact W.zret (v := (1 : Int32)) hx hb hr (by decide) (fun t ht hW => ⟨⟨_, (), rfl, h, by rw [ht]; exact hP9, hD9⟩, hS.F ht⟩) hS.2.2 dX3_isPrime_48
    exact key_12_1 _ (0 : Int32) (Nat.lt_succ_self _) h0_12_1 _ _ _ (lv_sub hl [0, 1, 2] rfl) (hP.sub [0, 1] rfl) (hD.sub [0, 1] (by decide) rfl) hS
  · replace c_1 := lc_nge c_1
    replace h := h.2 c_1
    refine lv_iconst (v := (0 : Int32)) hx hb dX3_isPrime_8 (by decide) ?_
    have hP9 := hP.sub (ws' := [(h_a0, .inr (3, [.ref q_a0_table, .int a0_many])), (q_a0_table, .inl (cI, 9592, .inl a0_table))]) [0, 1] rfl
    have hD9 := hD.sub (ws' := [(h_a0, .inr (3, [.ref q_a0_table, .int a0_many])), (q_a0_table, .inl (cI, 9592, .inl a0_table))]) [0, 1] (by decide) rfl
    exact W.zret (v := (0 : Int32)) hx hb hr (by decide) (fun t ht hW => ⟨⟨_, (), rfl, h, by rw [ht]; exact hP9, hD9⟩, hS.F ht⟩) hS.2.2 dX3_isPrime_9
def wp_X3_primeAbove (a0_table : Nat → Int32) (a0_many : Int32) (p1 : Int64) (Q : Int64 → Prop) : Prop :=
  (∀ x3_1 : Int64, x3_1 = (p1 + (1 : Int64)) → (∃ (I_4_1 : Int64 → Prop) (m_4_1 : Int64 → Nat), I_4_1 x3_1 ∧ ∀ (l3_4_1 : Int64), I_4_1 l3_4_1 → (((10000000000 : Int64) < l3_4_1 → Q (0 : Int64)) ∧ (¬ (10000000000 : Int64) < l3_4_1 → wp_X3_isPrime a0_table a0_many l3_4_1 (fun r_4 => ((r_4 = (0 : Int32) → (∀ x3_6 : Int64, x3_6 = (l3_4_1 + (1 : Int64)) → (I_4_1 x3_6 ∧ m_4_1 x3_6 < m_4_1 l3_4_1))) ∧ (¬ r_4 = (0 : Int32) → Q l3_4_1)))))))
abbrev rm_X3_primeAbove : Room := { frames := 2, cells := 0, slots := 0, locals := 46 }
abbrev qc_X3_primeAbove (dC : Nat → ClassId) (dI : Nat → Nat → Nat) (cI cJ cZ : ClassId) (h_a0 : Nat) (a0_table : Nat → Int32) (q_a0_table : Nat) (a0_many : Int32) (Q : Int64 → Prop) (A : Nat → Prop) : Array Value → State → Outcome → State → Prop := va_Ql (fun (r : Int64) (_ : Unit) => Q r) (post_ dC dI A (fun (u : Unit) => [(h_a0, .inr (3, [.ref q_a0_table, .int a0_many])), (q_a0_table, .inl (cI, 9592, .inl a0_table))])) A
set_option maxHeartbeats 4000000 in
set_option maxRecDepth 100000 in
theorem c_X3_primeAbove (l : Launch) (dC : Nat → ClassId) (dI : Nat → Nat → Nat) (cI cJ cZ : ClassId) (sz : Nat) (h_a0 : Nat) (a0_table : Nat → Int32) (q_a0_table : Nat) (a0_many : Int32) (p1 : Int64) (Q : Int64 → Prop) (hQ : wp_X3_primeAbove a0_table a0_many p1 Q) : Met l yX3_primeAbove wsX3_primeAbove rm_X3_primeAbove (pre_ dC dI cI cJ cZ [.ref h_a0, .long p1] [(h_a0, .inr (3, [.ref q_a0_table, .int a0_many])), (q_a0_table, .inl (cI, 9592, .inl a0_table))] sz) (qc_X3_primeAbove dC dI cI cJ cZ h_a0 a0_table q_a0_table a0_many Q (va_A [(h_a0, .inr (3, [.ref q_a0_table, .int a0_many])), (q_a0_table, .inl (cI, 9592, .inl a0_table))] sz)) 0 0 (va_A [(h_a0, .inr (3, [.ref q_a0_table, .int a0_many])), (q_a0_table, .inl (cI, 9592, .inl a0_table))] sz) := by
  refine Met.ofW (cc := cX3_primeAbove) (maxL := 5) (ret := (some .long)) (by decide) rfl ?_
  intro p e s m args below meth c s₁ B hml hv
  obtain ⟨rfl, hsz, hP, hK, hN, hD0⟩ := hv
  have hx := B.exec
  have hb := B.bytes
  have hr := B.returns
  have hts := atoms_spec (ws := wsX3_primeAbove) B.pre
  have hown : s.vm.findClass RX3 = some m.cls := findClass_of_methodNamed B.named
  subst hsz
  have hD := hD0.self (sz := s.heap.size)
  generalize hAe : va_A [(h_a0, .inr (3, [.ref q_a0_table, .int a0_many])), (q_a0_table, .inl (cI, 9592, .inl a0_table))] s.heap.size = A at hD ⊢
  have hA : ∀ q : Nat, s.heap.size ≤ q → A q := fun q h => by rw [← hAe]; exact Or.inr h
  have hS : va_S A s.heap s.heap [] := va_S.rf
  have hl := lv_entry ([.ref h_a0, .long p1]) (n := 5) (Nat.le_of_ble_eq_true rfl)
  rw [lg_entry_eq]
  generalize (lg_sl ([.ref h_a0, .long p1]) ++ List.replicate (5 - (lg_sl ([.ref h_a0, .long p1])).length) Slot.unset).toArray = ls at hl ⊢
  have hl : lv_has ls 5 [(0, .ref h_a0), (1, .long p1)] := hl
  have h := hQ
  unfold wp_X3_primeAbove at h
  have hw_0 := hts (.constantLong RX3 47 (10000000000)) (by decide +kernel)
  refine lv_lload_n hx hb dX3_primeAbove_0 rfl (lv_at hl 1 rfl) ?_
  refine lv_lconst (v := (1 : Int64)) hx hb dX3_primeAbove_1 (by decide) ?_
  refine lv_ladd hx hb dX3_primeAbove_2 ?_
  refine lv_topl (fun x3_1 e_x3_1 => ?_)
  replace h := h x3_1 e_x3_1
  refine lv_lstore_n (lv' := [(3, .long x3_1), (0, .ref h_a0), (1, .long p1)]) hx hb dX3_primeAbove_3 rfl hl (by decide) rfl (fun ls hl => ?_)
  obtain ⟨I_4_1, m_4_1, h0_4_1, hs_4_1⟩ := h
  have key_4_1 : ∀ (n : Nat) (l3_4_1 : Int64), m_4_1 l3_4_1 < n → I_4_1 l3_4_1 → ∀ (ls : Array Slot) (H : Heap) (locs : List Loc), lv_has ls 5 [(3, .long l3_4_1), (0, .ref h_a0)] → va_P (dC, dI) vwCl [(h_a0, .inr (3, [.ref q_a0_table, .int a0_many])), (q_a0_table, .inl (cI, 9592, .inl a0_table))] H → va_D A [(h_a0, .inr (3, [.ref q_a0_table, .int a0_many])), (q_a0_table, .inl (cI, 9592, .inl a0_table))] → va_S A s.heap H locs → W p l e (headSpec wsX3_primeAbove rm_X3_primeAbove).room s m ([.ref h_a0, .long p1] : List Value).toArray below meth c H locs 0 0 (MQ below (qc_X3_primeAbove dC dI cI cJ cZ h_a0 a0_table q_a0_table a0_many Q A) ([.ref h_a0, .long p1] : List Value).toArray s 0 0 A) (F0 m 4 ls []) := by
    intro n
    induction n with
    | zero =>
      intro l3_4_1 hm
      exact absurd hm (Nat.not_lt_zero _)
    | succ n ih_4_1 =>
      intro l3_4_1 hm_4_1 hI ls H locs hl hP hD hS
      have h := hs_4_1 l3_4_1 hI
      refine lv_lload_n hx hb dX3_primeAbove_4 rfl (lv_at hl 0 rfl) ?_
      refine lv_ldc2 hx hb hown hw_0 dX3_primeAbove_5 ?_
      refine W.lcmp hx hb dX3_primeAbove_8 ?_
      refine lv_if_gt (tgt := 29) hx hb dX3_primeAbove_9 (by decide) (fun c_3 => ?_) (fun c_3 => ?_)
      · replace c_3 := (lg_cmp_gt _ _).mp c_3
        replace h := h.1 c_3
        refine lv_lconst (v := (0 : Int64)) hx hb dX3_primeAbove_29 (by decide) ?_
        have hP9 := hP.sub (ws' := [(h_a0, .inr (3, [.ref q_a0_table, .int a0_many])), (q_a0_table, .inl (cI, 9592, .inl a0_table))]) [0, 1] rfl
        have hD9 := hD.sub (ws' := [(h_a0, .inr (3, [.ref q_a0_table, .int a0_many])), (q_a0_table, .inl (cI, 9592, .inl a0_table))]) [0, 1] (by decide) rfl
        exact W.lret (v := (0 : Int64)) hx hb hr (fun t ht hW => ⟨⟨_, (), rfl, h, by rw [ht]; exact hP9, hD9⟩, hS.F ht⟩) hS.2.2 dX3_primeAbove_30
      · replace c_3 := lc_ngt c_3
        replace h := h.2 c_3
        refine lv_aload_n hx hb dX3_primeAbove_12 rfl (lv_at hl 1 rfl) ?_
        refine lv_lload_n hx hb dX3_primeAbove_13 rfl (lv_at hl 0 rfl) ?_
        have hPc := hP.sub (ws' := [(h_a0, .inr (3, [.ref q_a0_table, .int a0_many])), (q_a0_table, .inl (cI, 9592, .inl a0_table))]) [0, 1] rfl
        have hDc := hD.sub (ws' := [(h_a0, .inr (3, [.ref q_a0_table, .int a0_many])), (q_a0_table, .inl (cI, 9592, .inl a0_table))]) [0, 1] (by decide) rfl
        have hFc := va_free (wc := [(h_a0, .inr (3, [.ref q_a0_table, .int a0_many])), (q_a0_table, .inl (cI, 9592, .inl a0_table))]) hD hS hA [0, 1] rfl
        refine va_calli (va_runV (As := [.long l3_4_1]) (rest := []) ⟨hx, hb, hml, hown, hts⟩ (c_X3_isPrime l dC dI cI cJ cZ _ h_a0 a0_table q_a0_table a0_many l3_4_1 _ h) (cwV 1 hts gX3_primeAbove_X3_isPrime rfl rfl rfl (by decide +kernel) ⟨Nat.le_of_ble_eq_true rfl, Nat.le_of_ble_eq_true rfl⟩) ⟨pre_fb, va_recv hK hPc (ci := 3) (q0 := 0) rfl rfl, pre_of hPc hDc hK hN⟩ rfl rfl hl.1 rfl (lv_room (Nat.le_of_ble_eq_true rfl)) dX3_primeAbove_14 ⟨by first | exact Nat.le_of_ble_eq_true rfl | exact Nat.le_refl _, by first | exact Nat.le_of_ble_eq_true rfl | exact Nat.le_refl _⟩) hS (fun q _ h => hFc q h) hFc (fun r_4 u t H1 locs ht hvm h hB hz1 hk1 hS => ?_)
        obtain ⟨hP1, hD1⟩ := hB
        rw [ht] at hP1
        try dsimp only at h
        obtain ⟨hP, hD⟩ := va_join (wr := []) (w1 := [(h_a0, .inr (3, [.ref q_a0_table, .int a0_many])), (q_a0_table, .inl (cI, 9592, .inl a0_table))]) hP hD [0, 1] [] rfl rfl (by decide) (by decide) hk1 hFc hP1 hD1
        generalize H1 = H at hP hS ⊢
        have hP : va_P (dC, dI) vwCl [(h_a0, .inr (3, [.ref q_a0_table, .int a0_many])), (q_a0_table, .inl (cI, 9592, .inl a0_table))] H := hP
        have hD : va_D A [(h_a0, .inr (3, [.ref q_a0_table, .int a0_many])), (q_a0_table, .inl (cI, 9592, .inl a0_table))] := hD
        refine lv_if_eq (tgt := 22) hx hb dX3_primeAbove_17 (by decide) (fun c_5 => ?_) (fun c_5 => ?_)
        · replace h := h.1 c_5
          refine lv_lload_n hx hb dX3_primeAbove_22 rfl (lv_at hl 0 rfl) ?_
          refine lv_lconst (v := (1 : Int64)) hx hb dX3_primeAbove_23 (by decide) ?_
          refine lv_ladd hx hb dX3_primeAbove_24 ?_
          refine lv_topl (fun x3_6 e_x3_6 => ?_)
          replace h := h x3_6 e_x3_6
          refine lv_lstore_n (lv' := [(3, .long x3_6), (0, .ref h_a0)]) hx hb dX3_primeAbove_25 rfl hl (by decide) rfl (fun ls hl => ?_)
          refine lv_goto (tgt := 4) hx hb dX3_primeAbove_26 (by decide) ?_
          exact ih_4_1 x3_6 (Nat.lt_of_lt_of_le h.2 (Nat.le_of_lt_succ hm_4_1)) h.1 _ _ _ (lv_sub hl [0, 1] rfl) (hP.sub [0, 1] rfl) (hD.sub [0, 1] (by decide) rfl) hS
        · replace h := h.2 c_5
          refine lv_lload_n hx hb dX3_primeAbove_20 rfl (lv_at hl 0 rfl) ?_
          have hP9 := hP.sub (ws' := [(h_a0, .inr (3, [.ref q_a0_table, .int a0_many])), (q_a0_table, .inl (cI, 9592, .inl a0_table))]) [0, 1] rfl
          have hD9 := hD.sub (ws' := [(h_a0, .inr (3, [.ref q_a0_table, .int a0_many])), (q_a0_table, .inl (cI, 9592, .inl a0_table))]) [0, 1] (by decide) rfl
          exact W.lret (v := l3_4_1) hx hb hr (fun t ht hW => ⟨⟨_, (), rfl, h, by rw [ht]; exact hP9, hD9⟩, hS.F ht⟩) hS.2.2 dX3_primeAbove_21
  exact key_4_1 _ x3_1 (Nat.lt_succ_self _) h0_4_1 _ _ _ (lv_sub hl [0, 1] rfl) (hP.sub [0, 1] rfl) (hD.sub [0, 1] (by decide) rfl) hS
def wp_X3_primeBelow (a0_table : Nat → Int32) (a0_many : Int32) (p1 : Int64) (Q : Int64 → Prop) : Prop :=
  (∀ x3_1 : Int64, x3_1 = (p1 - (1 : Int64)) → (∃ (I_4_1 : Int64 → Prop) (m_4_1 : Int64 → Nat), I_4_1 x3_1 ∧ ∀ (l3_4_1 : Int64), I_4_1 l3_4_1 → ((l3_4_1 < (2 : Int64) → Q (0 : Int64)) ∧ (¬ l3_4_1 < (2 : Int64) → wp_X3_isPrime a0_table a0_many l3_4_1 (fun r_4 => ((r_4 = (0 : Int32) → (∀ x3_6 : Int64, x3_6 = (l3_4_1 - (1 : Int64)) → (I_4_1 x3_6 ∧ m_4_1 x3_6 < m_4_1 l3_4_1))) ∧ (¬ r_4 = (0 : Int32) → Q l3_4_1)))))))
abbrev rm_X3_primeBelow : Room := { frames := 2, cells := 0, slots := 0, locals := 46 }
abbrev qc_X3_primeBelow (dC : Nat → ClassId) (dI : Nat → Nat → Nat) (cI cJ cZ : ClassId) (h_a0 : Nat) (a0_table : Nat → Int32) (q_a0_table : Nat) (a0_many : Int32) (Q : Int64 → Prop) (A : Nat → Prop) : Array Value → State → Outcome → State → Prop := va_Ql (fun (r : Int64) (_ : Unit) => Q r) (post_ dC dI A (fun (u : Unit) => [(h_a0, .inr (3, [.ref q_a0_table, .int a0_many])), (q_a0_table, .inl (cI, 9592, .inl a0_table))])) A
set_option maxHeartbeats 4000000 in
set_option maxRecDepth 100000 in
theorem c_X3_primeBelow (l : Launch) (dC : Nat → ClassId) (dI : Nat → Nat → Nat) (cI cJ cZ : ClassId) (sz : Nat) (h_a0 : Nat) (a0_table : Nat → Int32) (q_a0_table : Nat) (a0_many : Int32) (p1 : Int64) (Q : Int64 → Prop) (hQ : wp_X3_primeBelow a0_table a0_many p1 Q) : Met l yX3_primeBelow wsX3_primeBelow rm_X3_primeBelow (pre_ dC dI cI cJ cZ [.ref h_a0, .long p1] [(h_a0, .inr (3, [.ref q_a0_table, .int a0_many])), (q_a0_table, .inl (cI, 9592, .inl a0_table))] sz) (qc_X3_primeBelow dC dI cI cJ cZ h_a0 a0_table q_a0_table a0_many Q (va_A [(h_a0, .inr (3, [.ref q_a0_table, .int a0_many])), (q_a0_table, .inl (cI, 9592, .inl a0_table))] sz)) 0 0 (va_A [(h_a0, .inr (3, [.ref q_a0_table, .int a0_many])), (q_a0_table, .inl (cI, 9592, .inl a0_table))] sz) := by
  refine Met.ofW (cc := cX3_primeBelow) (maxL := 5) (ret := (some .long)) (by decide) rfl ?_
  intro p e s m args below meth c s₁ B hml hv
  obtain ⟨rfl, hsz, hP, hK, hN, hD0⟩ := hv
  have hx := B.exec
  have hb := B.bytes
  have hr := B.returns
  have hts := atoms_spec (ws := wsX3_primeBelow) B.pre
  have hown : s.vm.findClass RX3 = some m.cls := findClass_of_methodNamed B.named
  subst hsz
  have hD := hD0.self (sz := s.heap.size)
  generalize hAe : va_A [(h_a0, .inr (3, [.ref q_a0_table, .int a0_many])), (q_a0_table, .inl (cI, 9592, .inl a0_table))] s.heap.size = A at hD ⊢
  have hA : ∀ q : Nat, s.heap.size ≤ q → A q := fun q h => by rw [← hAe]; exact Or.inr h
  have hS : va_S A s.heap s.heap [] := va_S.rf
  have hl := lv_entry ([.ref h_a0, .long p1]) (n := 5) (Nat.le_of_ble_eq_true rfl)
  rw [lg_entry_eq]
  generalize (lg_sl ([.ref h_a0, .long p1]) ++ List.replicate (5 - (lg_sl ([.ref h_a0, .long p1])).length) Slot.unset).toArray = ls at hl ⊢
  have hl : lv_has ls 5 [(0, .ref h_a0), (1, .long p1)] := hl
  have h := hQ
  unfold wp_X3_primeBelow at h
  have hw_0 := hts (.constantLong RX3 41 (2)) (by decide +kernel)
  refine lv_lload_n hx hb dX3_primeBelow_0 rfl (lv_at hl 1 rfl) ?_
  refine lv_lconst (v := (1 : Int64)) hx hb dX3_primeBelow_1 (by decide) ?_
  refine lv_lsub hx hb dX3_primeBelow_2 ?_
  refine lv_topl (fun x3_1 e_x3_1 => ?_)
  replace h := h x3_1 e_x3_1
  refine lv_lstore_n (lv' := [(3, .long x3_1), (0, .ref h_a0), (1, .long p1)]) hx hb dX3_primeBelow_3 rfl hl (by decide) rfl (fun ls hl => ?_)
  obtain ⟨I_4_1, m_4_1, h0_4_1, hs_4_1⟩ := h
  have key_4_1 : ∀ (n : Nat) (l3_4_1 : Int64), m_4_1 l3_4_1 < n → I_4_1 l3_4_1 → ∀ (ls : Array Slot) (H : Heap) (locs : List Loc), lv_has ls 5 [(3, .long l3_4_1), (0, .ref h_a0)] → va_P (dC, dI) vwCl [(h_a0, .inr (3, [.ref q_a0_table, .int a0_many])), (q_a0_table, .inl (cI, 9592, .inl a0_table))] H → va_D A [(h_a0, .inr (3, [.ref q_a0_table, .int a0_many])), (q_a0_table, .inl (cI, 9592, .inl a0_table))] → va_S A s.heap H locs → W p l e (headSpec wsX3_primeBelow rm_X3_primeBelow).room s m ([.ref h_a0, .long p1] : List Value).toArray below meth c H locs 0 0 (MQ below (qc_X3_primeBelow dC dI cI cJ cZ h_a0 a0_table q_a0_table a0_many Q A) ([.ref h_a0, .long p1] : List Value).toArray s 0 0 A) (F0 m 4 ls []) := by
    intro n
    induction n with
    | zero =>
      intro l3_4_1 hm
      exact absurd hm (Nat.not_lt_zero _)
    | succ n ih_4_1 =>
      intro l3_4_1 hm_4_1 hI ls H locs hl hP hD hS
      have h := hs_4_1 l3_4_1 hI
      refine lv_lload_n hx hb dX3_primeBelow_4 rfl (lv_at hl 0 rfl) ?_
      refine lv_ldc2 hx hb hown hw_0 dX3_primeBelow_5 ?_
      refine W.lcmp hx hb dX3_primeBelow_8 ?_
      refine lv_if_lt (tgt := 29) hx hb dX3_primeBelow_9 (by decide) (fun c_3 => ?_) (fun c_3 => ?_)
      · replace c_3 := (lg_cmp_lt _ _).mp c_3
        replace h := h.1 c_3
        refine lv_lconst (v := (0 : Int64)) hx hb dX3_primeBelow_29 (by decide) ?_
        have hP9 := hP.sub (ws' := [(h_a0, .inr (3, [.ref q_a0_table, .int a0_many])), (q_a0_table, .inl (cI, 9592, .inl a0_table))]) [0, 1] rfl
        have hD9 := hD.sub (ws' := [(h_a0, .inr (3, [.ref q_a0_table, .int a0_many])), (q_a0_table, .inl (cI, 9592, .inl a0_table))]) [0, 1] (by decide) rfl
        exact W.lret (v := (0 : Int64)) hx hb hr (fun t ht hW => ⟨⟨_, (), rfl, h, by rw [ht]; exact hP9, hD9⟩, hS.F ht⟩) hS.2.2 dX3_primeBelow_30
      · replace c_3 := lc_nlt c_3
        replace h := h.2 c_3
        refine lv_aload_n hx hb dX3_primeBelow_12 rfl (lv_at hl 1 rfl) ?_
        refine lv_lload_n hx hb dX3_primeBelow_13 rfl (lv_at hl 0 rfl) ?_
        have hPc := hP.sub (ws' := [(h_a0, .inr (3, [.ref q_a0_table, .int a0_many])), (q_a0_table, .inl (cI, 9592, .inl a0_table))]) [0, 1] rfl
        have hDc := hD.sub (ws' := [(h_a0, .inr (3, [.ref q_a0_table, .int a0_many])), (q_a0_table, .inl (cI, 9592, .inl a0_table))]) [0, 1] (by decide) rfl
        have hFc := va_free (wc := [(h_a0, .inr (3, [.ref q_a0_table, .int a0_many])), (q_a0_table, .inl (cI, 9592, .inl a0_table))]) hD hS hA [0, 1] rfl
        refine va_calli (va_runV (As := [.long l3_4_1]) (rest := []) ⟨hx, hb, hml, hown, hts⟩ (c_X3_isPrime l dC dI cI cJ cZ _ h_a0 a0_table q_a0_table a0_many l3_4_1 _ h) (cwV 1 hts gX3_primeBelow_X3_isPrime rfl rfl rfl (by decide +kernel) ⟨Nat.le_of_ble_eq_true rfl, Nat.le_of_ble_eq_true rfl⟩) ⟨pre_fb, va_recv hK hPc (ci := 3) (q0 := 0) rfl rfl, pre_of hPc hDc hK hN⟩ rfl rfl hl.1 rfl (lv_room (Nat.le_of_ble_eq_true rfl)) dX3_primeBelow_14 ⟨by first | exact Nat.le_of_ble_eq_true rfl | exact Nat.le_refl _, by first | exact Nat.le_of_ble_eq_true rfl | exact Nat.le_refl _⟩) hS (fun q _ h => hFc q h) hFc (fun r_4 u t H1 locs ht hvm h hB hz1 hk1 hS => ?_)
        obtain ⟨hP1, hD1⟩ := hB
        rw [ht] at hP1
        try dsimp only at h
        obtain ⟨hP, hD⟩ := va_join (wr := []) (w1 := [(h_a0, .inr (3, [.ref q_a0_table, .int a0_many])), (q_a0_table, .inl (cI, 9592, .inl a0_table))]) hP hD [0, 1] [] rfl rfl (by decide) (by decide) hk1 hFc hP1 hD1
        generalize H1 = H at hP hS ⊢
        have hP : va_P (dC, dI) vwCl [(h_a0, .inr (3, [.ref q_a0_table, .int a0_many])), (q_a0_table, .inl (cI, 9592, .inl a0_table))] H := hP
        have hD : va_D A [(h_a0, .inr (3, [.ref q_a0_table, .int a0_many])), (q_a0_table, .inl (cI, 9592, .inl a0_table))] := hD
        refine lv_if_eq (tgt := 22) hx hb dX3_primeBelow_17 (by decide) (fun c_5 => ?_) (fun c_5 => ?_)
        · replace h := h.1 c_5
          refine lv_lload_n hx hb dX3_primeBelow_22 rfl (lv_at hl 0 rfl) ?_
          refine lv_lconst (v := (1 : Int64)) hx hb dX3_primeBelow_23 (by decide) ?_
          refine lv_lsub hx hb dX3_primeBelow_24 ?_
          refine lv_topl (fun x3_6 e_x3_6 => ?_)
          replace h := h x3_6 e_x3_6
          refine lv_lstore_n (lv' := [(3, .long x3_6), (0, .ref h_a0)]) hx hb dX3_primeBelow_25 rfl hl (by decide) rfl (fun ls hl => ?_)
          refine lv_goto (tgt := 4) hx hb dX3_primeBelow_26 (by decide) ?_
          exact ih_4_1 x3_6 (Nat.lt_of_lt_of_le h.2 (Nat.le_of_lt_succ hm_4_1)) h.1 _ _ _ (lv_sub hl [0, 1] rfl) (hP.sub [0, 1] rfl) (hD.sub [0, 1] (by decide) rfl) hS
        · replace h := h.2 c_5
          refine lv_lload_n hx hb dX3_primeBelow_20 rfl (lv_at hl 0 rfl) ?_
          have hP9 := hP.sub (ws' := [(h_a0, .inr (3, [.ref q_a0_table, .int a0_many])), (q_a0_table, .inl (cI, 9592, .inl a0_table))]) [0, 1] rfl
          have hD9 := hD.sub (ws' := [(h_a0, .inr (3, [.ref q_a0_table, .int a0_many])), (q_a0_table, .inl (cI, 9592, .inl a0_table))]) [0, 1] (by decide) rfl
          exact W.lret (v := l3_4_1) hx hb hr (fun t ht hW => ⟨⟨_, (), rfl, h, by rw [ht]; exact hP9, hD9⟩, hS.F ht⟩) hS.2.2 dX3_primeBelow_21
  exact key_4_1 _ x3_1 (Nat.lt_succ_self _) h0_4_1 _ _ _ (lv_sub hl [0, 1] rfl) (hP.sub [0, 1] rfl) (hD.sub [0, 1] (by decide) rfl) hS

def wp_X6_init   (Q : (Nat → Int64) → (Nat → Int64) → (Nat → Int64) → (Nat → Int64) → Int64 → Int32 → Int32 → Int32 → Int32 → Int32 → Prop) : Prop :=
  wp_X0_init 79 (5000 : Int32) (fun o_5 => Q (fun _ => 0) (fun _ => 0) (fun _ => 0) o_5 (1 : Int64) (0 : Int32) (0 : Int32) (0 : Int32) (0 : Int32) (0 : Int32))
abbrev rm_X6_init : Room := { frames := 2, cells := 5, slots := 15080, locals := 41 }
abbrev qc_X6_init (dC : Nat → ClassId) (dI : Nat → Nat → Nat) (cI cJ cZ : ClassId) (h_a0 : Nat) (Q : (Nat → Int64) → (Nat → Int64) → (Nat → Int64) → (Nat → Int64) → Int64 → Int32 → Int32 → Int32 → Int32 → Int32 → Prop) (A : Nat → Prop) : Array Value → State → Outcome → State → Prop := va_Qv (fun (u : Nat × Nat × Nat × Nat × Nat × (Nat → Int64) × (Nat → Int64) × (Nat → Int64) × (Nat → Int64) × Int64 × Int32 × Int32 × Int32 × Int32 × Int32) => Q u.2.2.2.2.2.1 u.2.2.2.2.2.2.1 u.2.2.2.2.2.2.2.1 u.2.2.2.2.2.2.2.2.1 u.2.2.2.2.2.2.2.2.2.1 u.2.2.2.2.2.2.2.2.2.2.1 u.2.2.2.2.2.2.2.2.2.2.2.1 u.2.2.2.2.2.2.2.2.2.2.2.2.1 u.2.2.2.2.2.2.2.2.2.2.2.2.2.1 u.2.2.2.2.2.2.2.2.2.2.2.2.2.2) (post_ dC dI A (fun (u : Nat × Nat × Nat × Nat × Nat × (Nat → Int64) × (Nat → Int64) × (Nat → Int64) × (Nat → Int64) × Int64 × Int32 × Int32 × Int32 × Int32 × Int32) => [(h_a0, .inr (6, [.ref u.1, .ref u.2.1, .ref u.2.2.1, .ref u.2.2.2.1, .long u.2.2.2.2.2.2.2.2.2.1, .int u.2.2.2.2.2.2.2.2.2.2.1, .int u.2.2.2.2.2.2.2.2.2.2.2.1, .int u.2.2.2.2.2.2.2.2.2.2.2.2.1, .int u.2.2.2.2.2.2.2.2.2.2.2.2.2.1, .int u.2.2.2.2.2.2.2.2.2.2.2.2.2.2])), (u.1, .inl (cJ, 5000, .inr (.inl (u.2.2.2.2.2.1)))), (u.2.1, .inl (cJ, 5000, .inr (.inl (u.2.2.2.2.2.2.1)))), (u.2.2.1, .inl (cJ, 5000, .inr (.inl (u.2.2.2.2.2.2.2.1)))), (u.2.2.2.1, .inr (0, [.ref u.2.2.2.2.1])), (u.2.2.2.2.1, .inl (cJ, 79, .inr (.inl (u.2.2.2.2.2.2.2.2.1))))])) A
set_option maxHeartbeats 4000000 in
set_option maxRecDepth 100000 in
theorem c_X6_init (l : Launch) (dC : Nat → ClassId) (dI : Nat → Nat → Nat) (cI cJ cZ : ClassId) (sz : Nat) (h_a0 : Nat)  (Q : (Nat → Int64) → (Nat → Int64) → (Nat → Int64) → (Nat → Int64) → Int64 → Int32 → Int32 → Int32 → Int32 → Int32 → Prop) (hQ : wp_X6_init  Q) : Met l yX6_init wsX6_init rm_X6_init (pre_ dC dI cI cJ cZ [.ref h_a0] [(h_a0, .inr (6, [.null, .null, .null, .null, .long (0 : Int64), .int (0 : Int32), .int (0 : Int32), .int (0 : Int32), .int (0 : Int32), .int (0 : Int32)]))] sz) (qc_X6_init dC dI cI cJ cZ h_a0 Q (va_A [(h_a0, .inr (6, [.null, .null, .null, .null, .long (0 : Int64), .int (0 : Int32), .int (0 : Int32), .int (0 : Int32), .int (0 : Int32), .int (0 : Int32)]))] sz)) 5 15080 (va_A [(h_a0, .inr (6, [.null, .null, .null, .null, .long (0 : Int64), .int (0 : Int32), .int (0 : Int32), .int (0 : Int32), .int (0 : Int32), .int (0 : Int32)]))] sz) := by
  refine Met.ofW (cc := cX6_init) (maxL := 1) (ret := none) (by decide) rfl ?_
  intro p e s m args below meth c s₁ B hml hv
  obtain ⟨rfl, hsz, hP, hK, hN, hD0⟩ := hv
  have hx := B.exec
  have hb := B.bytes
  have hr := B.returns
  have hts := atoms_spec (ws := wsX6_init) B.pre
  have hown : s.vm.findClass RX6 = some m.cls := findClass_of_methodNamed B.named
  have hin0 : meth.name = "<init>" := (name_of_methodNamed B.named B.method).1
  subst hsz
  have hD := hD0.self (sz := s.heap.size)
  generalize hAe : va_A [(h_a0, .inr (6, [.null, .null, .null, .null, .long (0 : Int64), .int (0 : Int32), .int (0 : Int32), .int (0 : Int32), .int (0 : Int32), .int (0 : Int32)]))] s.heap.size = A at hD ⊢
  have hA : ∀ q : Nat, s.heap.size ≤ q → A q := fun q h => by rw [← hAe]; exact Or.inr h
  have hS : va_S A s.heap s.heap [] := va_S.rf
  have hl := lv_entry ([.ref h_a0]) (n := 1) (Nat.le_of_ble_eq_true rfl)
  rw [lg_entry_eq]
  generalize (lg_sl ([.ref h_a0]) ++ List.replicate (1 - (lg_sl ([.ref h_a0])).length) Slot.unset).toArray = ls at hl ⊢
  have hl : lv_has ls 1 [(0, .ref h_a0)] := hl
  have h := hQ
  unfold wp_X6_init at h
  have hw_0 := hts (.methodLink RX6 3 objectInit) (by decide +kernel)
  have hw_1 := hts (.instanceMethod objectInit) (by decide +kernel)
  have hw_2 := hts (.code objectInit ⟨#[0xb1]⟩ 1 none) (by decide +kernel)
  have hw_3 := hts (.arrayClass .long) (by decide +kernel)
  have hw_4 := hts (.fieldLink RX6 9 "NumberSieves$Span" "leasts" "[J") (by decide +kernel)
  have hin_X6 : ∀ w ∈ wsX60, w ∈ wsX6_init := by decide +kernel
  have hw_6 := hts (.fieldLink RX6 15 "NumberSieves$Span" "greatests" "[J") (by decide +kernel)
  have hw_7 := hts (.fieldLink RX6 18 "NumberSieves$Span" "rests" "[J") (by decide +kernel)
  have hin_X0 : ∀ w ∈ wsX00, w ∈ wsX6_init := by decide +kernel
  have hw_9 := hts (.classLink RX6 21 RX0) (by decide +kernel)
  have hw_10 := hts (.instantiable RX0 1) (by decide +kernel)
  have hw_11 := hts (.initialized RX0) (by decide +kernel)
  have hw_12 := hts (.methodLink RX6 23 yX0_init) (by decide +kernel)
  have hw_13 := hts (.instanceMethod yX0_init) (by decide +kernel)
  have hw_14 := hts (.fieldLink RX6 26 "NumberSieves$Span" "squared" "LNumberSieves$Marks;") (by decide +kernel)
  have hw_15 := hts (.fieldLink RX6 30 "NumberSieves$Span" "from" "J") (by decide +kernel)
  have hw_16 := hts (.fieldLink RX6 34 "NumberSieves$Span" "many" "I") (by decide +kernel)
  refine lv_aload_n hx hb dX6_init_0 rfl (lv_at hl 0 rfl) ?_
  refine W.objInit hx hb hown hw_0 hw_1 hw_2 rfl (by rw [hml]; exact hl.1) rfl dX6_init_1 (Nat.le_of_ble_eq_true rfl) (Nat.le_of_ble_eq_true rfl) ?_
  refine W.eq (g2 := F0 m 4 ls []) rfl ?_
  refine lv_aload_n hx hb dX6_init_4 rfl (lv_at hl 0 rfl) ?_
  refine lv_sipush (v := (5000 : Int32)) hx hb dX6_init_5 (by decide) ?_
  refine va_newa (atype := .long) (ty := .long) (a0 := (5000, .inr (.inl (fun _ => 0)))) (N' := 5000) hx hb hw_3 rfl hK hP hD hS hA (fun _ => rfl) (by decide) (by decide) (by decide) (by first | exact Nat.le_refl _ | exact Nat.le_of_ble_eq_true rfl) (by first | exact Nat.le_refl _ | exact Nat.le_of_ble_eq_true rfl | exact Nat.le_of_eq (Nat.zero_add _)) dX6_init_8 (fun q_1 cA H hK9 hP hD hS => ?_)
  rw [cls_J hK9] at hP hD
  have hP : va_P (dC, dI) vwCl [(h_a0, .inr (6, [.null, .null, .null, .null, .long (0 : Int64), .int (0 : Int32), .int (0 : Int32), .int (0 : Int32), .int (0 : Int32), .int (0 : Int32)])), (q_1, .inl (cJ, 5000, .inr (.inl (fun _ => 0))))] H := hP
  have hD : va_D A [(h_a0, .inr (6, [.null, .null, .null, .null, .long (0 : Int64), .int (0 : Int32), .int (0 : Int32), .int (0 : Int32), .int (0 : Int32), .int (0 : Int32)])), (q_1, .inl (cJ, 5000, .inr (.inl (fun _ => 0))))] := hD
  refine W.widen (k := 1) (n := 5000) (by omega) (by omega) ?_
  refine va_putF (D := (dC, dI)) (ci := 6) (v := .ref q_1) (ty := .array .long) (C := RX6) (T := TX6) (N := 10) hx hb hts hin_X6 tyX6 tyX6_ok nmX6 hown hK hP hD hS 0 rfl rfl 0 (by decide) hw_4 (fun _ h9 => h9) rfl hin0 rfl (by decide +kernel) rfl rfl (Nat.le_of_ble_eq_true rfl) dX6_init_10 (fun H locs hP hD hS => ?_)
  have hP : va_P (dC, dI) vwCl [(h_a0, .inr (6, [.ref q_1, .null, .null, .null, .long (0 : Int64), .int (0 : Int32), .int (0 : Int32), .int (0 : Int32), .int (0 : Int32), .int (0 : Int32)])), (q_1, .inl (cJ, 5000, .inr (.inl (fun _ => 0))))] H := hP
  have hD : va_D A [(h_a0, .inr (6, [.ref q_1, .null, .null, .null, .long (0 : Int64), .int (0 : Int32), .int (0 : Int32), .int (0 : Int32), .int (0 : Int32), .int (0 : Int32)])), (q_1, .inl (cJ, 5000, .inr (.inl (fun _ => 0))))] := hD
  refine lv_aload_n hx hb dX6_init_13 rfl (lv_at hl 0 rfl) ?_
  refine lv_sipush (v := (5000 : Int32)) hx hb dX6_init_14 (by decide) ?_
  refine va_newa (atype := .long) (ty := .long) (a0 := (5000, .inr (.inl (fun _ => 0)))) (N' := 5000) hx hb hw_3 rfl hK hP hD hS hA (fun _ => rfl) (by decide) (by decide) (by decide) (by first | exact Nat.le_refl _ | exact Nat.le_of_ble_eq_true rfl) (by first | exact Nat.le_refl _ | exact Nat.le_of_ble_eq_true rfl | exact Nat.le_of_eq (Nat.zero_add _)) dX6_init_17 (fun q_2 cA H hK9 hP hD hS => ?_)
  rw [cls_J hK9] at hP hD
  have hP : va_P (dC, dI) vwCl [(h_a0, .inr (6, [.ref q_1, .null, .null, .null, .long (0 : Int64), .int (0 : Int32), .int (0 : Int32), .int (0 : Int32), .int (0 : Int32), .int (0 : Int32)])), (q_1, .inl (cJ, 5000, .inr (.inl (fun _ => 0)))), (q_2, .inl (cJ, 5000, .inr (.inl (fun _ => 0))))] H := hP
  have hD : va_D A [(h_a0, .inr (6, [.ref q_1, .null, .null, .null, .long (0 : Int64), .int (0 : Int32), .int (0 : Int32), .int (0 : Int32), .int (0 : Int32), .int (0 : Int32)])), (q_1, .inl (cJ, 5000, .inr (.inl (fun _ => 0)))), (q_2, .inl (cJ, 5000, .inr (.inl (fun _ => 0))))] := hD
  refine W.widen (k := 2) (n := 10000) (by omega) (by omega) ?_
  refine va_putF (D := (dC, dI)) (ci := 6) (v := .ref q_2) (ty := .array .long) (C := RX6) (T := TX6) (N := 10) hx hb hts hin_X6 tyX6 tyX6_ok nmX6 hown hK hP hD hS 0 rfl rfl 1 (by decide) hw_6 (fun _ h9 => h9) rfl hin0 rfl (by decide +kernel) rfl rfl (Nat.le_of_ble_eq_true rfl) dX6_init_19 (fun H locs hP hD hS => ?_)
  have hP : va_P (dC, dI) vwCl [(h_a0, .inr (6, [.ref q_1, .ref q_2, .null, .null, .long (0 : Int64), .int (0 : Int32), .int (0 : Int32), .int (0 : Int32), .int (0 : Int32), .int (0 : Int32)])), (q_1, .inl (cJ, 5000, .inr (.inl (fun _ => 0)))), (q_2, .inl (cJ, 5000, .inr (.inl (fun _ => 0))))] H := hP
  have hD : va_D A [(h_a0, .inr (6, [.ref q_1, .ref q_2, .null, .null, .long (0 : Int64), .int (0 : Int32), .int (0 : Int32), .int (0 : Int32), .int (0 : Int32), .int (0 : Int32)])), (q_1, .inl (cJ, 5000, .inr (.inl (fun _ => 0)))), (q_2, .inl (cJ, 5000, .inr (.inl (fun _ => 0))))] := hD
  refine lv_aload_n hx hb dX6_init_22 rfl (lv_at hl 0 rfl) ?_
  refine lv_sipush (v := (5000 : Int32)) hx hb dX6_init_23 (by decide) ?_
  refine va_newa (atype := .long) (ty := .long) (a0 := (5000, .inr (.inl (fun _ => 0)))) (N' := 5000) hx hb hw_3 rfl hK hP hD hS hA (fun _ => rfl) (by decide) (by decide) (by decide) (by first | exact Nat.le_refl _ | exact Nat.le_of_ble_eq_true rfl) (by first | exact Nat.le_refl _ | exact Nat.le_of_ble_eq_true rfl | exact Nat.le_of_eq (Nat.zero_add _)) dX6_init_26 (fun q_3 cA H hK9 hP hD hS => ?_)
  rw [cls_J hK9] at hP hD
  have hP : va_P (dC, dI) vwCl [(h_a0, .inr (6, [.ref q_1, .ref q_2, .null, .null, .long (0 : Int64), .int (0 : Int32), .int (0 : Int32), .int (0 : Int32), .int (0 : Int32), .int (0 : Int32)])), (q_1, .inl (cJ, 5000, .inr (.inl (fun _ => 0)))), (q_2, .inl (cJ, 5000, .inr (.inl (fun _ => 0)))), (q_3, .inl (cJ, 5000, .inr (.inl (fun _ => 0))))] H := hP
  have hD : va_D A [(h_a0, .inr (6, [.ref q_1, .ref q_2, .null, .null, .long (0 : Int64), .int (0 : Int32), .int (0 : Int32), .int (0 : Int32), .int (0 : Int32), .int (0 : Int32)])), (q_1, .inl (cJ, 5000, .inr (.inl (fun _ => 0)))), (q_2, .inl (cJ, 5000, .inr (.inl (fun _ => 0)))), (q_3, .inl (cJ, 5000, .inr (.inl (fun _ => 0))))] := hD
  refine W.widen (k := 3) (n := 15000) (by omega) (by omega) ?_
  refine va_putF (D := (dC, dI)) (ci := 6) (v := .ref q_3) (ty := .array .long) (C := RX6) (T := TX6) (N := 10) hx hb hts hin_X6 tyX6 tyX6_ok nmX6 hown hK hP hD hS 0 rfl rfl 2 (by decide) hw_7 (fun _ h9 => h9) rfl hin0 rfl (by decide +kernel) rfl rfl (Nat.le_of_ble_eq_true rfl) dX6_init_28 (fun H locs hP hD hS => ?_)
  have hP : va_P (dC, dI) vwCl [(h_a0, .inr (6, [.ref q_1, .ref q_2, .ref q_3, .null, .long (0 : Int64), .int (0 : Int32), .int (0 : Int32), .int (0 : Int32), .int (0 : Int32), .int (0 : Int32)])), (q_1, .inl (cJ, 5000, .inr (.inl (fun _ => 0)))), (q_2, .inl (cJ, 5000, .inr (.inl (fun _ => 0)))), (q_3, .inl (cJ, 5000, .inr (.inl (fun _ => 0))))] H := hP
  have hD : va_D A [(h_a0, .inr (6, [.ref q_1, .ref q_2, .ref q_3, .null, .long (0 : Int64), .int (0 : Int32), .int (0 : Int32), .int (0 : Int32), .int (0 : Int32), .int (0 : Int32)])), (q_1, .inl (cJ, 5000, .inr (.inl (fun _ => 0)))), (q_2, .inl (cJ, 5000, .inr (.inl (fun _ => 0)))), (q_3, .inl (cJ, 5000, .inr (.inl (fun _ => 0))))] := hD
  refine lv_aload_n hx hb dX6_init_31 rfl (lv_at hl 0 rfl) ?_
  refine va_new (ci := 0) (fs := [.null]) (C := RX0) (T := TX0) (N := 1) hx hb hts hin_X0 tyX0 tyX0_ok hown hw_9 hw_10 hw_11 hK hP hD hS hA rfl (by decide +kernel) (Nat.le_of_ble_eq_true rfl) (Nat.le_of_ble_eq_true rfl) dX6_init_32 (fun q_4 H hP hD hS => ?_)
  have hP : va_P (dC, dI) vwCl [(h_a0, .inr (6, [.ref q_1, .ref q_2, .ref q_3, .null, .long (0 : Int64), .int (0 : Int32), .int (0 : Int32), .int (0 : Int32), .int (0 : Int32), .int (0 : Int32)])), (q_1, .inl (cJ, 5000, .inr (.inl (fun _ => 0)))), (q_2, .inl (cJ, 5000, .inr (.inl (fun _ => 0)))), (q_3, .inl (cJ, 5000, .inr (.inl (fun _ => 0)))), (q_4, .inr (0, [.null]))] H := hP
  have hD : va_D A [(h_a0, .inr (6, [.ref q_1, .ref q_2, .ref q_3, .null, .long (0 : Int64), .int (0 : Int32), .int (0 : Int32), .int (0 : Int32), .int (0 : Int32), .int (0 : Int32)])), (q_1, .inl (cJ, 5000, .inr (.inl (fun _ => 0)))), (q_2, .inl (cJ, 5000, .inr (.inl (fun _ => 0)))), (q_3, .inl (cJ, 5000, .inr (.inl (fun _ => 0)))), (q_4, .inr (0, [.null]))] := hD
  refine W.widen (k := 4) (n := 15001) (by omega) (by omega) ?_
  refine lv_dup hx hb dX6_init_35 rfl ?_
  refine lv_sipush (v := (5000 : Int32)) hx hb dX6_init_36 (by decide) ?_
  have hPc := hP.sub (ws' := [(q_4, .inr (0, [.null]))]) [4] rfl
  have hDc := hD.sub (ws' := [(q_4, .inr (0, [.null]))]) [4] (by decide) rfl
  have hFc := va_free (wc := [(q_4, .inr (0, [.null]))]) hD hS hA [4] rfl
  refine va_callv (va_runI (As := [.int (5000 : Int32)]) (rest := [.ref q_4, .ref h_a0]) ⟨hx, hb, hml, hown, hts⟩ (c_X0_init l dC dI cI cJ cZ _ q_4 79 (5000 : Int32) _ h) (cwI 1 hts gX6_init_X0_init rfl rfl rfl hw_11 hw_12 hw_13 rfl (by decide +kernel) ⟨Nat.le_of_ble_eq_true rfl, Nat.le_of_ble_eq_true rfl⟩) ⟨pre_fb, pre_of hPc hDc hK hN⟩ rfl rfl hl.1 rfl (lv_room (Nat.le_of_ble_eq_true rfl)) dX6_init_39 ⟨by first | exact Nat.le_of_ble_eq_true rfl | exact Nat.le_refl _, by first | exact Nat.le_of_ble_eq_true rfl | exact Nat.le_refl _⟩) hS (fun q _ h => hFc q h) hFc (fun u t H1 locs ht hvm h hB hz1 hk1 hS => ?_)
  obtain ⟨q_6, o_5⟩ := u
  obtain ⟨hP1, hD1⟩ := hB
  rw [ht] at hP1
  try dsimp only at h
  obtain ⟨hP, hD⟩ := va_join (wr := [(h_a0, .inr (6, [.ref q_1, .ref q_2, .ref q_3, .null, .long (0 : Int64), .int (0 : Int32), .int (0 : Int32), .int (0 : Int32), .int (0 : Int32), .int (0 : Int32)])), (q_1, .inl (cJ, 5000, .inr (.inl (fun _ => 0)))), (q_2, .inl (cJ, 5000, .inr (.inl (fun _ => 0)))), (q_3, .inl (cJ, 5000, .inr (.inl (fun _ => 0))))]) (w1 := [(q_4, .inr (0, [.ref q_6])), (q_6, .inl (cJ, 79, .inr (.inl o_5)))]) hP hD [4] [0, 1, 2, 3] rfl rfl (by decide) (by decide) hk1 hFc hP1 hD1
  generalize H1 = H at hP hS ⊢
  have hP : va_P (dC, dI) vwCl [(h_a0, .inr (6, [.ref q_1, .ref q_2, .ref q_3, .null, .long (0 : Int64), .int (0 : Int32), .int (0 : Int32), .int (0 : Int32), .int (0 : Int32), .int (0 : Int32)])), (q_1, .inl (cJ, 5000, .inr (.inl (fun _ => 0)))), (q_2, .inl (cJ, 5000, .inr (.inl (fun _ => 0)))), (q_3, .inl (cJ, 5000, .inr (.inl (fun _ => 0)))), (q_4, .inr (0, [.ref q_6])), (q_6, .inl (cJ, 79, .inr (.inl o_5)))] H := hP
  have hD : va_D A [(h_a0, .inr (6, [.ref q_1, .ref q_2, .ref q_3, .null, .long (0 : Int64), .int (0 : Int32), .int (0 : Int32), .int (0 : Int32), .int (0 : Int32), .int (0 : Int32)])), (q_1, .inl (cJ, 5000, .inr (.inl (fun _ => 0)))), (q_2, .inl (cJ, 5000, .inr (.inl (fun _ => 0)))), (q_3, .inl (cJ, 5000, .inr (.inl (fun _ => 0)))), (q_4, .inr (0, [.ref q_6])), (q_6, .inl (cJ, 79, .inr (.inl o_5)))] := hD
  refine W.widen (k := 5) (n := 15080) (by omega) (by omega) ?_
  refine va_putF (D := (dC, dI)) (ci := 6) (v := .ref q_4) (ty := .object "NumberSieves$Marks") (C := RX6) (T := TX6) (N := 10) hx hb hts hin_X6 tyX6 tyX6_ok nmX6 hown hK hP hD hS 0 rfl rfl 3 (by decide) hw_14 (fun _ h9 => h9) rfl hin0 rfl (by decide +kernel) rfl rfl (Nat.le_of_ble_eq_true rfl) dX6_init_42 (fun H locs hP hD hS => ?_)
  have hP : va_P (dC, dI) vwCl [(h_a0, .inr (6, [.ref q_1, .ref q_2, .ref q_3, .ref q_4, .long (0 : Int64), .int (0 : Int32), .int (0 : Int32), .int (0 : Int32), .int (0 : Int32), .int (0 : Int32)])), (q_1, .inl (cJ, 5000, .inr (.inl (fun _ => 0)))), (q_2, .inl (cJ, 5000, .inr (.inl (fun _ => 0)))), (q_3, .inl (cJ, 5000, .inr (.inl (fun _ => 0)))), (q_4, .inr (0, [.ref q_6])), (q_6, .inl (cJ, 79, .inr (.inl o_5)))] H := hP
  have hD : va_D A [(h_a0, .inr (6, [.ref q_1, .ref q_2, .ref q_3, .ref q_4, .long (0 : Int64), .int (0 : Int32), .int (0 : Int32), .int (0 : Int32), .int (0 : Int32), .int (0 : Int32)])), (q_1, .inl (cJ, 5000, .inr (.inl (fun _ => 0)))), (q_2, .inl (cJ, 5000, .inr (.inl (fun _ => 0)))), (q_3, .inl (cJ, 5000, .inr (.inl (fun _ => 0)))), (q_4, .inr (0, [.ref q_6])), (q_6, .inl (cJ, 79, .inr (.inl o_5)))] := hD
  refine lv_aload_n hx hb dX6_init_45 rfl (lv_at hl 0 rfl) ?_
  refine lv_lconst (v := (1 : Int64)) hx hb dX6_init_46 (by decide) ?_
  refine va_put (D := (dC, dI)) (ci := 6) (v := .long (1 : Int64)) (ty := .long) (C := RX6) (T := TX6) (N := 10) hx hb hts hin_X6 tyX6 tyX6_ok nmX6 hown hK hP hD hS 0 rfl rfl 4 (by decide) hw_15 (fun _ h9 => h9) rfl (by decide +kernel) rfl rfl (Nat.le_of_ble_eq_true rfl) dX6_init_47 (fun H locs hP hD hS => ?_)
  have hP : va_P (dC, dI) vwCl [(h_a0, .inr (6, [.ref q_1, .ref q_2, .ref q_3, .ref q_4, .long (1 : Int64), .int (0 : Int32), .int (0 : Int32), .int (0 : Int32), .int (0 : Int32), .int (0 : Int32)])), (q_1, .inl (cJ, 5000, .inr (.inl (fun _ => 0)))), (q_2, .inl (cJ, 5000, .inr (.inl (fun _ => 0)))), (q_3, .inl (cJ, 5000, .inr (.inl (fun _ => 0)))), (q_4, .inr (0, [.ref q_6])), (q_6, .inl (cJ, 79, .inr (.inl o_5)))] H := hP
  have hD : va_D A [(h_a0, .inr (6, [.ref q_1, .ref q_2, .ref q_3, .ref q_4, .long (1 : Int64), .int (0 : Int32), .int (0 : Int32), .int (0 : Int32), .int (0 : Int32), .int (0 : Int32)])), (q_1, .inl (cJ, 5000, .inr (.inl (fun _ => 0)))), (q_2, .inl (cJ, 5000, .inr (.inl (fun _ => 0)))), (q_3, .inl (cJ, 5000, .inr (.inl (fun _ => 0)))), (q_4, .inr (0, [.ref q_6])), (q_6, .inl (cJ, 79, .inr (.inl o_5)))] := hD
  refine lv_aload_n hx hb dX6_init_50 rfl (lv_at hl 0 rfl) ?_
  refine lv_iconst (v := (0 : Int32)) hx hb dX6_init_51 (by decide) ?_
  refine va_put (D := (dC, dI)) (ci := 6) (v := .int (0 : Int32)) (ty := .int) (C := RX6) (T := TX6) (N := 10) hx hb hts hin_X6 tyX6 tyX6_ok nmX6 hown hK hP hD hS 0 rfl rfl 5 (by decide) hw_16 (fun _ h9 => h9) rfl (by decide +kernel) rfl rfl (Nat.le_of_ble_eq_true rfl) dX6_init_52 (fun H locs hP hD hS => ?_)
  have hP : va_P (dC, dI) vwCl [(h_a0, .inr (6, [.ref q_1, .ref q_2, .ref q_3, .ref q_4, .long (1 : Int64), .int (0 : Int32), .int (0 : Int32), .int (0 : Int32), .int (0 : Int32), .int (0 : Int32)])), (q_1, .inl (cJ, 5000, .inr (.inl (fun _ => 0)))), (q_2, .inl (cJ, 5000, .inr (.inl (fun _ => 0)))), (q_3, .inl (cJ, 5000, .inr (.inl (fun _ => 0)))), (q_4, .inr (0, [.ref q_6])), (q_6, .inl (cJ, 79, .inr (.inl o_5)))] H := hP
  have hD : va_D A [(h_a0, .inr (6, [.ref q_1, .ref q_2, .ref q_3, .ref q_4, .long (1 : Int64), .int (0 : Int32), .int (0 : Int32), .int (0 : Int32), .int (0 : Int32), .int (0 : Int32)])), (q_1, .inl (cJ, 5000, .inr (.inl (fun _ => 0)))), (q_2, .inl (cJ, 5000, .inr (.inl (fun _ => 0)))), (q_3, .inl (cJ, 5000, .inr (.inl (fun _ => 0)))), (q_4, .inr (0, [.ref q_6])), (q_6, .inl (cJ, 79, .inr (.inl o_5)))] := hD
  have hP9 := hP.sub (ws' := [(h_a0, .inr (6, [.ref q_1, .ref q_2, .ref q_3, .ref q_4, .long (1 : Int64), .int (0 : Int32), .int (0 : Int32), .int (0 : Int32), .int (0 : Int32), .int (0 : Int32)])), (q_1, .inl (cJ, 5000, .inr (.inl (fun _ => 0)))), (q_2, .inl (cJ, 5000, .inr (.inl (fun _ => 0)))), (q_3, .inl (cJ, 5000, .inr (.inl (fun _ => 0)))), (q_4, .inr (0, [.ref q_6])), (q_6, .inl (cJ, 79, .inr (.inl o_5)))]) [0, 1, 2, 3, 4, 5] rfl
  have hD9 := hD.sub (ws' := [(h_a0, .inr (6, [.ref q_1, .ref q_2, .ref q_3, .ref q_4, .long (1 : Int64), .int (0 : Int32), .int (0 : Int32), .int (0 : Int32), .int (0 : Int32), .int (0 : Int32)])), (q_1, .inl (cJ, 5000, .inr (.inl (fun _ => 0)))), (q_2, .inl (cJ, 5000, .inr (.inl (fun _ => 0)))), (q_3, .inl (cJ, 5000, .inr (.inl (fun _ => 0)))), (q_4, .inr (0, [.ref q_6])), (q_6, .inl (cJ, 79, .inr (.inl o_5)))]) [0, 1, 2, 3, 4, 5] (by decide) rfl
  exact W.vret hx hb hr (fun t ht hW => ⟨⟨(q_1, q_2, q_3, q_4, q_6, (fun _ => 0), (fun _ => 0), (fun _ => 0), o_5, (1 : Int64), (0 : Int32), (0 : Int32), (0 : Int32), (0 : Int32), (0 : Int32)), rfl, h, by rw [ht]; exact hP9, hD9⟩, hS.F ht⟩) hS.2.2 dX6_init_55
def wp_X6_divideOne (a0_leasts : Nat → Int64) (a0_greatests : Nat → Int64) (a0_rests : Nat → Int64) (a0_squared_words : Nat → Int64) (a0_many : Int32) (p1 : Int32) (p2 : Int64) (Q : (Nat → Int64) → (Nat → Int64) → (Nat → Int64) → (Nat → Int64) → Prop) : Prop :=
  ((p1 < (0 : Int32) → Q a0_leasts a0_greatests a0_rests a0_squared_words) ∧ (¬ p1 < (0 : Int32) → ((a0_many ≤ p1 → Q a0_leasts a0_greatests a0_rests a0_squared_words) ∧ (¬ a0_many ≤ p1 → (((2 : Int64) ≤ p2 → (vp_in p1 5000 ∧ (((a0_leasts p1.toNatClampNeg) = (0 : Int64) → (vp_in p1 5000 ∧ (vp_in p1 5000 ∧ (vp_in p1 5000 ∧ (¬ p2 = 0 ∧ (∀ x4_24 : Int64, x4_24 = ((a0_rests p1.toNatClampNeg) / p2) → (∃ (I_59_24 : Int32 → Int64 → (Nat → Int64) → Prop) (m_59_24 : Int32 → Int64 → (Nat → Int64) → Nat), I_59_24 (0 : Int32) x4_24 a0_squared_words ∧ ∀ (l6_59_24 : Int32) (l4_59_24 : Int64) (a0_squared_words_59_24 : Nat → Int64), I_59_24 l6_59_24 l4_59_24 a0_squared_words_59_24 → (((34 : Int32) ≤ l6_59_24 → (vp_in p1 5000 ∧ Q (vp_updL a0_leasts p1.toNatClampNeg p2) (vp_updL a0_greatests p1.toNatClampNeg p2) (vp_updL a0_rests p1.toNatClampNeg l4_59_24) a0_squared_words_59_24)) ∧ (¬ (34 : Int32) ≤ l6_59_24 → (¬ p2 = 0 ∧ (((l4_59_24 - l4_59_24 / p2 * p2) = (0 : Int64) → wp_X0_mark 79 a0_squared_words_59_24 p1 (fun o_31 => (¬ p2 = 0 ∧ (∀ x4_33 : Int64, x4_33 = (l4_59_24 / p2) → (∀ x6_34 : Int32, x6_34 = l6_59_24 + (1 : Int32) → (I_59_24 x6_34 x4_33 o_31 ∧ m_59_24 x6_34 x4_33 o_31 < m_59_24 l6_59_24 l4_59_24 a0_squared_words_59_24)))))) ∧ (¬ (l4_59_24 - l4_59_24 / p2 * p2) = (0 : Int64) → (vp_in p1 5000 ∧ Q (vp_updL a0_leasts p1.toNatClampNeg p2) (vp_updL a0_greatests p1.toNatClampNeg p2) (vp_updL a0_rests p1.toNatClampNeg l4_59_24) a0_squared_words_59_24))))))))))))) ∧ (¬ (a0_leasts p1.toNatClampNeg) = (0 : Int64) → (vp_in p1 5000 ∧ (vp_in p1 5000 ∧ (¬ p2 = 0 ∧ (∀ x4_9 : Int64, x4_9 = ((a0_rests p1.toNatClampNeg) / p2) → (∃ (I_59_9 : Int32 → Int64 → (Nat → Int64) → Prop) (m_59_9 : Int32 → Int64 → (Nat → Int64) → Nat), I_59_9 (0 : Int32) x4_9 a0_squared_words ∧ ∀ (l6_59_9 : Int32) (l4_59_9 : Int64) (a0_squared_words_59_9 : Nat → Int64), I_59_9 l6_59_9 l4_59_9 a0_squared_words_59_9 → (((34 : Int32) ≤ l6_59_9 → (vp_in p1 5000 ∧ Q a0_leasts (vp_updL a0_greatests p1.toNatClampNeg p2) (vp_updL a0_rests p1.toNatClampNeg l4_59_9) a0_squared_words_59_9)) ∧ (¬ (34 : Int32) ≤ l6_59_9 → (¬ p2 = 0 ∧ (((l4_59_9 - l4_59_9 / p2 * p2) = (0 : Int64) → wp_X0_mark 79 a0_squared_words_59_9 p1 (fun o_16 => (¬ p2 = 0 ∧ (∀ x4_18 : Int64, x4_18 = (l4_59_9 / p2) → (∀ x6_19 : Int32, x6_19 = l6_59_9 + (1 : Int32) → (I_59_9 x6_19 x4_18 o_16 ∧ m_59_9 x6_19 x4_18 o_16 < m_59_9 l6_59_9 l4_59_9 a0_squared_words_59_9)))))) ∧ (¬ (l4_59_9 - l4_59_9 / p2 * p2) = (0 : Int64) → (vp_in p1 5000 ∧ Q a0_leasts (vp_updL a0_greatests p1.toNatClampNeg p2) (vp_updL a0_rests p1.toNatClampNeg l4_59_9) a0_squared_words_59_9))))))))))))))) ∧ (¬ (2 : Int64) ≤ p2 → Q a0_leasts a0_greatests a0_rests a0_squared_words))))))
abbrev rm_X6_divideOne : Room := { frames := 1, cells := 0, slots := 0, locals := 22 }
abbrev qc_X6_divideOne (dC : Nat → ClassId) (dI : Nat → Nat → Nat) (cI cJ cZ : ClassId) (h_a0 : Nat) (a0_leasts : Nat → Int64) (q_a0_leasts : Nat) (a0_greatests : Nat → Int64) (q_a0_greatests : Nat) (a0_rests : Nat → Int64) (q_a0_rests : Nat) (h_a0_squared : Nat) (a0_squared_words : Nat → Int64) (q_a0_squared_words : Nat) (a0_from : Int64) (a0_many : Int32) (a0_primeCount : Int32) (a0_gap : Int32) (a0_twins : Int32) (a0_squareFree : Int32) (Q : (Nat → Int64) → (Nat → Int64) → (Nat → Int64) → (Nat → Int64) → Prop) (A : Nat → Prop) : Array Value → State → Outcome → State → Prop := va_Qv (fun (u : (Nat → Int64) × (Nat → Int64) × (Nat → Int64) × (Nat → Int64)) => Q u.1 u.2.1 u.2.2.1 u.2.2.2) (post_ dC dI A (fun (u : (Nat → Int64) × (Nat → Int64) × (Nat → Int64) × (Nat → Int64)) => [(h_a0, .inr (6, [.ref q_a0_leasts, .ref q_a0_greatests, .ref q_a0_rests, .ref h_a0_squared, .long a0_from, .int a0_many, .int a0_primeCount, .int a0_gap, .int a0_twins, .int a0_squareFree])), (q_a0_leasts, .inl (cJ, 5000, .inr (.inl (u.1)))), (q_a0_greatests, .inl (cJ, 5000, .inr (.inl (u.2.1)))), (q_a0_rests, .inl (cJ, 5000, .inr (.inl (u.2.2.1)))), (h_a0_squared, .inr (0, [.ref q_a0_squared_words])), (q_a0_squared_words, .inl (cJ, 79, .inr (.inl (u.2.2.2))))])) A
set_option maxHeartbeats 4000000 in
set_option maxRecDepth 100000 in
theorem c_X6_divideOne (l : Launch) (dC : Nat → ClassId) (dI : Nat → Nat → Nat) (cI cJ cZ : ClassId) (sz : Nat) (h_a0 : Nat) (a0_leasts : Nat → Int64) (q_a0_leasts : Nat) (a0_greatests : Nat → Int64) (q_a0_greatests : Nat) (a0_rests : Nat → Int64) (q_a0_rests : Nat) (h_a0_squared : Nat) (a0_squared_words : Nat → Int64) (q_a0_squared_words : Nat) (a0_from : Int64) (a0_many : Int32) (a0_primeCount : Int32) (a0_gap : Int32) (a0_twins : Int32) (a0_squareFree : Int32) (p1 : Int32) (p2 : Int64) (Q : (Nat → Int64) → (Nat → Int64) → (Nat → Int64) → (Nat → Int64) → Prop) (hQ : wp_X6_divideOne a0_leasts a0_greatests a0_rests a0_squared_words a0_many p1 p2 Q) : Met l yX6_divideOne wsX6_divideOne rm_X6_divideOne (pre_ dC dI cI cJ cZ [.ref h_a0, .int p1, .long p2] [(h_a0, .inr (6, [.ref q_a0_leasts, .ref q_a0_greatests, .ref q_a0_rests, .ref h_a0_squared, .long a0_from, .int a0_many, .int a0_primeCount, .int a0_gap, .int a0_twins, .int a0_squareFree])), (q_a0_leasts, .inl (cJ, 5000, .inr (.inl a0_leasts))), (q_a0_greatests, .inl (cJ, 5000, .inr (.inl a0_greatests))), (q_a0_rests, .inl (cJ, 5000, .inr (.inl a0_rests))), (h_a0_squared, .inr (0, [.ref q_a0_squared_words])), (q_a0_squared_words, .inl (cJ, 79, .inr (.inl a0_squared_words)))] sz) (qc_X6_divideOne dC dI cI cJ cZ h_a0 a0_leasts q_a0_leasts a0_greatests q_a0_greatests a0_rests q_a0_rests h_a0_squared a0_squared_words q_a0_squared_words a0_from a0_many a0_primeCount a0_gap a0_twins a0_squareFree Q (va_A [(h_a0, .inr (6, [.ref q_a0_leasts, .ref q_a0_greatests, .ref q_a0_rests, .ref h_a0_squared, .long a0_from, .int a0_many, .int a0_primeCount, .int a0_gap, .int a0_twins, .int a0_squareFree])), (q_a0_leasts, .inl (cJ, 5000, .inr (.inl a0_leasts))), (q_a0_greatests, .inl (cJ, 5000, .inr (.inl a0_greatests))), (q_a0_rests, .inl (cJ, 5000, .inr (.inl a0_rests))), (h_a0_squared, .inr (0, [.ref q_a0_squared_words])), (q_a0_squared_words, .inl (cJ, 79, .inr (.inl a0_squared_words)))] sz)) 0 0 (va_A [(h_a0, .inr (6, [.ref q_a0_leasts, .ref q_a0_greatests, .ref q_a0_rests, .ref h_a0_squared, .long a0_from, .int a0_many, .int a0_primeCount, .int a0_gap, .int a0_twins, .int a0_squareFree])), (q_a0_leasts, .inl (cJ, 5000, .inr (.inl a0_leasts))), (q_a0_greatests, .inl (cJ, 5000, .inr (.inl a0_greatests))), (q_a0_rests, .inl (cJ, 5000, .inr (.inl a0_rests))), (h_a0_squared, .inr (0, [.ref q_a0_squared_words])), (q_a0_squared_words, .inl (cJ, 79, .inr (.inl a0_squared_words)))] sz) := by
  refine Met.ofW (cc := cX6_divideOne) (maxL := 7) (ret := none) (by decide) rfl ?_
  intro p e s m args below meth c s₁ B hml hv
  obtain ⟨rfl, hsz, hP, hK, hN, hD0⟩ := hv
  have hx := B.exec
  have hb := B.bytes
  have hr := B.returns
  have hts := atoms_spec (ws := wsX6_divideOne) B.pre
  have hown : s.vm.findClass RX6 = some m.cls := findClass_of_methodNamed B.named
  subst hsz
  have hD := hD0.self (sz := s.heap.size)
  generalize hAe : va_A [(h_a0, .inr (6, [.ref q_a0_leasts, .ref q_a0_greatests, .ref q_a0_rests, .ref h_a0_squared, .long a0_from, .int a0_many, .int a0_primeCount, .int a0_gap, .int a0_twins, .int a0_squareFree])), (q_a0_leasts, .inl (cJ, 5000, .inr (.inl a0_leasts))), (q_a0_greatests, .inl (cJ, 5000, .inr (.inl a0_greatests))), (q_a0_rests, .inl (cJ, 5000, .inr (.inl a0_rests))), (h_a0_squared, .inr (0, [.ref q_a0_squared_words])), (q_a0_squared_words, .inl (cJ, 79, .inr (.inl a0_squared_words)))] s.heap.size = A at hD ⊢
  have hA : ∀ q : Nat, s.heap.size ≤ q → A q := fun q h => by rw [← hAe]; exact Or.inr h
  have hS : va_S A s.heap s.heap [] := va_S.rf
  have hl := lv_entry ([.ref h_a0, .int p1, .long p2]) (n := 7) (Nat.le_of_ble_eq_true rfl)
  rw [lg_entry_eq]
  generalize (lg_sl ([.ref h_a0, .int p1, .long p2]) ++ List.replicate (7 - (lg_sl ([.ref h_a0, .int p1, .long p2])).length) Slot.unset).toArray = ls at hl ⊢
  have hl : lv_has ls 7 [(0, .ref h_a0), (1, .int p1), (2, .long p2)] := hl
  have h := hQ
  unfold wp_X6_divideOne at h
  have hw_0 := hts (.fieldLink RX6 34 "NumberSieves$Span" "many" "I") (by decide +kernel)
  have hin_X6 : ∀ w ∈ wsX60, w ∈ wsX6_divideOne := by decide +kernel
  have hw_2 := hts (.constantLong RX6 57 (2)) (by decide +kernel)
  have hw_3 := hts (.fieldLink RX6 9 "NumberSieves$Span" "leasts" "[J") (by decide +kernel)
  have hw_4 := hts (.fieldLink RX6 15 "NumberSieves$Span" "greatests" "[J") (by decide +kernel)
  have hw_5 := hts (.fieldLink RX6 18 "NumberSieves$Span" "rests" "[J") (by decide +kernel)
  have hw_6 := hts (.fieldLink RX6 26 "NumberSieves$Span" "squared" "LNumberSieves$Marks;") (by decide +kernel)
  refine lv_iload_n hx hb dX6_divideOne_0 rfl (lv_at hl 1 rfl) ?_
  refine lv_if_lt (tgt := 20) hx hb dX6_divideOne_1 (by decide) (fun c_1 => ?_) (fun c_1 => ?_)
  · replace h := h.1 c_1
    have hP9 := hP.sub (ws' := [(h_a0, .inr (6, [.ref q_a0_leasts, .ref q_a0_greatests, .ref q_a0_rests, .ref h_a0_squared, .long a0_from, .int a0_many, .int a0_primeCount, .int a0_gap, .int a0_twins, .int a0_squareFree])), (q_a0_leasts, .inl (cJ, 5000, .inr (.inl a0_leasts))), (q_a0_greatests, .inl (cJ, 5000, .inr (.inl a0_greatests))), (q_a0_rests, .inl (cJ, 5000, .inr (.inl a0_rests))), (h_a0_squared, .inr (0, [.ref q_a0_squared_words])), (q_a0_squared_words, .inl (cJ, 79, .inr (.inl a0_squared_words)))]) [0, 1, 2, 3, 4, 5] rfl
    have hD9 := hD.sub (ws' := [(h_a0, .inr (6, [.ref q_a0_leasts, .ref q_a0_greatests, .ref q_a0_rests, .ref h_a0_squared, .long a0_from, .int a0_many, .int a0_primeCount, .int a0_gap, .int a0_twins, .int a0_squareFree])), (q_a0_leasts, .inl (cJ, 5000, .inr (.inl a0_leasts))), (q_a0_greatests, .inl (cJ, 5000, .inr (.inl a0_greatests))), (q_a0_rests, .inl (cJ, 5000, .inr (.inl a0_rests))), (h_a0_squared, .inr (0, [.ref q_a0_squared_words])), (q_a0_squared_words, .inl (cJ, 79, .inr (.inl a0_squared_words)))]) [0, 1, 2, 3, 4, 5] (by decide) rfl
    exact W.vret hx hb hr (fun t ht hW => ⟨⟨(a0_leasts, a0_greatests, a0_rests, a0_squared_words), rfl, h, by rw [ht]; exact hP9, hD9⟩, hS.F ht⟩) hS.2.2 dX6_divideOne_20
  · replace h := h.2 c_1
    refine lv_iload_n hx hb dX6_divideOne_4 rfl (lv_at hl 1 rfl) ?_
    refine lv_aload_n hx hb dX6_divideOne_5 rfl (lv_at hl 0 rfl) ?_
    refine va_get (D := (dC, dI)) (ci := 6) (v := .int a0_many) (C := RX6) (T := TX6) (N := 10) hx hb hts hin_X6 hown hK hP 0 rfl rfl 5 (by decide) hw_0 (fun _ h9 => h9) rfl dX6_divideOne_6 ?_
    refine lv_icmp_ge (tgt := 20) hx hb dX6_divideOne_9 (by decide) (fun c_2 => ?_) (fun c_2 => ?_)
    · replace h := h.1 c_2
      have hP9 := hP.sub (ws' := [(h_a0, .inr (6, [.ref q_a0_leasts, .ref q_a0_greatests, .ref q_a0_rests, .ref h_a0_squared, .long a0_from, .int a0_many, .int a0_primeCount, .int a0_gap, .int a0_twins, .int a0_squareFree])), (q_a0_leasts, .inl (cJ, 5000, .inr (.inl a0_leasts))), (q_a0_greatests, .inl (cJ, 5000, .inr (.inl a0_greatests))), (q_a0_rests, .inl (cJ, 5000, .inr (.inl a0_rests))), (h_a0_squared, .inr (0, [.ref q_a0_squared_words])), (q_a0_squared_words, .inl (cJ, 79, .inr (.inl a0_squared_words)))]) [0, 1, 2, 3, 4, 5] rfl
      have hD9 := hD.sub (ws' := [(h_a0, .inr (6, [.ref q_a0_leasts, .ref q_a0_greatests, .ref q_a0_rests, .ref h_a0_squared, .long a0_from, .int a0_many, .int a0_primeCount, .int a0_gap, .int a0_twins, .int a0_squareFree])), (q_a0_leasts, .inl (cJ, 5000, .inr (.inl a0_leasts))), (q_a0_greatests, .inl (cJ, 5000, .inr (.inl a0_greatests))), (q_a0_rests, .inl (cJ, 5000, .inr (.inl a0_rests))), (h_a0_squared, .inr (0, [.ref q_a0_squared_words])), (q_a0_squared_words, .inl (cJ, 79, .inr (.inl a0_squared_words)))]) [0, 1, 2, 3, 4, 5] (by decide) rfl
      exact W.vret hx hb hr (fun t ht hW => ⟨⟨(a0_leasts, a0_greatests, a0_rests, a0_squared_words), rfl, h, by rw [ht]; exact hP9, hD9⟩, hS.F ht⟩) hS.2.2 dX6_divideOne_20
    · replace h := h.2 c_2
      refine lv_lload_n hx hb dX6_divideOne_12 rfl (lv_at hl 2 rfl) ?_
      refine lv_ldc2 hx hb hown hw_2 dX6_divideOne_13 ?_
      refine W.lcmp hx hb dX6_divideOne_16 ?_
      refine lv_if_ge (tgt := 21) hx hb dX6_divideOne_17 (by decide) (fun c_3 => ?_) (fun c_3 => ?_)
      · replace c_3 := (lg_cmp_ge _ _).mp c_3
        replace h := h.1 c_3
        refine lv_aload_n hx hb dX6_divideOne_21 rfl (lv_at hl 0 rfl) ?_
        refine va_get (D := (dC, dI)) (ci := 6) (v := .ref q_a0_leasts) (C := RX6) (T := TX6) (N := 10) hx hb hts hin_X6 hown hK hP 0 rfl rfl 0 (by decide) hw_3 (fun _ h9 => h9) rfl dX6_divideOne_22 ?_
        refine lv_iload_n hx hb dX6_divideOne_25 rfl (lv_at hl 1 rfl) ?_
        obtain ⟨hin_4, h⟩ := h
        refine va_lald hx hb hK hP 1 1 rfl rfl hin_4 dX6_divideOne_26 ?_
        refine lv_lconst (v := (0 : Int64)) hx hb dX6_divideOne_27 (by decide) ?_
        refine W.lcmp hx hb dX6_divideOne_28 ?_
        refine lv_if_ne (tgt := 39) hx hb dX6_divideOne_29 (by decide) (fun c_5 => ?_) (fun c_5 => ?_)
        · replace c_5 := lc_neq c_5
          replace h := h.2 c_5
          refine lv_aload_n hx hb dX6_divideOne_39 rfl (lv_at hl 0 rfl) ?_
          refine va_get (D := (dC, dI)) (ci := 6) (v := .ref q_a0_greatests) (C := RX6) (T := TX6) (N := 10) hx hb hts hin_X6 hown hK hP 0 rfl rfl 1 (by decide) hw_4 (fun _ h9 => h9) rfl dX6_divideOne_40 ?_
          refine lv_iload_n hx hb dX6_divideOne_43 rfl (lv_at hl 1 rfl) ?_
          refine lv_lload_n hx hb dX6_divideOne_44 rfl (lv_at hl 2 rfl) ?_
          obtain ⟨hin_6, h⟩ := h
          refine va_last hx hb hK hP hD hS 2 1 rfl rfl hin_6 dX6_divideOne_45 (fun H locs hP hD hS => ?_)
          have hP : va_P (dC, dI) vwCl [(h_a0, .inr (6, [.ref q_a0_leasts, .ref q_a0_greatests, .ref q_a0_rests, .ref h_a0_squared, .long a0_from, .int a0_many, .int a0_primeCount, .int a0_gap, .int a0_twins, .int a0_squareFree])), (q_a0_leasts, .inl (cJ, 5000, .inr (.inl a0_leasts))), (q_a0_greatests, .inl (cJ, 5000, .inr (.inl (vp_updL a0_greatests p1.toNatClampNeg p2)))), (q_a0_rests, .inl (cJ, 5000, .inr (.inl a0_rests))), (h_a0_squared, .inr (0, [.ref q_a0_squared_words])), (q_a0_squared_words, .inl (cJ, 79, .inr (.inl a0_squared_words)))] H := hP
          have hD : va_D A [(h_a0, .inr (6, [.ref q_a0_leasts, .ref q_a0_greatests, .ref q_a0_rests, .ref h_a0_squared, .long a0_from, .int a0_many, .int a0_primeCount, .int a0_gap, .int a0_twins, .int a0_squareFree])), (q_a0_leasts, .inl (cJ, 5000, .inr (.inl a0_leasts))), (q_a0_greatests, .inl (cJ, 5000, .inr (.inl (vp_updL a0_greatests p1.toNatClampNeg p2)))), (q_a0_rests, .inl (cJ, 5000, .inr (.inl a0_rests))), (h_a0_squared, .inr (0, [.ref q_a0_squared_words])), (q_a0_squared_words, .inl (cJ, 79, .inr (.inl a0_squared_words)))] := hD
          refine lv_aload_n hx hb dX6_divideOne_46 rfl (lv_at hl 0 rfl) ?_
          refine va_get (D := (dC, dI)) (ci := 6) (v := .ref q_a0_rests) (C := RX6) (T := TX6) (N := 10) hx hb hts hin_X6 hown hK hP 0 rfl rfl 2 (by decide) hw_5 (fun _ h9 => h9) rfl dX6_divideOne_47 ?_
          refine lv_iload_n hx hb dX6_divideOne_50 rfl (lv_at hl 1 rfl) ?_
          obtain ⟨hin_7, h⟩ := h
          refine va_lald hx hb hK hP 3 1 rfl rfl hin_7 dX6_divideOne_51 ?_
          refine lv_lload_n hx hb dX6_divideOne_52 rfl (lv_at hl 2 rfl) ?_
          obtain ⟨hne_8, h⟩ := h
          refine lv_ldiv hx hb dX6_divideOne_53 hne_8 ?_
          refine lv_topl (fun x4_9 e_x4_9 => ?_)
          replace h := h x4_9 e_x4_9
          refine lv_lstore (lv' := [(4, .long x4_9), (0, .ref h_a0), (1, .int p1), (2, .long p2)]) hx hb dX6_divideOne_54 hl (by decide) rfl (fun ls hl => ?_)
          refine lv_iconst (v := (0 : Int32)) hx hb dX6_divideOne_56 (by decide) ?_
          refine lv_istore (lv' := [(6, .int (0 : Int32)), (4, .long x4_9), (0, .ref h_a0), (1, .int p1), (2, .long p2)]) hx hb dX6_divideOne_57 hl (by decide) rfl (fun ls hl => ?_)
          obtain ⟨I_59_9, m_59_9, h0_59_9, hs_59_9⟩ := h
          have key_59_9 : ∀ (n : Nat) (l6_59_9 : Int32) (l4_59_9 : Int64) (a0_squared_words_59_9 : Nat → Int64), m_59_9 l6_59_9 l4_59_9 a0_squared_words_59_9 < n → I_59_9 l6_59_9 l4_59_9 a0_squared_words_59_9 → ∀ (ls : Array Slot) (H : Heap) (locs : List Loc), lv_has ls 7 [(6, .int l6_59_9), (4, .long l4_59_9), (0, .ref h_a0), (1, .int p1), (2, .long p2)] → va_P (dC, dI) vwCl [(h_a0, .inr (6, [.ref q_a0_leasts, .ref q_a0_greatests, .ref q_a0_rests, .ref h_a0_squared, .long a0_from, .int a0_many, .int a0_primeCount, .int a0_gap, .int a0_twins, .int a0_squareFree])), (q_a0_leasts, .inl (cJ, 5000, .inr (.inl a0_leasts))), (q_a0_greatests, .inl (cJ, 5000, .inr (.inl (vp_updL a0_greatests p1.toNatClampNeg p2)))), (q_a0_rests, .inl (cJ, 5000, .inr (.inl a0_rests))), (h_a0_squared, .inr (0, [.ref q_a0_squared_words])), (q_a0_squared_words, .inl (cJ, 79, .inr (.inl a0_squared_words_59_9)))] H → va_D A [(h_a0, .inr (6, [.ref q_a0_leasts, .ref q_a0_greatests, .ref q_a0_rests, .ref h_a0_squared, .long a0_from, .int a0_many, .int a0_primeCount, .int a0_gap, .int a0_twins, .int a0_squareFree])), (q_a0_leasts, .inl (cJ, 5000, .inr (.inl a0_leasts))), (q_a0_greatests, .inl (cJ, 5000, .inr (.inl (vp_updL a0_greatests p1.toNatClampNeg p2)))), (q_a0_rests, .inl (cJ, 5000, .inr (.inl a0_rests))), (h_a0_squared, .inr (0, [.ref q_a0_squared_words])), (q_a0_squared_words, .inl (cJ, 79, .inr (.inl a0_squared_words_59_9)))] → va_S A s.heap H locs → W p l e (headSpec wsX6_divideOne rm_X6_divideOne).room s m ([.ref h_a0, .int p1, .long p2] : List Value).toArray below meth c H locs 0 0 (MQ below (qc_X6_divideOne dC dI cI cJ cZ h_a0 a0_leasts q_a0_leasts a0_greatests q_a0_greatests a0_rests q_a0_rests h_a0_squared a0_squared_words q_a0_squared_words a0_from a0_many a0_primeCount a0_gap a0_twins a0_squareFree Q A) ([.ref h_a0, .int p1, .long p2] : List Value).toArray s 0 0 A) (F0 m 59 ls []) := by
            intro n
            induction n with
            | zero =>
              intro l6_59_9 l4_59_9 a0_squared_words_59_9 hm
              exact absurd hm (Nat.not_lt_zero _)
            | succ n ih_59_9 =>
              intro l6_59_9 l4_59_9 a0_squared_words_59_9 hm_59_9 hI ls H locs hl hP hD hS
              have h := hs_59_9 l6_59_9 l4_59_9 a0_squared_words_59_9 hI
              refine lv_iload hx hb dX6_divideOne_59 (lv_at hl 0 rfl) ?_
              refine lv_bipush (v := (34 : Int32)) hx hb dX6_divideOne_61 (by decide) ?_
              refine lv_icmp_ge (tgt := 95) hx hb dX6_divideOne_63 (by decide) (fun c_11 => ?_) (fun c_11 => ?_)
              · replace h := h.1 c_11
                refine lv_aload_n hx hb dX6_divideOne_95 rfl (lv_at hl 2 rfl) ?_
                refine va_get (D := (dC, dI)) (ci := 6) (v := .ref q_a0_rests) (C := RX6) (T := TX6) (N := 10) hx hb hts hin_X6 hown hK hP 0 rfl rfl 2 (by decide) hw_5 (fun _ h9 => h9) rfl dX6_divideOne_96 ?_
                refine lv_iload_n hx hb dX6_divideOne_99 rfl (lv_at hl 3 rfl) ?_
                refine lv_lload hx hb dX6_divideOne_100 (lv_at hl 1 rfl) ?_
                obtain ⟨hin_12, h⟩ := h
                refine va_last hx hb hK hP hD hS 3 1 rfl rfl hin_12 dX6_divideOne_102 (fun H locs hP hD hS => ?_)
                have hP : va_P (dC, dI) vwCl [(h_a0, .inr (6, [.ref q_a0_leasts, .ref q_a0_greatests, .ref q_a0_rests, .ref h_a0_squared, .long a0_from, .int a0_many, .int a0_primeCount, .int a0_gap, .int a0_twins, .int a0_squareFree])), (q_a0_leasts, .inl (cJ, 5000, .inr (.inl a0_leasts))), (q_a0_greatests, .inl (cJ, 5000, .inr (.inl (vp_updL a0_greatests p1.toNatClampNeg p2)))), (q_a0_rests, .inl (cJ, 5000, .inr (.inl (vp_updL a0_rests p1.toNatClampNeg l4_59_9)))), (h_a0_squared, .inr (0, [.ref q_a0_squared_words])), (q_a0_squared_words, .inl (cJ, 79, .inr (.inl a0_squared_words_59_9)))] H := hP
                have hD : va_D A [(h_a0, .inr (6, [.ref q_a0_leasts, .ref q_a0_greatests, .ref q_a0_rests, .ref h_a0_squared, .long a0_from, .int a0_many, .int a0_primeCount, .int a0_gap, .int a0_twins, .int a0_squareFree])), (q_a0_leasts, .inl (cJ, 5000, .inr (.inl a0_leasts))), (q_a0_greatests, .inl (cJ, 5000, .inr (.inl (vp_updL a0_greatests p1.toNatClampNeg p2)))), (q_a0_rests, .inl (cJ, 5000, .inr (.inl (vp_updL a0_rests p1.toNatClampNeg l4_59_9)))), (h_a0_squared, .inr (0, [.ref q_a0_squared_words])), (q_a0_squared_words, .inl (cJ, 79, .inr (.inl a0_squared_words_59_9)))] := hD
                have hP9 := hP.sub (ws' := [(h_a0, .inr (6, [.ref q_a0_leasts, .ref q_a0_greatests, .ref q_a0_rests, .ref h_a0_squared, .long a0_from, .int a0_many, .int a0_primeCount, .int a0_gap, .int a0_twins, .int a0_squareFree])), (q_a0_leasts, .inl (cJ, 5000, .inr (.inl a0_leasts))), (q_a0_greatests, .inl (cJ, 5000, .inr (.inl (vp_updL a0_greatests p1.toNatClampNeg p2)))), (q_a0_rests, .inl (cJ, 5000, .inr (.inl (vp_updL a0_rests p1.toNatClampNeg l4_59_9)))), (h_a0_squared, .inr (0, [.ref q_a0_squared_words])), (q_a0_squared_words, .inl (cJ, 79, .inr (.inl a0_squared_words_59_9)))]) [0, 1, 2, 3, 4, 5] rfl
                have hD9 := hD.sub (ws' := [(h_a0, .inr (6, [.ref q_a0_leasts, .ref q_a0_greatests, .ref q_a0_rests, .ref h_a0_squared, .long a0_from, .int a0_many, .int a0_primeCount, .int a0_gap, .int a0_twins, .int a0_squareFree])), (q_a0_leasts, .inl (cJ, 5000, .inr (.inl a0_leasts))), (q_a0_greatests, .inl (cJ, 5000, .inr (.inl (vp_updL a0_greatests p1.toNatClampNeg p2)))), (q_a0_rests, .inl (cJ, 5000, .inr (.inl (vp_updL a0_rests p1.toNatClampNeg l4_59_9)))), (h_a0_squared, .inr (0, [.ref q_a0_squared_words])), (q_a0_squared_words, .inl (cJ, 79, .inr (.inl a0_squared_words_59_9)))]) [0, 1, 2, 3, 4, 5] (by decide) rfl
                exact W.vret hx hb hr (fun t ht hW => ⟨⟨(a0_leasts, (vp_updL a0_greatests p1.toNatClampNeg p2), (vp_updL a0_rests p1.toNatClampNeg l4_59_9), a0_squared_words_59_9), rfl, h, by rw [ht]; exact hP9, hD9⟩, hS.F ht⟩) hS.2.2 dX6_divideOne_103
              · replace h := h.2 c_11
                refine lv_lload hx hb dX6_divideOne_66 (lv_at hl 1 rfl) ?_
                refine lv_lload_n hx hb dX6_divideOne_68 rfl (lv_at hl 4 rfl) ?_
                obtain ⟨hne_13, h⟩ := h
                refine lv_lrem hx hb dX6_divideOne_69 hne_13 ?_
                refine lv_lconst (v := (0 : Int64)) hx hb dX6_divideOne_70 (by decide) ?_
                refine W.lcmp hx hb dX6_divideOne_71 ?_
                refine lv_if_ne (tgt := 95) hx hb dX6_divideOne_72 (by decide) (fun c_14 => ?_) (fun c_14 => ?_)
                · replace c_14 := lc_neq c_14
                  replace h := h.2 c_14
                  refine lv_aload_n hx hb dX6_divideOne_95 rfl (lv_at hl 2 rfl) ?_
                  refine va_get (D := (dC, dI)) (ci := 6) (v := .ref q_a0_rests) (C := RX6) (T := TX6) (N := 10) hx hb hts hin_X6 hown hK hP 0 rfl rfl 2 (by decide) hw_5 (fun _ h9 => h9) rfl dX6_divideOne_96 ?_
                  refine lv_iload_n hx hb dX6_divideOne_99 rfl (lv_at hl 3 rfl) ?_
                  refine lv_lload hx hb dX6_divideOne_100 (lv_at hl 1 rfl) ?_
                  obtain ⟨hin_15, h⟩ := h
                  refine va_last hx hb hK hP hD hS 3 1 rfl rfl hin_15 dX6_divideOne_102 (fun H locs hP hD hS => ?_)
                  have hP : va_P (dC, dI) vwCl [(h_a0, .inr (6, [.ref q_a0_leasts, .ref q_a0_greatests, .ref q_a0_rests, .ref h_a0_squared, .long a0_from, .int a0_many, .int a0_primeCount, .int a0_gap, .int a0_twins, .int a0_squareFree])), (q_a0_leasts, .inl (cJ, 5000, .inr (.inl a0_leasts))), (q_a0_greatests, .inl (cJ, 5000, .inr (.inl (vp_updL a0_greatests p1.toNatClampNeg p2)))), (q_a0_rests, .inl (cJ, 5000, .inr (.inl (vp_updL a0_rests p1.toNatClampNeg l4_59_9)))), (h_a0_squared, .inr (0, [.ref q_a0_squared_words])), (q_a0_squared_words, .inl (cJ, 79, .inr (.inl a0_squared_words_59_9)))] H := hP
                  have hD : va_D A [(h_a0, .inr (6, [.ref q_a0_leasts, .ref q_a0_greatests, .ref q_a0_rests, .ref h_a0_squared, .long a0_from, .int a0_many, .int a0_primeCount, .int a0_gap, .int a0_twins, .int a0_squareFree])), (q_a0_leasts, .inl (cJ, 5000, .inr (.inl a0_leasts))), (q_a0_greatests, .inl (cJ, 5000, .inr (.inl (vp_updL a0_greatests p1.toNatClampNeg p2)))), (q_a0_rests, .inl (cJ, 5000, .inr (.inl (vp_updL a0_rests p1.toNatClampNeg l4_59_9)))), (h_a0_squared, .inr (0, [.ref q_a0_squared_words])), (q_a0_squared_words, .inl (cJ, 79, .inr (.inl a0_squared_words_59_9)))] := hD
                  have hP9 := hP.sub (ws' := [(h_a0, .inr (6, [.ref q_a0_leasts, .ref q_a0_greatests, .ref q_a0_rests, .ref h_a0_squared, .long a0_from, .int a0_many, .int a0_primeCount, .int a0_gap, .int a0_twins, .int a0_squareFree])), (q_a0_leasts, .inl (cJ, 5000, .inr (.inl a0_leasts))), (q_a0_greatests, .inl (cJ, 5000, .inr (.inl (vp_updL a0_greatests p1.toNatClampNeg p2)))), (q_a0_rests, .inl (cJ, 5000, .inr (.inl (vp_updL a0_rests p1.toNatClampNeg l4_59_9)))), (h_a0_squared, .inr (0, [.ref q_a0_squared_words])), (q_a0_squared_words, .inl (cJ, 79, .inr (.inl a0_squared_words_59_9)))]) [0, 1, 2, 3, 4, 5] rfl
                  have hD9 := hD.sub (ws' := [(h_a0, .inr (6, [.ref q_a0_leasts, .ref q_a0_greatests, .ref q_a0_rests, .ref h_a0_squared, .long a0_from, .int a0_many, .int a0_primeCount, .int a0_gap, .int a0_twins, .int a0_squareFree])), (q_a0_leasts, .inl (cJ, 5000, .inr (.inl a0_leasts))), (q_a0_greatests, .inl (cJ, 5000, .inr (.inl (vp_updL a0_greatests p1.toNatClampNeg p2)))), (q_a0_rests, .inl (cJ, 5000, .inr (.inl (vp_updL a0_rests p1.toNatClampNeg l4_59_9)))), (h_a0_squared, .inr (0, [.ref q_a0_squared_words])), (q_a0_squared_words, .inl (cJ, 79, .inr (.inl a0_squared_words_59_9)))]) [0, 1, 2, 3, 4, 5] (by decide) rfl
                  exact W.vret hx hb hr (fun t ht hW => ⟨⟨(a0_leasts, (vp_updL a0_greatests p1.toNatClampNeg p2), (vp_updL a0_rests p1.toNatClampNeg l4_59_9), a0_squared_words_59_9), rfl, h, by rw [ht]; exact hP9, hD9⟩, hS.F ht⟩) hS.2.2 dX6_divideOne_103
                · replace c_14 := (lg_cmp_eq _ _).mp c_14
                  replace h := h.1 c_14
                  refine lv_aload_n hx hb dX6_divideOne_75 rfl (lv_at hl 2 rfl) ?_
                  refine va_get (D := (dC, dI)) (ci := 6) (v := .ref h_a0_squared) (C := RX6) (T := TX6) (N := 10) hx hb hts hin_X6 hown hK hP 0 rfl rfl 3 (by decide) hw_6 (fun _ h9 => h9) rfl dX6_divideOne_76 ?_
                  refine lv_iload_n hx hb dX6_divideOne_79 rfl (lv_at hl 3 rfl) ?_
                  have hPc := hP.sub (ws' := [(h_a0_squared, .inr (0, [.ref q_a0_squared_words])), (q_a0_squared_words, .inl (cJ, 79, .inr (.inl a0_squared_words_59_9)))]) [4, 5] rfl
                  have hDc := hD.sub (ws' := [(h_a0_squared, .inr (0, [.ref q_a0_squared_words])), (q_a0_squared_words, .inl (cJ, 79, .inr (.inl a0_squared_words_59_9)))]) [4, 5] (by decide) rfl
                  have hFc := va_free (wc := [(h_a0_squared, .inr (0, [.ref q_a0_squared_words])), (q_a0_squared_words, .inl (cJ, 79, .inr (.inl a0_squared_words_59_9)))]) hD hS hA [4, 5] rfl
                  refine va_callv (va_runV (As := [.int p1]) (rest := []) ⟨hx, hb, hml, hown, hts⟩ (c_X0_mark l dC dI cI cJ cZ _ h_a0_squared 79 a0_squared_words_59_9 q_a0_squared_words p1 _ h) (cwV 1 hts gX6_divideOne_X0_mark rfl rfl rfl (by decide +kernel) ⟨Nat.le_of_ble_eq_true rfl, Nat.le_of_ble_eq_true rfl⟩) ⟨pre_fb, va_recv hK hPc (ci := 0) (q0 := 0) rfl rfl, pre_of hPc hDc hK hN⟩ rfl rfl hl.1 rfl (lv_room (Nat.le_of_ble_eq_true rfl)) dX6_divideOne_80 ⟨by first | exact Nat.le_of_ble_eq_true rfl | exact Nat.le_refl _, by first | exact Nat.le_of_ble_eq_true rfl | exact Nat.le_refl _⟩) hS (fun q _ h => hFc q h) hFc (fun u t H1 locs ht hvm h hB hz1 hk1 hS => ?_)
                  obtain ⟨o_16, rfl⟩ : ∃ z, z = u := ⟨_, rfl⟩
                  obtain ⟨hP1, hD1⟩ := hB
                  rw [ht] at hP1
                  try dsimp only at h
                  obtain ⟨hP, hD⟩ := va_join (wr := [(h_a0, .inr (6, [.ref q_a0_leasts, .ref q_a0_greatests, .ref q_a0_rests, .ref h_a0_squared, .long a0_from, .int a0_many, .int a0_primeCount, .int a0_gap, .int a0_twins, .int a0_squareFree])), (q_a0_leasts, .inl (cJ, 5000, .inr (.inl a0_leasts))), (q_a0_greatests, .inl (cJ, 5000, .inr (.inl (vp_updL a0_greatests p1.toNatClampNeg p2)))), (q_a0_rests, .inl (cJ, 5000, .inr (.inl a0_rests)))]) (w1 := [(h_a0_squared, .inr (0, [.ref q_a0_squared_words])), (q_a0_squared_words, .inl (cJ, 79, .inr (.inl o_16)))]) hP hD [4, 5] [0, 1, 2, 3] rfl rfl (by decide) (by decide) hk1 hFc hP1 hD1
                  generalize H1 = H at hP hS ⊢
                  have hP : va_P (dC, dI) vwCl [(h_a0, .inr (6, [.ref q_a0_leasts, .ref q_a0_greatests, .ref q_a0_rests, .ref h_a0_squared, .long a0_from, .int a0_many, .int a0_primeCount, .int a0_gap, .int a0_twins, .int a0_squareFree])), (q_a0_leasts, .inl (cJ, 5000, .inr (.inl a0_leasts))), (q_a0_greatests, .inl (cJ, 5000, .inr (.inl (vp_updL a0_greatests p1.toNatClampNeg p2)))), (q_a0_rests, .inl (cJ, 5000, .inr (.inl a0_rests))), (h_a0_squared, .inr (0, [.ref q_a0_squared_words])), (q_a0_squared_words, .inl (cJ, 79, .inr (.inl o_16)))] H := hP
                  have hD : va_D A [(h_a0, .inr (6, [.ref q_a0_leasts, .ref q_a0_greatests, .ref q_a0_rests, .ref h_a0_squared, .long a0_from, .int a0_many, .int a0_primeCount, .int a0_gap, .int a0_twins, .int a0_squareFree])), (q_a0_leasts, .inl (cJ, 5000, .inr (.inl a0_leasts))), (q_a0_greatests, .inl (cJ, 5000, .inr (.inl (vp_updL a0_greatests p1.toNatClampNeg p2)))), (q_a0_rests, .inl (cJ, 5000, .inr (.inl a0_rests))), (h_a0_squared, .inr (0, [.ref q_a0_squared_words])), (q_a0_squared_words, .inl (cJ, 79, .inr (.inl o_16)))] := hD
                  refine lv_lload hx hb dX6_divideOne_83 (lv_at hl 1 rfl) ?_
                  refine lv_lload_n hx hb dX6_divideOne_85 rfl (lv_at hl 4 rfl) ?_
                  obtain ⟨hne_17, h⟩ := h
                  refine lv_ldiv hx hb dX6_divideOne_86 hne_17 ?_
                  refine lv_topl (fun x4_18 e_x4_18 => ?_)
                  replace h := h x4_18 e_x4_18
                  refine lv_lstore (lv' := [(4, .long x4_18), (6, .int l6_59_9), (0, .ref h_a0), (1, .int p1), (2, .long p2)]) hx hb dX6_divideOne_87 hl (by decide) rfl (fun ls hl => ?_)
                  obtain ⟨x6_19, e_x6_19⟩ : ∃ y : Int32, y = l6_59_9 + (1 : Int32) := ⟨_, rfl⟩
                  replace h := h x6_19 e_x6_19
                  refine lv_iinc (v := x6_19) (lv' := [(6, .int x6_19), (4, .long x4_18), (0, .ref h_a0), (1, .int p1), (2, .long p2)]) hx hb dX6_divideOne_89 hl (k := 1) rfl (by rw [e_x6_19]; rfl) (by decide) rfl (fun ls hl => ?_)
                  refine lv_goto (tgt := 59) hx hb dX6_divideOne_92 (by decide) ?_
                  exact ih_59_9 x6_19 x4_18 o_16 (Nat.lt_of_lt_of_le h.2 (Nat.le_of_lt_succ hm_59_9)) h.1 _ _ _ (lv_sub hl [0, 1, 2, 3, 4] rfl) (hP.sub [0, 1, 2, 3, 4, 5] rfl) (hD.sub [0, 1, 2, 3, 4, 5] (by decide) rfl) hS
          exact key_59_9 _ (0 : Int32) x4_9 a0_squared_words (Nat.lt_succ_self _) h0_59_9 _ _ _ (lv_sub hl [0, 1, 2, 3, 4] rfl) (hP.sub [0, 1, 2, 3, 4, 5] rfl) (hD.sub [0, 1, 2, 3, 4, 5] (by decide) rfl) hS
        · replace c_5 := (lg_cmp_eq _ _).mp c_5
          replace h := h.1 c_5
          refine lv_aload_n hx hb dX6_divideOne_32 rfl (lv_at hl 0 rfl) ?_
          refine va_get (D := (dC, dI)) (ci := 6) (v := .ref q_a0_leasts) (C := RX6) (T := TX6) (N := 10) hx hb hts hin_X6 hown hK hP 0 rfl rfl 0 (by decide) hw_3 (fun _ h9 => h9) rfl dX6_divideOne_33 ?_
          refine lv_iload_n hx hb dX6_divideOne_36 rfl (lv_at hl 1 rfl) ?_
          refine lv_lload_n hx hb dX6_divideOne_37 rfl (lv_at hl 2 rfl) ?_
          obtain ⟨hin_20, h⟩ := h
          refine va_last hx hb hK hP hD hS 1 1 rfl rfl hin_20 dX6_divideOne_38 (fun H locs hP hD hS => ?_)
          have hP : va_P (dC, dI) vwCl [(h_a0, .inr (6, [.ref q_a0_leasts, .ref q_a0_greatests, .ref q_a0_rests, .ref h_a0_squared, .long a0_from, .int a0_many, .int a0_primeCount, .int a0_gap, .int a0_twins, .int a0_squareFree])), (q_a0_leasts, .inl (cJ, 5000, .inr (.inl (vp_updL a0_leasts p1.toNatClampNeg p2)))), (q_a0_greatests, .inl (cJ, 5000, .inr (.inl a0_greatests))), (q_a0_rests, .inl (cJ, 5000, .inr (.inl a0_rests))), (h_a0_squared, .inr (0, [.ref q_a0_squared_words])), (q_a0_squared_words, .inl (cJ, 79, .inr (.inl a0_squared_words)))] H := hP
          have hD : va_D A [(h_a0, .inr (6, [.ref q_a0_leasts, .ref q_a0_greatests, .ref q_a0_rests, .ref h_a0_squared, .long a0_from, .int a0_many, .int a0_primeCount, .int a0_gap, .int a0_twins, .int a0_squareFree])), (q_a0_leasts, .inl (cJ, 5000, .inr (.inl (vp_updL a0_leasts p1.toNatClampNeg p2)))), (q_a0_greatests, .inl (cJ, 5000, .inr (.inl a0_greatests))), (q_a0_rests, .inl (cJ, 5000, .inr (.inl a0_rests))), (h_a0_squared, .inr (0, [.ref q_a0_squared_words])), (q_a0_squared_words, .inl (cJ, 79, .inr (.inl a0_squared_words)))] := hD
          refine lv_aload_n hx hb dX6_divideOne_39 rfl (lv_at hl 0 rfl) ?_
          refine va_get (D := (dC, dI)) (ci := 6) (v := .ref q_a0_greatests) (C := RX6) (T := TX6) (N := 10) hx hb hts hin_X6 hown hK hP 0 rfl rfl 1 (by decide) hw_4 (fun _ h9 => h9) rfl dX6_divideOne_40 ?_
          refine lv_iload_n hx hb dX6_divideOne_43 rfl (lv_at hl 1 rfl) ?_
          refine lv_lload_n hx hb dX6_divideOne_44 rfl (lv_at hl 2 rfl) ?_
          obtain ⟨hin_21, h⟩ := h
          refine va_last hx hb hK hP hD hS 2 1 rfl rfl hin_21 dX6_divideOne_45 (fun H locs hP hD hS => ?_)
          have hP : va_P (dC, dI) vwCl [(h_a0, .inr (6, [.ref q_a0_leasts, .ref q_a0_greatests, .ref q_a0_rests, .ref h_a0_squared, .long a0_from, .int a0_many, .int a0_primeCount, .int a0_gap, .int a0_twins, .int a0_squareFree])), (q_a0_leasts, .inl (cJ, 5000, .inr (.inl (vp_updL a0_leasts p1.toNatClampNeg p2)))), (q_a0_greatests, .inl (cJ, 5000, .inr (.inl (vp_updL a0_greatests p1.toNatClampNeg p2)))), (q_a0_rests, .inl (cJ, 5000, .inr (.inl a0_rests))), (h_a0_squared, .inr (0, [.ref q_a0_squared_words])), (q_a0_squared_words, .inl (cJ, 79, .inr (.inl a0_squared_words)))] H := hP
          have hD : va_D A [(h_a0, .inr (6, [.ref q_a0_leasts, .ref q_a0_greatests, .ref q_a0_rests, .ref h_a0_squared, .long a0_from, .int a0_many, .int a0_primeCount, .int a0_gap, .int a0_twins, .int a0_squareFree])), (q_a0_leasts, .inl (cJ, 5000, .inr (.inl (vp_updL a0_leasts p1.toNatClampNeg p2)))), (q_a0_greatests, .inl (cJ, 5000, .inr (.inl (vp_updL a0_greatests p1.toNatClampNeg p2)))), (q_a0_rests, .inl (cJ, 5000, .inr (.inl a0_rests))), (h_a0_squared, .inr (0, [.ref q_a0_squared_words])), (q_a0_squared_words, .inl (cJ, 79, .inr (.inl a0_squared_words)))] := hD
          refine lv_aload_n hx hb dX6_divideOne_46 rfl (lv_at hl 0 rfl) ?_
          refine va_get (D := (dC, dI)) (ci := 6) (v := .ref q_a0_rests) (C := RX6) (T := TX6) (N := 10) hx hb hts hin_X6 hown hK hP 0 rfl rfl 2 (by decide) hw_5 (fun _ h9 => h9) rfl dX6_divideOne_47 ?_
          refine lv_iload_n hx hb dX6_divideOne_50 rfl (lv_at hl 1 rfl) ?_
          obtain ⟨hin_22, h⟩ := h
          refine va_lald hx hb hK hP 3 1 rfl rfl hin_22 dX6_divideOne_51 ?_
          refine lv_lload_n hx hb dX6_divideOne_52 rfl (lv_at hl 2 rfl) ?_
          obtain ⟨hne_23, h⟩ := h
          refine lv_ldiv hx hb dX6_divideOne_53 hne_23 ?_
          refine lv_topl (fun x4_24 e_x4_24 => ?_)
          replace h := h x4_24 e_x4_24
          refine lv_lstore (lv' := [(4, .long x4_24), (0, .ref h_a0), (1, .int p1), (2, .long p2)]) hx hb dX6_divideOne_54 hl (by decide) rfl (fun ls hl => ?_)
          refine lv_iconst (v := (0 : Int32)) hx hb dX6_divideOne_56 (by decide) ?_
          refine lv_istore (lv' := [(6, .int (0 : Int32)), (4, .long x4_24), (0, .ref h_a0), (1, .int p1), (2, .long p2)]) hx hb dX6_divideOne_57 hl (by decide) rfl (fun ls hl => ?_)
          obtain ⟨I_59_24, m_59_24, h0_59_24, hs_59_24⟩ := h
          have key_59_24 : ∀ (n : Nat) (l6_59_24 : Int32) (l4_59_24 : Int64) (a0_squared_words_59_24 : Nat → Int64), m_59_24 l6_59_24 l4_59_24 a0_squared_words_59_24 < n → I_59_24 l6_59_24 l4_59_24 a0_squared_words_59_24 → ∀ (ls : Array Slot) (H : Heap) (locs : List Loc), lv_has ls 7 [(6, .int l6_59_24), (4, .long l4_59_24), (0, .ref h_a0), (1, .int p1), (2, .long p2)] → va_P (dC, dI) vwCl [(h_a0, .inr (6, [.ref q_a0_leasts, .ref q_a0_greatests, .ref q_a0_rests, .ref h_a0_squared, .long a0_from, .int a0_many, .int a0_primeCount, .int a0_gap, .int a0_twins, .int a0_squareFree])), (q_a0_leasts, .inl (cJ, 5000, .inr (.inl (vp_updL a0_leasts p1.toNatClampNeg p2)))), (q_a0_greatests, .inl (cJ, 5000, .inr (.inl (vp_updL a0_greatests p1.toNatClampNeg p2)))), (q_a0_rests, .inl (cJ, 5000, .inr (.inl a0_rests))), (h_a0_squared, .inr (0, [.ref q_a0_squared_words])), (q_a0_squared_words, .inl (cJ, 79, .inr (.inl a0_squared_words_59_24)))] H → va_D A [(h_a0, .inr (6, [.ref q_a0_leasts, .ref q_a0_greatests, .ref q_a0_rests, .ref h_a0_squared, .long a0_from, .int a0_many, .int a0_primeCount, .int a0_gap, .int a0_twins, .int a0_squareFree])), (q_a0_leasts, .inl (cJ, 5000, .inr (.inl (vp_updL a0_leasts p1.toNatClampNeg p2)))), (q_a0_greatests, .inl (cJ, 5000, .inr (.inl (vp_updL a0_greatests p1.toNatClampNeg p2)))), (q_a0_rests, .inl (cJ, 5000, .inr (.inl a0_rests))), (h_a0_squared, .inr (0, [.ref q_a0_squared_words])), (q_a0_squared_words, .inl (cJ, 79, .inr (.inl a0_squared_words_59_24)))] → va_S A s.heap H locs → W p l e (headSpec wsX6_divideOne rm_X6_divideOne).room s m ([.ref h_a0, .int p1, .long p2] : List Value).toArray below meth c H locs 0 0 (MQ below (qc_X6_divideOne dC dI cI cJ cZ h_a0 a0_leasts q_a0_leasts a0_greatests q_a0_greatests a0_rests q_a0_rests h_a0_squared a0_squared_words q_a0_squared_words a0_from a0_many a0_primeCount a0_gap a0_twins a0_squareFree Q A) ([.ref h_a0, .int p1, .long p2] : List Value).toArray s 0 0 A) (F0 m 59 ls []) := by
            intro n
            induction n with
            | zero =>
              intro l6_59_24 l4_59_24 a0_squared_words_59_24 hm
              exact absurd hm (Nat.not_lt_zero _)
            | succ n ih_59_24 =>
              intro l6_59_24 l4_59_24 a0_squared_words_59_24 hm_59_24 hI ls H locs hl hP hD hS
              have h := hs_59_24 l6_59_24 l4_59_24 a0_squared_words_59_24 hI
              refine lv_iload hx hb dX6_divideOne_59 (lv_at hl 0 rfl) ?_
              refine lv_bipush (v := (34 : Int32)) hx hb dX6_divideOne_61 (by decide) ?_
              refine lv_icmp_ge (tgt := 95) hx hb dX6_divideOne_63 (by decide) (fun c_26 => ?_) (fun c_26 => ?_)
              · replace h := h.1 c_26
                refine lv_aload_n hx hb dX6_divideOne_95 rfl (lv_at hl 2 rfl) ?_
                refine va_get (D := (dC, dI)) (ci := 6) (v := .ref q_a0_rests) (C := RX6) (T := TX6) (N := 10) hx hb hts hin_X6 hown hK hP 0 rfl rfl 2 (by decide) hw_5 (fun _ h9 => h9) rfl dX6_divideOne_96 ?_
                refine lv_iload_n hx hb dX6_divideOne_99 rfl (lv_at hl 3 rfl) ?_
                refine lv_lload hx hb dX6_divideOne_100 (lv_at hl 1 rfl) ?_
                obtain ⟨hin_27, h⟩ := h
                refine va_last hx hb hK hP hD hS 3 1 rfl rfl hin_27 dX6_divideOne_102 (fun H locs hP hD hS => ?_)
                have hP : va_P (dC, dI) vwCl [(h_a0, .inr (6, [.ref q_a0_leasts, .ref q_a0_greatests, .ref q_a0_rests, .ref h_a0_squared, .long a0_from, .int a0_many, .int a0_primeCount, .int a0_gap, .int a0_twins, .int a0_squareFree])), (q_a0_leasts, .inl (cJ, 5000, .inr (.inl (vp_updL a0_leasts p1.toNatClampNeg p2)))), (q_a0_greatests, .inl (cJ, 5000, .inr (.inl (vp_updL a0_greatests p1.toNatClampNeg p2)))), (q_a0_rests, .inl (cJ, 5000, .inr (.inl (vp_updL a0_rests p1.toNatClampNeg l4_59_24)))), (h_a0_squared, .inr (0, [.ref q_a0_squared_words])), (q_a0_squared_words, .inl (cJ, 79, .inr (.inl a0_squared_words_59_24)))] H := hP
                have hD : va_D A [(h_a0, .inr (6, [.ref q_a0_leasts, .ref q_a0_greatests, .ref q_a0_rests, .ref h_a0_squared, .long a0_from, .int a0_many, .int a0_primeCount, .int a0_gap, .int a0_twins, .int a0_squareFree])), (q_a0_leasts, .inl (cJ, 5000, .inr (.inl (vp_updL a0_leasts p1.toNatClampNeg p2)))), (q_a0_greatests, .inl (cJ, 5000, .inr (.inl (vp_updL a0_greatests p1.toNatClampNeg p2)))), (q_a0_rests, .inl (cJ, 5000, .inr (.inl (vp_updL a0_rests p1.toNatClampNeg l4_59_24)))), (h_a0_squared, .inr (0, [.ref q_a0_squared_words])), (q_a0_squared_words, .inl (cJ, 79, .inr (.inl a0_squared_words_59_24)))] := hD
                have hP9 := hP.sub (ws' := [(h_a0, .inr (6, [.ref q_a0_leasts, .ref q_a0_greatests, .ref q_a0_rests, .ref h_a0_squared, .long a0_from, .int a0_many, .int a0_primeCount, .int a0_gap, .int a0_twins, .int a0_squareFree])), (q_a0_leasts, .inl (cJ, 5000, .inr (.inl (vp_updL a0_leasts p1.toNatClampNeg p2)))), (q_a0_greatests, .inl (cJ, 5000, .inr (.inl (vp_updL a0_greatests p1.toNatClampNeg p2)))), (q_a0_rests, .inl (cJ, 5000, .inr (.inl (vp_updL a0_rests p1.toNatClampNeg l4_59_24)))), (h_a0_squared, .inr (0, [.ref q_a0_squared_words])), (q_a0_squared_words, .inl (cJ, 79, .inr (.inl a0_squared_words_59_24)))]) [0, 1, 2, 3, 4, 5] rfl
                have hD9 := hD.sub (ws' := [(h_a0, .inr (6, [.ref q_a0_leasts, .ref q_a0_greatests, .ref q_a0_rests, .ref h_a0_squared, .long a0_from, .int a0_many, .int a0_primeCount, .int a0_gap, .int a0_twins, .int a0_squareFree])), (q_a0_leasts, .inl (cJ, 5000, .inr (.inl (vp_updL a0_leasts p1.toNatClampNeg p2)))), (q_a0_greatests, .inl (cJ, 5000, .inr (.inl (vp_updL a0_greatests p1.toNatClampNeg p2)))), (q_a0_rests, .inl (cJ, 5000, .inr (.inl (vp_updL a0_rests p1.toNatClampNeg l4_59_24)))), (h_a0_squared, .inr (0, [.ref q_a0_squared_words])), (q_a0_squared_words, .inl (cJ, 79, .inr (.inl a0_squared_words_59_24)))]) [0, 1, 2, 3, 4, 5] (by decide) rfl
                exact W.vret hx hb hr (fun t ht hW => ⟨⟨((vp_updL a0_leasts p1.toNatClampNeg p2), (vp_updL a0_greatests p1.toNatClampNeg p2), (vp_updL a0_rests p1.toNatClampNeg l4_59_24), a0_squared_words_59_24), rfl, h, by rw [ht]; exact hP9, hD9⟩, hS.F ht⟩) hS.2.2 dX6_divideOne_103
              · replace h := h.2 c_26
                refine lv_lload hx hb dX6_divideOne_66 (lv_at hl 1 rfl) ?_
                refine lv_lload_n hx hb dX6_divideOne_68 rfl (lv_at hl 4 rfl) ?_
                obtain ⟨hne_28, h⟩ := h
                refine lv_lrem hx hb dX6_divideOne_69 hne_28 ?_
                refine lv_lconst (v := (0 : Int64)) hx hb dX6_divideOne_70 (by decide) ?_
                refine W.lcmp hx hb dX6_divideOne_71 ?_
                refine lv_if_ne (tgt := 95) hx hb dX6_divideOne_72 (by decide) (fun c_29 => ?_) (fun c_29 => ?_)
                · replace c_29 := lc_neq c_29
                  replace h := h.2 c_29
                  refine lv_aload_n hx hb dX6_divideOne_95 rfl (lv_at hl 2 rfl) ?_
                  refine va_get (D := (dC, dI)) (ci := 6) (v := .ref q_a0_rests) (C := RX6) (T := TX6) (N := 10) hx hb hts hin_X6 hown hK hP 0 rfl rfl 2 (by decide) hw_5 (fun _ h9 => h9) rfl dX6_divideOne_96 ?_
                  refine lv_iload_n hx hb dX6_divideOne_99 rfl (lv_at hl 3 rfl) ?_
                  refine lv_lload hx hb dX6_divideOne_100 (lv_at hl 1 rfl) ?_
                  obtain ⟨hin_30, h⟩ := h
                  refine va_last hx hb hK hP hD hS 3 1 rfl rfl hin_30 dX6_divideOne_102 (fun H locs hP hD hS => ?_)
                  have hP : va_P (dC, dI) vwCl [(h_a0, .inr (6, [.ref q_a0_leasts, .ref q_a0_greatests, .ref q_a0_rests, .ref h_a0_squared, .long a0_from, .int a0_many, .int a0_primeCount, .int a0_gap, .int a0_twins, .int a0_squareFree])), (q_a0_leasts, .inl (cJ, 5000, .inr (.inl (vp_updL a0_leasts p1.toNatClampNeg p2)))), (q_a0_greatests, .inl (cJ, 5000, .inr (.inl (vp_updL a0_greatests p1.toNatClampNeg p2)))), (q_a0_rests, .inl (cJ, 5000, .inr (.inl (vp_updL a0_rests p1.toNatClampNeg l4_59_24)))), (h_a0_squared, .inr (0, [.ref q_a0_squared_words])), (q_a0_squared_words, .inl (cJ, 79, .inr (.inl a0_squared_words_59_24)))] H := hP
                  have hD : va_D A [(h_a0, .inr (6, [.ref q_a0_leasts, .ref q_a0_greatests, .ref q_a0_rests, .ref h_a0_squared, .long a0_from, .int a0_many, .int a0_primeCount, .int a0_gap, .int a0_twins, .int a0_squareFree])), (q_a0_leasts, .inl (cJ, 5000, .inr (.inl (vp_updL a0_leasts p1.toNatClampNeg p2)))), (q_a0_greatests, .inl (cJ, 5000, .inr (.inl (vp_updL a0_greatests p1.toNatClampNeg p2)))), (q_a0_rests, .inl (cJ, 5000, .inr (.inl (vp_updL a0_rests p1.toNatClampNeg l4_59_24)))), (h_a0_squared, .inr (0, [.ref q_a0_squared_words])), (q_a0_squared_words, .inl (cJ, 79, .inr (.inl a0_squared_words_59_24)))] := hD
                  have hP9 := hP.sub (ws' := [(h_a0, .inr (6, [.ref q_a0_leasts, .ref q_a0_greatests, .ref q_a0_rests, .ref h_a0_squared, .long a0_from, .int a0_many, .int a0_primeCount, .int a0_gap, .int a0_twins, .int a0_squareFree])), (q_a0_leasts, .inl (cJ, 5000, .inr (.inl (vp_updL a0_leasts p1.toNatClampNeg p2)))), (q_a0_greatests, .inl (cJ, 5000, .inr (.inl (vp_updL a0_greatests p1.toNatClampNeg p2)))), (q_a0_rests, .inl (cJ, 5000, .inr (.inl (vp_updL a0_rests p1.toNatClampNeg l4_59_24)))), (h_a0_squared, .inr (0, [.ref q_a0_squared_words])), (q_a0_squared_words, .inl (cJ, 79, .inr (.inl a0_squared_words_59_24)))]) [0, 1, 2, 3, 4, 5] rfl
                  have hD9 := hD.sub (ws' := [(h_a0, .inr (6, [.ref q_a0_leasts, .ref q_a0_greatests, .ref q_a0_rests, .ref h_a0_squared, .long a0_from, .int a0_many, .int a0_primeCount, .int a0_gap, .int a0_twins, .int a0_squareFree])), (q_a0_leasts, .inl (cJ, 5000, .inr (.inl (vp_updL a0_leasts p1.toNatClampNeg p2)))), (q_a0_greatests, .inl (cJ, 5000, .inr (.inl (vp_updL a0_greatests p1.toNatClampNeg p2)))), (q_a0_rests, .inl (cJ, 5000, .inr (.inl (vp_updL a0_rests p1.toNatClampNeg l4_59_24)))), (h_a0_squared, .inr (0, [.ref q_a0_squared_words])), (q_a0_squared_words, .inl (cJ, 79, .inr (.inl a0_squared_words_59_24)))]) [0, 1, 2, 3, 4, 5] (by decide) rfl
                  exact W.vret hx hb hr (fun t ht hW => ⟨⟨((vp_updL a0_leasts p1.toNatClampNeg p2), (vp_updL a0_greatests p1.toNatClampNeg p2), (vp_updL a0_rests p1.toNatClampNeg l4_59_24), a0_squared_words_59_24), rfl, h, by rw [ht]; exact hP9, hD9⟩, hS.F ht⟩) hS.2.2 dX6_divideOne_103
                · replace c_29 := (lg_cmp_eq _ _).mp c_29
                  replace h := h.1 c_29
                  refine lv_aload_n hx hb dX6_divideOne_75 rfl (lv_at hl 2 rfl) ?_
                  refine va_get (D := (dC, dI)) (ci := 6) (v := .ref h_a0_squared) (C := RX6) (T := TX6) (N := 10) hx hb hts hin_X6 hown hK hP 0 rfl rfl 3 (by decide) hw_6 (fun _ h9 => h9) rfl dX6_divideOne_76 ?_
                  refine lv_iload_n hx hb dX6_divideOne_79 rfl (lv_at hl 3 rfl) ?_
                  have hPc := hP.sub (ws' := [(h_a0_squared, .inr (0, [.ref q_a0_squared_words])), (q_a0_squared_words, .inl (cJ, 79, .inr (.inl a0_squared_words_59_24)))]) [4, 5] rfl
                  have hDc := hD.sub (ws' := [(h_a0_squared, .inr (0, [.ref q_a0_squared_words])), (q_a0_squared_words, .inl (cJ, 79, .inr (.inl a0_squared_words_59_24)))]) [4, 5] (by decide) rfl
                  have hFc := va_free (wc := [(h_a0_squared, .inr (0, [.ref q_a0_squared_words])), (q_a0_squared_words, .inl (cJ, 79, .inr (.inl a0_squared_words_59_24)))]) hD hS hA [4, 5] rfl
                  refine va_callv (va_runV (As := [.int p1]) (rest := []) ⟨hx, hb, hml, hown, hts⟩ (c_X0_mark l dC dI cI cJ cZ _ h_a0_squared 79 a0_squared_words_59_24 q_a0_squared_words p1 _ h) (cwV 1 hts gX6_divideOne_X0_mark rfl rfl rfl (by decide +kernel) ⟨Nat.le_of_ble_eq_true rfl, Nat.le_of_ble_eq_true rfl⟩) ⟨pre_fb, va_recv hK hPc (ci := 0) (q0 := 0) rfl rfl, pre_of hPc hDc hK hN⟩ rfl rfl hl.1 rfl (lv_room (Nat.le_of_ble_eq_true rfl)) dX6_divideOne_80 ⟨by first | exact Nat.le_of_ble_eq_true rfl | exact Nat.le_refl _, by first | exact Nat.le_of_ble_eq_true rfl | exact Nat.le_refl _⟩) hS (fun q _ h => hFc q h) hFc (fun u t H1 locs ht hvm h hB hz1 hk1 hS => ?_)
                  obtain ⟨o_31, rfl⟩ : ∃ z, z = u := ⟨_, rfl⟩
                  obtain ⟨hP1, hD1⟩ := hB
                  rw [ht] at hP1
                  try dsimp only at h
                  obtain ⟨hP, hD⟩ := va_join (wr := [(h_a0, .inr (6, [.ref q_a0_leasts, .ref q_a0_greatests, .ref q_a0_rests, .ref h_a0_squared, .long a0_from, .int a0_many, .int a0_primeCount, .int a0_gap, .int a0_twins, .int a0_squareFree])), (q_a0_leasts, .inl (cJ, 5000, .inr (.inl (vp_updL a0_leasts p1.toNatClampNeg p2)))), (q_a0_greatests, .inl (cJ, 5000, .inr (.inl (vp_updL a0_greatests p1.toNatClampNeg p2)))), (q_a0_rests, .inl (cJ, 5000, .inr (.inl a0_rests)))]) (w1 := [(h_a0_squared, .inr (0, [.ref q_a0_squared_words])), (q_a0_squared_words, .inl (cJ, 79, .inr (.inl o_31)))]) hP hD [4, 5] [0, 1, 2, 3] rfl rfl (by decide) (by decide) hk1 hFc hP1 hD1
                  generalize H1 = H at hP hS ⊢
                  have hP : va_P (dC, dI) vwCl [(h_a0, .inr (6, [.ref q_a0_leasts, .ref q_a0_greatests, .ref q_a0_rests, .ref h_a0_squared, .long a0_from, .int a0_many, .int a0_primeCount, .int a0_gap, .int a0_twins, .int a0_squareFree])), (q_a0_leasts, .inl (cJ, 5000, .inr (.inl (vp_updL a0_leasts p1.toNatClampNeg p2)))), (q_a0_greatests, .inl (cJ, 5000, .inr (.inl (vp_updL a0_greatests p1.toNatClampNeg p2)))), (q_a0_rests, .inl (cJ, 5000, .inr (.inl a0_rests))), (h_a0_squared, .inr (0, [.ref q_a0_squared_words])), (q_a0_squared_words, .inl (cJ, 79, .inr (.inl o_31)))] H := hP
                  have hD : va_D A [(h_a0, .inr (6, [.ref q_a0_leasts, .ref q_a0_greatests, .ref q_a0_rests, .ref h_a0_squared, .long a0_from, .int a0_many, .int a0_primeCount, .int a0_gap, .int a0_twins, .int a0_squareFree])), (q_a0_leasts, .inl (cJ, 5000, .inr (.inl (vp_updL a0_leasts p1.toNatClampNeg p2)))), (q_a0_greatests, .inl (cJ, 5000, .inr (.inl (vp_updL a0_greatests p1.toNatClampNeg p2)))), (q_a0_rests, .inl (cJ, 5000, .inr (.inl a0_rests))), (h_a0_squared, .inr (0, [.ref q_a0_squared_words])), (q_a0_squared_words, .inl (cJ, 79, .inr (.inl o_31)))] := hD
                  refine lv_lload hx hb dX6_divideOne_83 (lv_at hl 1 rfl) ?_
                  refine lv_lload_n hx hb dX6_divideOne_85 rfl (lv_at hl 4 rfl) ?_
                  obtain ⟨hne_32, h⟩ := h
                  refine lv_ldiv hx hb dX6_divideOne_86 hne_32 ?_
                  refine lv_topl (fun x4_33 e_x4_33 => ?_)
                  replace h := h x4_33 e_x4_33
                  refine lv_lstore (lv' := [(4, .long x4_33), (6, .int l6_59_24), (0, .ref h_a0), (1, .int p1), (2, .long p2)]) hx hb dX6_divideOne_87 hl (by decide) rfl (fun ls hl => ?_)
                  obtain ⟨x6_34, e_x6_34⟩ : ∃ y : Int32, y = l6_59_24 + (1 : Int32) := ⟨_, rfl⟩
                  replace h := h x6_34 e_x6_34
                  refine lv_iinc (v := x6_34) (lv' := [(6, .int x6_34), (4, .long x4_33), (0, .ref h_a0), (1, .int p1), (2, .long p2)]) hx hb dX6_divideOne_89 hl (k := 1) rfl (by rw [e_x6_34]; rfl) (by decide) rfl (fun ls hl => ?_)
                  refine lv_goto (tgt := 59) hx hb dX6_divideOne_92 (by decide) ?_
                  exact ih_59_24 x6_34 x4_33 o_31 (Nat.lt_of_lt_of_le h.2 (Nat.le_of_lt_succ hm_59_24)) h.1 _ _ _ (lv_sub hl [0, 1, 2, 3, 4] rfl) (hP.sub [0, 1, 2, 3, 4, 5] rfl) (hD.sub [0, 1, 2, 3, 4, 5] (by decide) rfl) hS
          exact key_59_24 _ (0 : Int32) x4_24 a0_squared_words (Nat.lt_succ_self _) h0_59_24 _ _ _ (lv_sub hl [0, 1, 2, 3, 4] rfl) (hP.sub [0, 1, 2, 3, 4, 5] rfl) (hD.sub [0, 1, 2, 3, 4, 5] (by decide) rfl) hS
      · replace c_3 := lc_nge c_3
        replace h := h.2 c_3
        have hP9 := hP.sub (ws' := [(h_a0, .inr (6, [.ref q_a0_leasts, .ref q_a0_greatests, .ref q_a0_rests, .ref h_a0_squared, .long a0_from, .int a0_many, .int a0_primeCount, .int a0_gap, .int a0_twins, .int a0_squareFree])), (q_a0_leasts, .inl (cJ, 5000, .inr (.inl a0_leasts))), (q_a0_greatests, .inl (cJ, 5000, .inr (.inl a0_greatests))), (q_a0_rests, .inl (cJ, 5000, .inr (.inl a0_rests))), (h_a0_squared, .inr (0, [.ref q_a0_squared_words])), (q_a0_squared_words, .inl (cJ, 79, .inr (.inl a0_squared_words)))]) [0, 1, 2, 3, 4, 5] rfl
        have hD9 := hD.sub (ws' := [(h_a0, .inr (6, [.ref q_a0_leasts, .ref q_a0_greatests, .ref q_a0_rests, .ref h_a0_squared, .long a0_from, .int a0_many, .int a0_primeCount, .int a0_gap, .int a0_twins, .int a0_squareFree])), (q_a0_leasts, .inl (cJ, 5000, .inr (.inl a0_leasts))), (q_a0_greatests, .inl (cJ, 5000, .inr (.inl a0_greatests))), (q_a0_rests, .inl (cJ, 5000, .inr (.inl a0_rests))), (h_a0_squared, .inr (0, [.ref q_a0_squared_words])), (q_a0_squared_words, .inl (cJ, 79, .inr (.inl a0_squared_words)))]) [0, 1, 2, 3, 4, 5] (by decide) rfl
        exact W.vret hx hb hr (fun t ht hW => ⟨⟨(a0_leasts, a0_greatests, a0_rests, a0_squared_words), rfl, h, by rw [ht]; exact hP9, hD9⟩, hS.F ht⟩) hS.2.2 dX6_divideOne_20
def wp_X6_divideAll (a0_leasts : Nat → Int64) (a0_greatests : Nat → Int64) (a0_rests : Nat → Int64) (a0_squared_words : Nat → Int64) (a0_from : Int64) (a0_many : Int32) (p1 : Int64) (Q : (Nat → Int64) → (Nat → Int64) → (Nat → Int64) → (Nat → Int64) → Prop) : Prop :=
  (((2 : Int64) ≤ p1 → (¬ p1 = 0 ∧ (∀ x3_3 : Int64, x3_3 = (a0_from - a0_from / p1 * p1) → ((x3_3 = (0 : Int64) → (∃ (I_31_12 : Int64 → (Nat → Int64) → (Nat → Int64) → (Nat → Int64) → (Nat → Int64) → Prop) (m_31_12 : Int64 → (Nat → Int64) → (Nat → Int64) → (Nat → Int64) → (Nat → Int64) → Nat), I_31_12 (0 : Int64) a0_leasts a0_greatests a0_rests a0_squared_words ∧ ∀ (l5_31_12 : Int64) (a0_leasts_31_12 : Nat → Int64) (a0_greatests_31_12 : Nat → Int64) (a0_rests_31_12 : Nat → Int64) (a0_squared_words_31_12 : Nat → Int64), I_31_12 l5_31_12 a0_leasts_31_12 a0_greatests_31_12 a0_rests_31_12 a0_squared_words_31_12 → ((a0_many.toInt64 ≤ l5_31_12 → Q a0_leasts_31_12 a0_greatests_31_12 a0_rests_31_12 a0_squared_words_31_12) ∧ (¬ a0_many.toInt64 ≤ l5_31_12 → wp_X6_divideOne a0_leasts_31_12 a0_greatests_31_12 a0_rests_31_12 a0_squared_words_31_12 a0_many (l5_31_12.toInt32) p1 (fun o_15 o_16 o_17 o_18 => (∀ x5_19 : Int64, x5_19 = (l5_31_12 + p1) → (I_31_12 x5_19 o_15 o_16 o_17 o_18 ∧ m_31_12 x5_19 o_15 o_16 o_17 o_18 < m_31_12 l5_31_12 a0_leasts_31_12 a0_greatests_31_12 a0_rests_31_12 a0_squared_words_31_12))))))) ∧ (¬ x3_3 = (0 : Int64) → (∀ x5_5 : Int64, x5_5 = (p1 - x3_3) → (∃ (I_31_5 : Int64 → (Nat → Int64) → (Nat → Int64) → (Nat → Int64) → (Nat → Int64) → Prop) (m_31_5 : Int64 → (Nat → Int64) → (Nat → Int64) → (Nat → Int64) → (Nat → Int64) → Nat), I_31_5 x5_5 a0_leasts a0_greatests a0_rests a0_squared_words ∧ ∀ (l5_31_5 : Int64) (a0_leasts_31_5 : Nat → Int64) (a0_greatests_31_5 : Nat → Int64) (a0_rests_31_5 : Nat → Int64) (a0_squared_words_31_5 : Nat → Int64), I_31_5 l5_31_5 a0_leasts_31_5 a0_greatests_31_5 a0_rests_31_5 a0_squared_words_31_5 → ((a0_many.toInt64 ≤ l5_31_5 → Q a0_leasts_31_5 a0_greatests_31_5 a0_rests_31_5 a0_squared_words_31_5) ∧ (¬ a0_many.toInt64 ≤ l5_31_5 → wp_X6_divideOne a0_leasts_31_5 a0_greatests_31_5 a0_rests_31_5 a0_squared_words_31_5 a0_many (l5_31_5.toInt32) p1 (fun o_8 o_9 o_10 o_11 => (∀ x5_12 : Int64, x5_12 = (l5_31_5 + p1) → (I_31_5 x5_12 o_8 o_9 o_10 o_11 ∧ m_31_5 x5_12 o_8 o_9 o_10 o_11 < m_31_5 l5_31_5 a0_leasts_31_5 a0_greatests_31_5 a0_rests_31_5 a0_squared_words_31_5)))))))))))) ∧ (¬ (2 : Int64) ≤ p1 → Q a0_leasts a0_greatests a0_rests a0_squared_words))
abbrev rm_X6_divideAll : Room := { frames := 2, cells := 0, slots := 0, locals := 48 }
abbrev qc_X6_divideAll (dC : Nat → ClassId) (dI : Nat → Nat → Nat) (cI cJ cZ : ClassId) (h_a0 : Nat) (a0_leasts : Nat → Int64) (q_a0_leasts : Nat) (a0_greatests : Nat → Int64) (q_a0_greatests : Nat) (a0_rests : Nat → Int64) (q_a0_rests : Nat) (h_a0_squared : Nat) (a0_squared_words : Nat → Int64) (q_a0_squared_words : Nat) (a0_from : Int64) (a0_many : Int32) (a0_primeCount : Int32) (a0_gap : Int32) (a0_twins : Int32) (a0_squareFree : Int32) (Q : (Nat → Int64) → (Nat → Int64) → (Nat → Int64) → (Nat → Int64) → Prop) (A : Nat → Prop) : Array Value → State → Outcome → State → Prop := va_Qv (fun (u : (Nat → Int64) × (Nat → Int64) × (Nat → Int64) × (Nat → Int64)) => Q u.1 u.2.1 u.2.2.1 u.2.2.2) (post_ dC dI A (fun (u : (Nat → Int64) × (Nat → Int64) × (Nat → Int64) × (Nat → Int64)) => [(h_a0, .inr (6, [.ref q_a0_leasts, .ref q_a0_greatests, .ref q_a0_rests, .ref h_a0_squared, .long a0_from, .int a0_many, .int a0_primeCount, .int a0_gap, .int a0_twins, .int a0_squareFree])), (q_a0_leasts, .inl (cJ, 5000, .inr (.inl (u.1)))), (q_a0_greatests, .inl (cJ, 5000, .inr (.inl (u.2.1)))), (q_a0_rests, .inl (cJ, 5000, .inr (.inl (u.2.2.1)))), (h_a0_squared, .inr (0, [.ref q_a0_squared_words])), (q_a0_squared_words, .inl (cJ, 79, .inr (.inl (u.2.2.2))))])) A
set_option maxHeartbeats 4000000 in
set_option maxRecDepth 100000 in
theorem c_X6_divideAll (l : Launch) (dC : Nat → ClassId) (dI : Nat → Nat → Nat) (cI cJ cZ : ClassId) (sz : Nat) (h_a0 : Nat) (a0_leasts : Nat → Int64) (q_a0_leasts : Nat) (a0_greatests : Nat → Int64) (q_a0_greatests : Nat) (a0_rests : Nat → Int64) (q_a0_rests : Nat) (h_a0_squared : Nat) (a0_squared_words : Nat → Int64) (q_a0_squared_words : Nat) (a0_from : Int64) (a0_many : Int32) (a0_primeCount : Int32) (a0_gap : Int32) (a0_twins : Int32) (a0_squareFree : Int32) (p1 : Int64) (Q : (Nat → Int64) → (Nat → Int64) → (Nat → Int64) → (Nat → Int64) → Prop) (hQ : wp_X6_divideAll a0_leasts a0_greatests a0_rests a0_squared_words a0_from a0_many p1 Q) : Met l yX6_divideAll wsX6_divideAll rm_X6_divideAll (pre_ dC dI cI cJ cZ [.ref h_a0, .long p1] [(h_a0, .inr (6, [.ref q_a0_leasts, .ref q_a0_greatests, .ref q_a0_rests, .ref h_a0_squared, .long a0_from, .int a0_many, .int a0_primeCount, .int a0_gap, .int a0_twins, .int a0_squareFree])), (q_a0_leasts, .inl (cJ, 5000, .inr (.inl a0_leasts))), (q_a0_greatests, .inl (cJ, 5000, .inr (.inl a0_greatests))), (q_a0_rests, .inl (cJ, 5000, .inr (.inl a0_rests))), (h_a0_squared, .inr (0, [.ref q_a0_squared_words])), (q_a0_squared_words, .inl (cJ, 79, .inr (.inl a0_squared_words)))] sz) (qc_X6_divideAll dC dI cI cJ cZ h_a0 a0_leasts q_a0_leasts a0_greatests q_a0_greatests a0_rests q_a0_rests h_a0_squared a0_squared_words q_a0_squared_words a0_from a0_many a0_primeCount a0_gap a0_twins a0_squareFree Q (va_A [(h_a0, .inr (6, [.ref q_a0_leasts, .ref q_a0_greatests, .ref q_a0_rests, .ref h_a0_squared, .long a0_from, .int a0_many, .int a0_primeCount, .int a0_gap, .int a0_twins, .int a0_squareFree])), (q_a0_leasts, .inl (cJ, 5000, .inr (.inl a0_leasts))), (q_a0_greatests, .inl (cJ, 5000, .inr (.inl a0_greatests))), (q_a0_rests, .inl (cJ, 5000, .inr (.inl a0_rests))), (h_a0_squared, .inr (0, [.ref q_a0_squared_words])), (q_a0_squared_words, .inl (cJ, 79, .inr (.inl a0_squared_words)))] sz)) 0 0 (va_A [(h_a0, .inr (6, [.ref q_a0_leasts, .ref q_a0_greatests, .ref q_a0_rests, .ref h_a0_squared, .long a0_from, .int a0_many, .int a0_primeCount, .int a0_gap, .int a0_twins, .int a0_squareFree])), (q_a0_leasts, .inl (cJ, 5000, .inr (.inl a0_leasts))), (q_a0_greatests, .inl (cJ, 5000, .inr (.inl a0_greatests))), (q_a0_rests, .inl (cJ, 5000, .inr (.inl a0_rests))), (h_a0_squared, .inr (0, [.ref q_a0_squared_words])), (q_a0_squared_words, .inl (cJ, 79, .inr (.inl a0_squared_words)))] sz) := by
  refine Met.ofW (cc := cX6_divideAll) (maxL := 7) (ret := none) (by decide) rfl ?_
  intro p e s m args below meth c s₁ B hml hv
  obtain ⟨rfl, hsz, hP, hK, hN, hD0⟩ := hv
  have hx := B.exec
  have hb := B.bytes
  have hr := B.returns
  have hts := atoms_spec (ws := wsX6_divideAll) B.pre
  have hown : s.vm.findClass RX6 = some m.cls := findClass_of_methodNamed B.named
  subst hsz
  have hD := hD0.self (sz := s.heap.size)
  generalize hAe : va_A [(h_a0, .inr (6, [.ref q_a0_leasts, .ref q_a0_greatests, .ref q_a0_rests, .ref h_a0_squared, .long a0_from, .int a0_many, .int a0_primeCount, .int a0_gap, .int a0_twins, .int a0_squareFree])), (q_a0_leasts, .inl (cJ, 5000, .inr (.inl a0_leasts))), (q_a0_greatests, .inl (cJ, 5000, .inr (.inl a0_greatests))), (q_a0_rests, .inl (cJ, 5000, .inr (.inl a0_rests))), (h_a0_squared, .inr (0, [.ref q_a0_squared_words])), (q_a0_squared_words, .inl (cJ, 79, .inr (.inl a0_squared_words)))] s.heap.size = A at hD ⊢
  have hA : ∀ q : Nat, s.heap.size ≤ q → A q := fun q h => by rw [← hAe]; exact Or.inr h
  have hS : va_S A s.heap s.heap [] := va_S.rf
  have hl := lv_entry ([.ref h_a0, .long p1]) (n := 7) (Nat.le_of_ble_eq_true rfl)
  rw [lg_entry_eq]
  generalize (lg_sl ([.ref h_a0, .long p1]) ++ List.replicate (7 - (lg_sl ([.ref h_a0, .long p1])).length) Slot.unset).toArray = ls at hl ⊢
  have hl : lv_has ls 7 [(0, .ref h_a0), (1, .long p1)] := hl
  have h := hQ
  unfold wp_X6_divideAll at h
  have hw_0 := hts (.constantLong RX6 57 (2)) (by decide +kernel)
  have hw_1 := hts (.fieldLink RX6 30 "NumberSieves$Span" "from" "J") (by decide +kernel)
  have hin_X6 : ∀ w ∈ wsX60, w ∈ wsX6_divideAll := by decide +kernel
  have hw_3 := hts (.fieldLink RX6 34 "NumberSieves$Span" "many" "I") (by decide +kernel)
  refine lv_lload_n hx hb dX6_divideAll_0 rfl (lv_at hl 1 rfl) ?_
  refine lv_ldc2 hx hb hown hw_0 dX6_divideAll_1 ?_
  refine W.lcmp hx hb dX6_divideAll_4 ?_
  refine lv_if_ge (tgt := 9) hx hb dX6_divideAll_5 (by decide) (fun c_1 => ?_) (fun c_1 => ?_)
  · replace c_1 := (lg_cmp_ge _ _).mp c_1
    replace h := h.1 c_1
    refine lv_aload_n hx hb dX6_divideAll_9 rfl (lv_at hl 0 rfl) ?_
    refine va_get (D := (dC, dI)) (ci := 6) (v := .long a0_from) (C := RX6) (T := TX6) (N := 10) hx hb hts hin_X6 hown hK hP 0 rfl rfl 4 (by decide) hw_1 (fun _ h9 => h9) rfl dX6_divideAll_10 ?_
    refine lv_lload_n hx hb dX6_divideAll_13 rfl (lv_at hl 1 rfl) ?_
    obtain ⟨hne_2, h⟩ := h
    refine lv_lrem hx hb dX6_divideAll_14 hne_2 ?_
    refine lv_topl (fun x3_3 e_x3_3 => ?_)
    replace h := h x3_3 e_x3_3
    refine lv_lstore_n (lv' := [(3, .long x3_3), (0, .ref h_a0), (1, .long p1)]) hx hb dX6_divideAll_15 rfl hl (by decide) rfl (fun ls hl => ?_)
    refine lv_lload_n hx hb dX6_divideAll_16 rfl (lv_at hl 0 rfl) ?_
    refine lv_lconst (v := (0 : Int64)) hx hb dX6_divideAll_17 (by decide) ?_
    refine W.lcmp hx hb dX6_divideAll_18 ?_
    refine lv_if_ne (tgt := 26) hx hb dX6_divideAll_19 (by decide) (fun c_4 => ?_) (fun c_4 => ?_)
    · replace c_4 := lc_neq c_4
      replace h := h.2 c_4
      refine lv_lload_n hx hb dX6_divideAll_26 rfl (lv_at hl 2 rfl) ?_
      refine lv_lload_n hx hb dX6_divideAll_27 rfl (lv_at hl 0 rfl) ?_
      refine lv_lsub hx hb dX6_divideAll_28 ?_
      refine lv_topl (fun x5_5 e_x5_5 => ?_)
      replace h := h x5_5 e_x5_5
      refine lv_lstore (lv' := [(5, .long x5_5), (3, .long x3_3), (0, .ref h_a0), (1, .long p1)]) hx hb dX6_divideAll_29 hl (by decide) rfl (fun ls hl => ?_)
      obtain ⟨I_31_5, m_31_5, h0_31_5, hs_31_5⟩ := h
      have key_31_5 : ∀ (n : Nat) (l5_31_5 : Int64) (a0_leasts_31_5 : Nat → Int64) (a0_greatests_31_5 : Nat → Int64) (a0_rests_31_5 : Nat → Int64) (a0_squared_words_31_5 : Nat → Int64), m_31_5 l5_31_5 a0_leasts_31_5 a0_greatests_31_5 a0_rests_31_5 a0_squared_words_31_5 < n → I_31_5 l5_31_5 a0_leasts_31_5 a0_greatests_31_5 a0_rests_31_5 a0_squared_words_31_5 → ∀ (ls : Array Slot) (H : Heap) (locs : List Loc), lv_has ls 7 [(5, .long l5_31_5), (0, .ref h_a0), (1, .long p1)] → va_P (dC, dI) vwCl [(h_a0, .inr (6, [.ref q_a0_leasts, .ref q_a0_greatests, .ref q_a0_rests, .ref h_a0_squared, .long a0_from, .int a0_many, .int a0_primeCount, .int a0_gap, .int a0_twins, .int a0_squareFree])), (q_a0_leasts, .inl (cJ, 5000, .inr (.inl a0_leasts_31_5))), (q_a0_greatests, .inl (cJ, 5000, .inr (.inl a0_greatests_31_5))), (q_a0_rests, .inl (cJ, 5000, .inr (.inl a0_rests_31_5))), (h_a0_squared, .inr (0, [.ref q_a0_squared_words])), (q_a0_squared_words, .inl (cJ, 79, .inr (.inl a0_squared_words_31_5)))] H → va_D A [(h_a0, .inr (6, [.ref q_a0_leasts, .ref q_a0_greatests, .ref q_a0_rests, .ref h_a0_squared, .long a0_from, .int a0_many, .int a0_primeCount, .int a0_gap, .int a0_twins, .int a0_squareFree])), (q_a0_leasts, .inl (cJ, 5000, .inr (.inl a0_leasts_31_5))), (q_a0_greatests, .inl (cJ, 5000, .inr (.inl a0_greatests_31_5))), (q_a0_rests, .inl (cJ, 5000, .inr (.inl a0_rests_31_5))), (h_a0_squared, .inr (0, [.ref q_a0_squared_words])), (q_a0_squared_words, .inl (cJ, 79, .inr (.inl a0_squared_words_31_5)))] → va_S A s.heap H locs → W p l e (headSpec wsX6_divideAll rm_X6_divideAll).room s m ([.ref h_a0, .long p1] : List Value).toArray below meth c H locs 0 0 (MQ below (qc_X6_divideAll dC dI cI cJ cZ h_a0 a0_leasts q_a0_leasts a0_greatests q_a0_greatests a0_rests q_a0_rests h_a0_squared a0_squared_words q_a0_squared_words a0_from a0_many a0_primeCount a0_gap a0_twins a0_squareFree Q A) ([.ref h_a0, .long p1] : List Value).toArray s 0 0 A) (F0 m 31 ls []) := by
        intro n
        induction n with
        | zero =>
          intro l5_31_5 a0_leasts_31_5 a0_greatests_31_5 a0_rests_31_5 a0_squared_words_31_5 hm
          exact absurd hm (Nat.not_lt_zero _)
        | succ n ih_31_5 =>
          intro l5_31_5 a0_leasts_31_5 a0_greatests_31_5 a0_rests_31_5 a0_squared_words_31_5 hm_31_5 hI ls H locs hl hP hD hS
          have h := hs_31_5 l5_31_5 a0_leasts_31_5 a0_greatests_31_5 a0_rests_31_5 a0_squared_words_31_5 hI
          refine lv_lload hx hb dX6_divideAll_31 (lv_at hl 0 rfl) ?_
          refine lv_aload_n hx hb dX6_divideAll_33 rfl (lv_at hl 1 rfl) ?_
          refine va_get (D := (dC, dI)) (ci := 6) (v := .int a0_many) (C := RX6) (T := TX6) (N := 10) hx hb hts hin_X6 hown hK hP 0 rfl rfl 5 (by decide) hw_3 (fun _ h9 => h9) rfl dX6_divideAll_34 ?_
          refine lv_i2l hx hb dX6_divideAll_37 rfl ?_
          refine W.lcmp hx hb dX6_divideAll_38 ?_
          refine lv_if_ge (tgt := 59) hx hb dX6_divideAll_39 (by decide) (fun c_7 => ?_) (fun c_7 => ?_)
          · replace c_7 := (lg_cmp_ge _ _).mp c_7
            replace h := h.1 c_7
            have hP9 := hP.sub (ws' := [(h_a0, .inr (6, [.ref q_a0_leasts, .ref q_a0_greatests, .ref q_a0_rests, .ref h_a0_squared, .long a0_from, .int a0_many, .int a0_primeCount, .int a0_gap, .int a0_twins, .int a0_squareFree])), (q_a0_leasts, .inl (cJ, 5000, .inr (.inl a0_leasts_31_5))), (q_a0_greatests, .inl (cJ, 5000, .inr (.inl a0_greatests_31_5))), (q_a0_rests, .inl (cJ, 5000, .inr (.inl a0_rests_31_5))), (h_a0_squared, .inr (0, [.ref q_a0_squared_words])), (q_a0_squared_words, .inl (cJ, 79, .inr (.inl a0_squared_words_31_5)))]) [0, 1, 2, 3, 4, 5] rfl
            have hD9 := hD.sub (ws' := [(h_a0, .inr (6, [.ref q_a0_leasts, .ref q_a0_greatests, .ref q_a0_rests, .ref h_a0_squared, .long a0_from, .int a0_many, .int a0_primeCount, .int a0_gap, .int a0_twins, .int a0_squareFree])), (q_a0_leasts, .inl (cJ, 5000, .inr (.inl a0_leasts_31_5))), (q_a0_greatests, .inl (cJ, 5000, .inr (.inl a0_greatests_31_5))), (q_a0_rests, .inl (cJ, 5000, .inr (.inl a0_rests_31_5))), (h_a0_squared, .inr (0, [.ref q_a0_squared_words])), (q_a0_squared_words, .inl (cJ, 79, .inr (.inl a0_squared_words_31_5)))]) [0, 1, 2, 3, 4, 5] (by decide) rfl
            exact W.vret hx hb hr (fun t ht hW => ⟨⟨(a0_leasts_31_5, a0_greatests_31_5, a0_rests_31_5, a0_squared_words_31_5), rfl, h, by rw [ht]; exact hP9, hD9⟩, hS.F ht⟩) hS.2.2 dX6_divideAll_59
          · replace c_7 := lc_nge c_7
            replace h := h.2 c_7
            refine lv_aload_n hx hb dX6_divideAll_42 rfl (lv_at hl 1 rfl) ?_
            refine lv_lload hx hb dX6_divideAll_43 (lv_at hl 0 rfl) ?_
            refine lv_l2i hx hb dX6_divideAll_45 rfl ?_
            refine lv_lload_n hx hb dX6_divideAll_46 rfl (lv_at hl 2 rfl) ?_
            have hPc := hP.sub (ws' := [(h_a0, .inr (6, [.ref q_a0_leasts, .ref q_a0_greatests, .ref q_a0_rests, .ref h_a0_squared, .long a0_from, .int a0_many, .int a0_primeCount, .int a0_gap, .int a0_twins, .int a0_squareFree])), (q_a0_leasts, .inl (cJ, 5000, .inr (.inl a0_leasts_31_5))), (q_a0_greatests, .inl (cJ, 5000, .inr (.inl a0_greatests_31_5))), (q_a0_rests, .inl (cJ, 5000, .inr (.inl a0_rests_31_5))), (h_a0_squared, .inr (0, [.ref q_a0_squared_words])), (q_a0_squared_words, .inl (cJ, 79, .inr (.inl a0_squared_words_31_5)))]) [0, 1, 2, 3, 4, 5] rfl
            have hDc := hD.sub (ws' := [(h_a0, .inr (6, [.ref q_a0_leasts, .ref q_a0_greatests, .ref q_a0_rests, .ref h_a0_squared, .long a0_from, .int a0_many, .int a0_primeCount, .int a0_gap, .int a0_twins, .int a0_squareFree])), (q_a0_leasts, .inl (cJ, 5000, .inr (.inl a0_leasts_31_5))), (q_a0_greatests, .inl (cJ, 5000, .inr (.inl a0_greatests_31_5))), (q_a0_rests, .inl (cJ, 5000, .inr (.inl a0_rests_31_5))), (h_a0_squared, .inr (0, [.ref q_a0_squared_words])), (q_a0_squared_words, .inl (cJ, 79, .inr (.inl a0_squared_words_31_5)))]) [0, 1, 2, 3, 4, 5] (by decide) rfl
            have hFc := va_free (wc := [(h_a0, .inr (6, [.ref q_a0_leasts, .ref q_a0_greatests, .ref q_a0_rests, .ref h_a0_squared, .long a0_from, .int a0_many, .int a0_primeCount, .int a0_gap, .int a0_twins, .int a0_squareFree])), (q_a0_leasts, .inl (cJ, 5000, .inr (.inl a0_leasts_31_5))), (q_a0_greatests, .inl (cJ, 5000, .inr (.inl a0_greatests_31_5))), (q_a0_rests, .inl (cJ, 5000, .inr (.inl a0_rests_31_5))), (h_a0_squared, .inr (0, [.ref q_a0_squared_words])), (q_a0_squared_words, .inl (cJ, 79, .inr (.inl a0_squared_words_31_5)))]) hD hS hA [0, 1, 2, 3, 4, 5] rfl
            refine va_callv (va_runV (As := [.int l5_31_5.toInt32, .long p1]) (rest := []) ⟨hx, hb, hml, hown, hts⟩ (c_X6_divideOne l dC dI cI cJ cZ _ h_a0 a0_leasts_31_5 q_a0_leasts a0_greatests_31_5 q_a0_greatests a0_rests_31_5 q_a0_rests h_a0_squared a0_squared_words_31_5 q_a0_squared_words a0_from a0_many a0_primeCount a0_gap a0_twins a0_squareFree (l5_31_5.toInt32) p1 _ h) (cwV 2 hts gX6_divideAll_X6_divideOne rfl rfl rfl (by decide +kernel) ⟨Nat.le_of_ble_eq_true rfl, Nat.le_of_ble_eq_true rfl⟩) ⟨pre_fb, va_recv hK hPc (ci := 6) (q0 := 0) rfl rfl, pre_of hPc hDc hK hN⟩ rfl rfl hl.1 rfl (lv_room (Nat.le_of_ble_eq_true rfl)) dX6_divideAll_47 ⟨by first | exact Nat.le_of_ble_eq_true rfl | exact Nat.le_refl _, by first | exact Nat.le_of_ble_eq_true rfl | exact Nat.le_refl _⟩) hS (fun q _ h => hFc q h) hFc (fun u t H1 locs ht hvm h hB hz1 hk1 hS => ?_)
            obtain ⟨o_8, o_9, o_10, o_11⟩ := u
            obtain ⟨hP1, hD1⟩ := hB
            rw [ht] at hP1
            try dsimp only at h
            obtain ⟨hP, hD⟩ := va_join (wr := []) (w1 := [(h_a0, .inr (6, [.ref q_a0_leasts, .ref q_a0_greatests, .ref q_a0_rests, .ref h_a0_squared, .long a0_from, .int a0_many, .int a0_primeCount, .int a0_gap, .int a0_twins, .int a0_squareFree])), (q_a0_leasts, .inl (cJ, 5000, .inr (.inl o_8))), (q_a0_greatests, .inl (cJ, 5000, .inr (.inl o_9))), (q_a0_rests, .inl (cJ, 5000, .inr (.inl o_10))), (h_a0_squared, .inr (0, [.ref q_a0_squared_words])), (q_a0_squared_words, .inl (cJ, 79, .inr (.inl o_11)))]) hP hD [0, 1, 2, 3, 4, 5] [] rfl rfl (by decide) (by decide) hk1 hFc hP1 hD1
            generalize H1 = H at hP hS ⊢
            have hP : va_P (dC, dI) vwCl [(h_a0, .inr (6, [.ref q_a0_leasts, .ref q_a0_greatests, .ref q_a0_rests, .ref h_a0_squared, .long a0_from, .int a0_many, .int a0_primeCount, .int a0_gap, .int a0_twins, .int a0_squareFree])), (q_a0_leasts, .inl (cJ, 5000, .inr (.inl o_8))), (q_a0_greatests, .inl (cJ, 5000, .inr (.inl o_9))), (q_a0_rests, .inl (cJ, 5000, .inr (.inl o_10))), (h_a0_squared, .inr (0, [.ref q_a0_squared_words])), (q_a0_squared_words, .inl (cJ, 79, .inr (.inl o_11)))] H := hP
            have hD : va_D A [(h_a0, .inr (6, [.ref q_a0_leasts, .ref q_a0_greatests, .ref q_a0_rests, .ref h_a0_squared, .long a0_from, .int a0_many, .int a0_primeCount, .int a0_gap, .int a0_twins, .int a0_squareFree])), (q_a0_leasts, .inl (cJ, 5000, .inr (.inl o_8))), (q_a0_greatests, .inl (cJ, 5000, .inr (.inl o_9))), (q_a0_rests, .inl (cJ, 5000, .inr (.inl o_10))), (h_a0_squared, .inr (0, [.ref q_a0_squared_words])), (q_a0_squared_words, .inl (cJ, 79, .inr (.inl o_11)))] := hD
            refine lv_lload hx hb dX6_divideAll_50 (lv_at hl 0 rfl) ?_
            refine lv_lload_n hx hb dX6_divideAll_52 rfl (lv_at hl 2 rfl) ?_
            refine lv_ladd hx hb dX6_divideAll_53 ?_
            refine lv_topl (fun x5_12 e_x5_12 => ?_)
            replace h := h x5_12 e_x5_12
            refine lv_lstore (lv' := [(5, .long x5_12), (0, .ref h_a0), (1, .long p1)]) hx hb dX6_divideAll_54 hl (by decide) rfl (fun ls hl => ?_)
            refine lv_goto (tgt := 31) hx hb dX6_divideAll_56 (by decide) ?_
            exact ih_31_5 x5_12 o_8 o_9 o_10 o_11 (Nat.lt_of_lt_of_le h.2 (Nat.le_of_lt_succ hm_31_5)) h.1 _ _ _ (lv_sub hl [0, 1, 2] rfl) (hP.sub [0, 1, 2, 3, 4, 5] rfl) (hD.sub [0, 1, 2, 3, 4, 5] (by decide) rfl) hS
      exact key_31_5 _ x5_5 a0_leasts a0_greatests a0_rests a0_squared_words (Nat.lt_succ_self _) h0_31_5 _ _ _ (lv_sub hl [0, 2, 3] rfl) (hP.sub [0, 1, 2, 3, 4, 5] rfl) (hD.sub [0, 1, 2, 3, 4, 5] (by decide) rfl) hS
    · replace c_4 := (lg_cmp_eq _ _).mp c_4
      replace h := h.1 c_4
      refine lv_lconst (v := (0 : Int64)) hx hb dX6_divideAll_22 (by decide) ?_
      refine lv_goto (tgt := 29) hx hb dX6_divideAll_23 (by decide) ?_
      refine lv_lstore (lv' := [(5, .long (0 : Int64)), (3, .long x3_3), (0, .ref h_a0), (1, .long p1)]) hx hb dX6_divideAll_29 hl (by decide) rfl (fun ls hl => ?_)
      obtain ⟨I_31_12, m_31_12, h0_31_12, hs_31_12⟩ := h
      have key_31_12 : ∀ (n : Nat) (l5_31_12 : Int64) (a0_leasts_31_12 : Nat → Int64) (a0_greatests_31_12 : Nat → Int64) (a0_rests_31_12 : Nat → Int64) (a0_squared_words_31_12 : Nat → Int64), m_31_12 l5_31_12 a0_leasts_31_12 a0_greatests_31_12 a0_rests_31_12 a0_squared_words_31_12 < n → I_31_12 l5_31_12 a0_leasts_31_12 a0_greatests_31_12 a0_rests_31_12 a0_squared_words_31_12 → ∀ (ls : Array Slot) (H : Heap) (locs : List Loc), lv_has ls 7 [(5, .long l5_31_12), (0, .ref h_a0), (1, .long p1)] → va_P (dC, dI) vwCl [(h_a0, .inr (6, [.ref q_a0_leasts, .ref q_a0_greatests, .ref q_a0_rests, .ref h_a0_squared, .long a0_from, .int a0_many, .int a0_primeCount, .int a0_gap, .int a0_twins, .int a0_squareFree])), (q_a0_leasts, .inl (cJ, 5000, .inr (.inl a0_leasts_31_12))), (q_a0_greatests, .inl (cJ, 5000, .inr (.inl a0_greatests_31_12))), (q_a0_rests, .inl (cJ, 5000, .inr (.inl a0_rests_31_12))), (h_a0_squared, .inr (0, [.ref q_a0_squared_words])), (q_a0_squared_words, .inl (cJ, 79, .inr (.inl a0_squared_words_31_12)))] H → va_D A [(h_a0, .inr (6, [.ref q_a0_leasts, .ref q_a0_greatests, .ref q_a0_rests, .ref h_a0_squared, .long a0_from, .int a0_many, .int a0_primeCount, .int a0_gap, .int a0_twins, .int a0_squareFree])), (q_a0_leasts, .inl (cJ, 5000, .inr (.inl a0_leasts_31_12))), (q_a0_greatests, .inl (cJ, 5000, .inr (.inl a0_greatests_31_12))), (q_a0_rests, .inl (cJ, 5000, .inr (.inl a0_rests_31_12))), (h_a0_squared, .inr (0, [.ref q_a0_squared_words])), (q_a0_squared_words, .inl (cJ, 79, .inr (.inl a0_squared_words_31_12)))] → va_S A s.heap H locs → W p l e (headSpec wsX6_divideAll rm_X6_divideAll).room s m ([.ref h_a0, .long p1] : List Value).toArray below meth c H locs 0 0 (MQ below (qc_X6_divideAll dC dI cI cJ cZ h_a0 a0_leasts q_a0_leasts a0_greatests q_a0_greatests a0_rests q_a0_rests h_a0_squared a0_squared_words q_a0_squared_words a0_from a0_many a0_primeCount a0_gap a0_twins a0_squareFree Q A) ([.ref h_a0, .long p1] : List Value).toArray s 0 0 A) (F0 m 31 ls []) := by
        intro n
        induction n with
        | zero =>
          intro l5_31_12 a0_leasts_31_12 a0_greatests_31_12 a0_rests_31_12 a0_squared_words_31_12 hm
          exact absurd hm (Nat.not_lt_zero _)
        | succ n ih_31_12 =>
          intro l5_31_12 a0_leasts_31_12 a0_greatests_31_12 a0_rests_31_12 a0_squared_words_31_12 hm_31_12 hI ls H locs hl hP hD hS
          have h := hs_31_12 l5_31_12 a0_leasts_31_12 a0_greatests_31_12 a0_rests_31_12 a0_squared_words_31_12 hI
          refine lv_lload hx hb dX6_divideAll_31 (lv_at hl 0 rfl) ?_
          refine lv_aload_n hx hb dX6_divideAll_33 rfl (lv_at hl 1 rfl) ?_
          refine va_get (D := (dC, dI)) (ci := 6) (v := .int a0_many) (C := RX6) (T := TX6) (N := 10) hx hb hts hin_X6 hown hK hP 0 rfl rfl 5 (by decide) hw_3 (fun _ h9 => h9) rfl dX6_divideAll_34 ?_
          refine lv_i2l hx hb dX6_divideAll_37 rfl ?_
          refine W.lcmp hx hb dX6_divideAll_38 ?_
          refine lv_if_ge (tgt := 59) hx hb dX6_divideAll_39 (by decide) (fun c_14 => ?_) (fun c_14 => ?_)
          · replace c_14 := (lg_cmp_ge _ _).mp c_14
            replace h := h.1 c_14
            have hP9 := hP.sub (ws' := [(h_a0, .inr (6, [.ref q_a0_leasts, .ref q_a0_greatests, .ref q_a0_rests, .ref h_a0_squared, .long a0_from, .int a0_many, .int a0_primeCount, .int a0_gap, .int a0_twins, .int a0_squareFree])), (q_a0_leasts, .inl (cJ, 5000, .inr (.inl a0_leasts_31_12))), (q_a0_greatests, .inl (cJ, 5000, .inr (.inl a0_greatests_31_12))), (q_a0_rests, .inl (cJ, 5000, .inr (.inl a0_rests_31_12))), (h_a0_squared, .inr (0, [.ref q_a0_squared_words])), (q_a0_squared_words, .inl (cJ, 79, .inr (.inl a0_squared_words_31_12)))]) [0, 1, 2, 3, 4, 5] rfl
            have hD9 := hD.sub (ws' := [(h_a0, .inr (6, [.ref q_a0_leasts, .ref q_a0_greatests, .ref q_a0_rests, .ref h_a0_squared, .long a0_from, .int a0_many, .int a0_primeCount, .int a0_gap, .int a0_twins, .int a0_squareFree])), (q_a0_leasts, .inl (cJ, 5000, .inr (.inl a0_leasts_31_12))), (q_a0_greatests, .inl (cJ, 5000, .inr (.inl a0_greatests_31_12))), (q_a0_rests, .inl (cJ, 5000, .inr (.inl a0_rests_31_12))), (h_a0_squared, .inr (0, [.ref q_a0_squared_words])), (q_a0_squared_words, .inl (cJ, 79, .inr (.inl a0_squared_words_31_12)))]) [0, 1, 2, 3, 4, 5] (by decide) rfl
            exact W.vret hx hb hr (fun t ht hW => ⟨⟨(a0_leasts_31_12, a0_greatests_31_12, a0_rests_31_12, a0_squared_words_31_12), rfl, h, by rw [ht]; exact hP9, hD9⟩, hS.F ht⟩) hS.2.2 dX6_divideAll_59
          · replace c_14 := lc_nge c_14
            replace h := h.2 c_14
            refine lv_aload_n hx hb dX6_divideAll_42 rfl (lv_at hl 1 rfl) ?_
            refine lv_lload hx hb dX6_divideAll_43 (lv_at hl 0 rfl) ?_
            refine lv_l2i hx hb dX6_divideAll_45 rfl ?_
            refine lv_lload_n hx hb dX6_divideAll_46 rfl (lv_at hl 2 rfl) ?_
            have hPc := hP.sub (ws' := [(h_a0, .inr (6, [.ref q_a0_leasts, .ref q_a0_greatests, .ref q_a0_rests, .ref h_a0_squared, .long a0_from, .int a0_many, .int a0_primeCount, .int a0_gap, .int a0_twins, .int a0_squareFree])), (q_a0_leasts, .inl (cJ, 5000, .inr (.inl a0_leasts_31_12))), (q_a0_greatests, .inl (cJ, 5000, .inr (.inl a0_greatests_31_12))), (q_a0_rests, .inl (cJ, 5000, .inr (.inl a0_rests_31_12))), (h_a0_squared, .inr (0, [.ref q_a0_squared_words])), (q_a0_squared_words, .inl (cJ, 79, .inr (.inl a0_squared_words_31_12)))]) [0, 1, 2, 3, 4, 5] rfl
            have hDc := hD.sub (ws' := [(h_a0, .inr (6, [.ref q_a0_leasts, .ref q_a0_greatests, .ref q_a0_rests, .ref h_a0_squared, .long a0_from, .int a0_many, .int a0_primeCount, .int a0_gap, .int a0_twins, .int a0_squareFree])), (q_a0_leasts, .inl (cJ, 5000, .inr (.inl a0_leasts_31_12))), (q_a0_greatests, .inl (cJ, 5000, .inr (.inl a0_greatests_31_12))), (q_a0_rests, .inl (cJ, 5000, .inr (.inl a0_rests_31_12))), (h_a0_squared, .inr (0, [.ref q_a0_squared_words])), (q_a0_squared_words, .inl (cJ, 79, .inr (.inl a0_squared_words_31_12)))]) [0, 1, 2, 3, 4, 5] (by decide) rfl
            have hFc := va_free (wc := [(h_a0, .inr (6, [.ref q_a0_leasts, .ref q_a0_greatests, .ref q_a0_rests, .ref h_a0_squared, .long a0_from, .int a0_many, .int a0_primeCount, .int a0_gap, .int a0_twins, .int a0_squareFree])), (q_a0_leasts, .inl (cJ, 5000, .inr (.inl a0_leasts_31_12))), (q_a0_greatests, .inl (cJ, 5000, .inr (.inl a0_greatests_31_12))), (q_a0_rests, .inl (cJ, 5000, .inr (.inl a0_rests_31_12))), (h_a0_squared, .inr (0, [.ref q_a0_squared_words])), (q_a0_squared_words, .inl (cJ, 79, .inr (.inl a0_squared_words_31_12)))]) hD hS hA [0, 1, 2, 3, 4, 5] rfl
            refine va_callv (va_runV (As := [.int l5_31_12.toInt32, .long p1]) (rest := []) ⟨hx, hb, hml, hown, hts⟩ (c_X6_divideOne l dC dI cI cJ cZ _ h_a0 a0_leasts_31_12 q_a0_leasts a0_greatests_31_12 q_a0_greatests a0_rests_31_12 q_a0_rests h_a0_squared a0_squared_words_31_12 q_a0_squared_words a0_from a0_many a0_primeCount a0_gap a0_twins a0_squareFree (l5_31_12.toInt32) p1 _ h) (cwV 2 hts gX6_divideAll_X6_divideOne rfl rfl rfl (by decide +kernel) ⟨Nat.le_of_ble_eq_true rfl, Nat.le_of_ble_eq_true rfl⟩) ⟨pre_fb, va_recv hK hPc (ci := 6) (q0 := 0) rfl rfl, pre_of hPc hDc hK hN⟩ rfl rfl hl.1 rfl (lv_room (Nat.le_of_ble_eq_true rfl)) dX6_divideAll_47 ⟨by first | exact Nat.le_of_ble_eq_true rfl | exact Nat.le_refl _, by first | exact Nat.le_of_ble_eq_true rfl | exact Nat.le_refl _⟩) hS (fun q _ h => hFc q h) hFc (fun u t H1 locs ht hvm h hB hz1 hk1 hS => ?_)
            obtain ⟨o_15, o_16, o_17, o_18⟩ := u
            obtain ⟨hP1, hD1⟩ := hB
            rw [ht] at hP1
            try dsimp only at h
            obtain ⟨hP, hD⟩ := va_join (wr := []) (w1 := [(h_a0, .inr (6, [.ref q_a0_leasts, .ref q_a0_greatests, .ref q_a0_rests, .ref h_a0_squared, .long a0_from, .int a0_many, .int a0_primeCount, .int a0_gap, .int a0_twins, .int a0_squareFree])), (q_a0_leasts, .inl (cJ, 5000, .inr (.inl o_15))), (q_a0_greatests, .inl (cJ, 5000, .inr (.inl o_16))), (q_a0_rests, .inl (cJ, 5000, .inr (.inl o_17))), (h_a0_squared, .inr (0, [.ref q_a0_squared_words])), (q_a0_squared_words, .inl (cJ, 79, .inr (.inl o_18)))]) hP hD [0, 1, 2, 3, 4, 5] [] rfl rfl (by decide) (by decide) hk1 hFc hP1 hD1
            generalize H1 = H at hP hS ⊢
            have hP : va_P (dC, dI) vwCl [(h_a0, .inr (6, [.ref q_a0_leasts, .ref q_a0_greatests, .ref q_a0_rests, .ref h_a0_squared, .long a0_from, .int a0_many, .int a0_primeCount, .int a0_gap, .int a0_twins, .int a0_squareFree])), (q_a0_leasts, .inl (cJ, 5000, .inr (.inl o_15))), (q_a0_greatests, .inl (cJ, 5000, .inr (.inl o_16))), (q_a0_rests, .inl (cJ, 5000, .inr (.inl o_17))), (h_a0_squared, .inr (0, [.ref q_a0_squared_words])), (q_a0_squared_words, .inl (cJ, 79, .inr (.inl o_18)))] H := hP
            have hD : va_D A [(h_a0, .inr (6, [.ref q_a0_leasts, .ref q_a0_greatests, .ref q_a0_rests, .ref h_a0_squared, .long a0_from, .int a0_many, .int a0_primeCount, .int a0_gap, .int a0_twins, .int a0_squareFree])), (q_a0_leasts, .inl (cJ, 5000, .inr (.inl o_15))), (q_a0_greatests, .inl (cJ, 5000, .inr (.inl o_16))), (q_a0_rests, .inl (cJ, 5000, .inr (.inl o_17))), (h_a0_squared, .inr (0, [.ref q_a0_squared_words])), (q_a0_squared_words, .inl (cJ, 79, .inr (.inl o_18)))] := hD
            refine lv_lload hx hb dX6_divideAll_50 (lv_at hl 0 rfl) ?_
            refine lv_lload_n hx hb dX6_divideAll_52 rfl (lv_at hl 2 rfl) ?_
            refine lv_ladd hx hb dX6_divideAll_53 ?_
            refine lv_topl (fun x5_19 e_x5_19 => ?_)
            replace h := h x5_19 e_x5_19
            refine lv_lstore (lv' := [(5, .long x5_19), (0, .ref h_a0), (1, .long p1)]) hx hb dX6_divideAll_54 hl (by decide) rfl (fun ls hl => ?_)
            refine lv_goto (tgt := 31) hx hb dX6_divideAll_56 (by decide) ?_
            exact ih_31_12 x5_19 o_15 o_16 o_17 o_18 (Nat.lt_of_lt_of_le h.2 (Nat.le_of_lt_succ hm_31_12)) h.1 _ _ _ (lv_sub hl [0, 1, 2] rfl) (hP.sub [0, 1, 2, 3, 4, 5] rfl) (hD.sub [0, 1, 2, 3, 4, 5] (by decide) rfl) hS
      exact key_31_12 _ (0 : Int64) a0_leasts a0_greatests a0_rests a0_squared_words (Nat.lt_succ_self _) h0_31_12 _ _ _ (lv_sub hl [0, 2, 3] rfl) (hP.sub [0, 1, 2, 3, 4, 5] rfl) (hD.sub [0, 1, 2, 3, 4, 5] (by decide) rfl) hS
  · replace c_1 := lc_nge c_1
    replace h := h.2 c_1
    have hP9 := hP.sub (ws' := [(h_a0, .inr (6, [.ref q_a0_leasts, .ref q_a0_greatests, .ref q_a0_rests, .ref h_a0_squared, .long a0_from, .int a0_many, .int a0_primeCount, .int a0_gap, .int a0_twins, .int a0_squareFree])), (q_a0_leasts, .inl (cJ, 5000, .inr (.inl a0_leasts))), (q_a0_greatests, .inl (cJ, 5000, .inr (.inl a0_greatests))), (q_a0_rests, .inl (cJ, 5000, .inr (.inl a0_rests))), (h_a0_squared, .inr (0, [.ref q_a0_squared_words])), (q_a0_squared_words, .inl (cJ, 79, .inr (.inl a0_squared_words)))]) [0, 1, 2, 3, 4, 5] rfl
    have hD9 := hD.sub (ws' := [(h_a0, .inr (6, [.ref q_a0_leasts, .ref q_a0_greatests, .ref q_a0_rests, .ref h_a0_squared, .long a0_from, .int a0_many, .int a0_primeCount, .int a0_gap, .int a0_twins, .int a0_squareFree])), (q_a0_leasts, .inl (cJ, 5000, .inr (.inl a0_leasts))), (q_a0_greatests, .inl (cJ, 5000, .inr (.inl a0_greatests))), (q_a0_rests, .inl (cJ, 5000, .inr (.inl a0_rests))), (h_a0_squared, .inr (0, [.ref q_a0_squared_words])), (q_a0_squared_words, .inl (cJ, 79, .inr (.inl a0_squared_words)))]) [0, 1, 2, 3, 4, 5] (by decide) rfl
    exact W.vret hx hb hr (fun t ht hW => ⟨⟨(a0_leasts, a0_greatests, a0_rests, a0_squared_words), rfl, h, by rw [ht]; exact hP9, hD9⟩, hS.F ht⟩) hS.2.2 dX6_divideAll_8
def wp_X6_takeRests (a0_leasts : Nat → Int64) (a0_greatests : Nat → Int64) (a0_rests : Nat → Int64) (a0_many : Int32)  (Q : (Nat → Int64) → (Nat → Int64) → Prop) : Prop :=
  (∃ (I_2_0 : Int32 → (Nat → Int64) → (Nat → Int64) → Prop) (m_2_0 : Int32 → (Nat → Int64) → (Nat → Int64) → Nat), I_2_0 (0 : Int32) a0_leasts a0_greatests ∧ ∀ (l1_2_0 : Int32) (a0_leasts_2_0 : Nat → Int64) (a0_greatests_2_0 : Nat → Int64), I_2_0 l1_2_0 a0_leasts_2_0 a0_greatests_2_0 → ((a0_many ≤ l1_2_0 → Q a0_leasts_2_0 a0_greatests_2_0) ∧ (¬ a0_many ≤ l1_2_0 → (vp_in l1_2_0 5000 ∧ (((a0_leasts_2_0 l1_2_0.toNatClampNeg) = (0 : Int64) → (vp_in l1_2_0 5000 ∧ (∀ y_19 : Int64, y_19 = (a0_rests l1_2_0.toNatClampNeg) → (vp_in l1_2_0 5000 ∧ (vp_in l1_2_0 5000 ∧ (((1 : Int64) < (a0_rests l1_2_0.toNatClampNeg) → (vp_in l1_2_0 5000 ∧ (∀ y_24 : Int64, y_24 = (a0_rests l1_2_0.toNatClampNeg) → (vp_in l1_2_0 5000 ∧ (∀ x1_26 : Int32, x1_26 = l1_2_0 + (1 : Int32) → (I_2_0 x1_26 (vp_updL a0_leasts_2_0 l1_2_0.toNatClampNeg y_19) (vp_updL a0_greatests_2_0 l1_2_0.toNatClampNeg y_24) ∧ m_2_0 x1_26 (vp_updL a0_leasts_2_0 l1_2_0.toNatClampNeg y_19) (vp_updL a0_greatests_2_0 l1_2_0.toNatClampNeg y_24) < m_2_0 l1_2_0 a0_leasts_2_0 a0_greatests_2_0)))))) ∧ (¬ (1 : Int64) < (a0_rests l1_2_0.toNatClampNeg) → (vp_in l1_2_0 5000 ∧ (((a0_greatests_2_0 l1_2_0.toNatClampNeg) = (0 : Int64) → (vp_in l1_2_0 5000 ∧ (∀ y_31 : Int64, y_31 = (a0_rests l1_2_0.toNatClampNeg) → (vp_in l1_2_0 5000 ∧ (∀ x1_33 : Int32, x1_33 = l1_2_0 + (1 : Int32) → (I_2_0 x1_33 (vp_updL a0_leasts_2_0 l1_2_0.toNatClampNeg y_19) (vp_updL a0_greatests_2_0 l1_2_0.toNatClampNeg y_31) ∧ m_2_0 x1_33 (vp_updL a0_leasts_2_0 l1_2_0.toNatClampNeg y_19) (vp_updL a0_greatests_2_0 l1_2_0.toNatClampNeg y_31) < m_2_0 l1_2_0 a0_leasts_2_0 a0_greatests_2_0)))))) ∧ (¬ (a0_greatests_2_0 l1_2_0.toNatClampNeg) = (0 : Int64) → (∀ x1_29 : Int32, x1_29 = l1_2_0 + (1 : Int32) → (I_2_0 x1_29 (vp_updL a0_leasts_2_0 l1_2_0.toNatClampNeg y_19) a0_greatests_2_0 ∧ m_2_0 x1_29 (vp_updL a0_leasts_2_0 l1_2_0.toNatClampNeg y_19) a0_greatests_2_0 < m_2_0 l1_2_0 a0_leasts_2_0 a0_greatests_2_0)))))))))))) ∧ (¬ (a0_leasts_2_0 l1_2_0.toNatClampNeg) = (0 : Int64) → (vp_in l1_2_0 5000 ∧ (((1 : Int64) < (a0_rests l1_2_0.toNatClampNeg) → (vp_in l1_2_0 5000 ∧ (∀ y_8 : Int64, y_8 = (a0_rests l1_2_0.toNatClampNeg) → (vp_in l1_2_0 5000 ∧ (∀ x1_10 : Int32, x1_10 = l1_2_0 + (1 : Int32) → (I_2_0 x1_10 a0_leasts_2_0 (vp_updL a0_greatests_2_0 l1_2_0.toNatClampNeg y_8) ∧ m_2_0 x1_10 a0_leasts_2_0 (vp_updL a0_greatests_2_0 l1_2_0.toNatClampNeg y_8) < m_2_0 l1_2_0 a0_leasts_2_0 a0_greatests_2_0)))))) ∧ (¬ (1 : Int64) < (a0_rests l1_2_0.toNatClampNeg) → (vp_in l1_2_0 5000 ∧ (((a0_greatests_2_0 l1_2_0.toNatClampNeg) = (0 : Int64) → (vp_in l1_2_0 5000 ∧ (∀ y_15 : Int64, y_15 = (a0_rests l1_2_0.toNatClampNeg) → (vp_in l1_2_0 5000 ∧ (∀ x1_17 : Int32, x1_17 = l1_2_0 + (1 : Int32) → (I_2_0 x1_17 a0_leasts_2_0 (vp_updL a0_greatests_2_0 l1_2_0.toNatClampNeg y_15) ∧ m_2_0 x1_17 a0_leasts_2_0 (vp_updL a0_greatests_2_0 l1_2_0.toNatClampNeg y_15) < m_2_0 l1_2_0 a0_leasts_2_0 a0_greatests_2_0)))))) ∧ (¬ (a0_greatests_2_0 l1_2_0.toNatClampNeg) = (0 : Int64) → (∀ x1_13 : Int32, x1_13 = l1_2_0 + (1 : Int32) → (I_2_0 x1_13 a0_leasts_2_0 a0_greatests_2_0 ∧ m_2_0 x1_13 a0_leasts_2_0 a0_greatests_2_0 < m_2_0 l1_2_0 a0_leasts_2_0 a0_greatests_2_0))))))))))))))
abbrev rm_X6_takeRests : Room := { frames := 0, cells := 0, slots := 0, locals := 0 }
abbrev qc_X6_takeRests (dC : Nat → ClassId) (dI : Nat → Nat → Nat) (cI cJ cZ : ClassId) (h_a0 : Nat) (a0_leasts : Nat → Int64) (q_a0_leasts : Nat) (a0_greatests : Nat → Int64) (q_a0_greatests : Nat) (a0_rests : Nat → Int64) (q_a0_rests : Nat) (w_a0_squared : Value) (a0_from : Int64) (a0_many : Int32) (a0_primeCount : Int32) (a0_gap : Int32) (a0_twins : Int32) (a0_squareFree : Int32) (Q : (Nat → Int64) → (Nat → Int64) → Prop) (A : Nat → Prop) : Array Value → State → Outcome → State → Prop := va_Qv (fun (u : (Nat → Int64) × (Nat → Int64)) => Q u.1 u.2) (post_ dC dI A (fun (u : (Nat → Int64) × (Nat → Int64)) => [(h_a0, .inr (6, [.ref q_a0_leasts, .ref q_a0_greatests, .ref q_a0_rests, w_a0_squared, .long a0_from, .int a0_many, .int a0_primeCount, .int a0_gap, .int a0_twins, .int a0_squareFree])), (q_a0_leasts, .inl (cJ, 5000, .inr (.inl (u.1)))), (q_a0_greatests, .inl (cJ, 5000, .inr (.inl (u.2)))), (q_a0_rests, .inl (cJ, 5000, .inr (.inl a0_rests)))])) A
set_option maxHeartbeats 4000000 in
set_option maxRecDepth 100000 in
theorem c_X6_takeRests (l : Launch) (dC : Nat → ClassId) (dI : Nat → Nat → Nat) (cI cJ cZ : ClassId) (sz : Nat) (h_a0 : Nat) (a0_leasts : Nat → Int64) (q_a0_leasts : Nat) (a0_greatests : Nat → Int64) (q_a0_greatests : Nat) (a0_rests : Nat → Int64) (q_a0_rests : Nat) (w_a0_squared : Value) (a0_from : Int64) (a0_many : Int32) (a0_primeCount : Int32) (a0_gap : Int32) (a0_twins : Int32) (a0_squareFree : Int32)  (Q : (Nat → Int64) → (Nat → Int64) → Prop) (hQ : wp_X6_takeRests a0_leasts a0_greatests a0_rests a0_many Q) : Met l yX6_takeRests wsX6_takeRests rm_X6_takeRests (pre_ dC dI cI cJ cZ [.ref h_a0] [(h_a0, .inr (6, [.ref q_a0_leasts, .ref q_a0_greatests, .ref q_a0_rests, w_a0_squared, .long a0_from, .int a0_many, .int a0_primeCount, .int a0_gap, .int a0_twins, .int a0_squareFree])), (q_a0_leasts, .inl (cJ, 5000, .inr (.inl a0_leasts))), (q_a0_greatests, .inl (cJ, 5000, .inr (.inl a0_greatests))), (q_a0_rests, .inl (cJ, 5000, .inr (.inl a0_rests)))] sz) (qc_X6_takeRests dC dI cI cJ cZ h_a0 a0_leasts q_a0_leasts a0_greatests q_a0_greatests a0_rests q_a0_rests w_a0_squared a0_from a0_many a0_primeCount a0_gap a0_twins a0_squareFree Q (va_A [(h_a0, .inr (6, [.ref q_a0_leasts, .ref q_a0_greatests, .ref q_a0_rests, w_a0_squared, .long a0_from, .int a0_many, .int a0_primeCount, .int a0_gap, .int a0_twins, .int a0_squareFree])), (q_a0_leasts, .inl (cJ, 5000, .inr (.inl a0_leasts))), (q_a0_greatests, .inl (cJ, 5000, .inr (.inl a0_greatests))), (q_a0_rests, .inl (cJ, 5000, .inr (.inl a0_rests)))] sz)) 0 0 (va_A [(h_a0, .inr (6, [.ref q_a0_leasts, .ref q_a0_greatests, .ref q_a0_rests, w_a0_squared, .long a0_from, .int a0_many, .int a0_primeCount, .int a0_gap, .int a0_twins, .int a0_squareFree])), (q_a0_leasts, .inl (cJ, 5000, .inr (.inl a0_leasts))), (q_a0_greatests, .inl (cJ, 5000, .inr (.inl a0_greatests))), (q_a0_rests, .inl (cJ, 5000, .inr (.inl a0_rests)))] sz) := by
  refine Met.ofW (cc := cX6_takeRests) (maxL := 2) (ret := none) (by decide) rfl ?_
  intro p e s m args below meth c s₁ B hml hv
  obtain ⟨rfl, hsz, hP, hK, hN, hD0⟩ := hv
  have hx := B.exec
  have hb := B.bytes
  have hr := B.returns
  have hts := atoms_spec (ws := wsX6_takeRests) B.pre
  have hown : s.vm.findClass RX6 = some m.cls := findClass_of_methodNamed B.named
  subst hsz
  have hD := hD0.self (sz := s.heap.size)
  generalize hAe : va_A [(h_a0, .inr (6, [.ref q_a0_leasts, .ref q_a0_greatests, .ref q_a0_rests, w_a0_squared, .long a0_from, .int a0_many, .int a0_primeCount, .int a0_gap, .int a0_twins, .int a0_squareFree])), (q_a0_leasts, .inl (cJ, 5000, .inr (.inl a0_leasts))), (q_a0_greatests, .inl (cJ, 5000, .inr (.inl a0_greatests))), (q_a0_rests, .inl (cJ, 5000, .inr (.inl a0_rests)))] s.heap.size = A at hD ⊢
  have hA : ∀ q : Nat, s.heap.size ≤ q → A q := fun q h => by rw [← hAe]; exact Or.inr h
  have hS : va_S A s.heap s.heap [] := va_S.rf
  have hl := lv_entry ([.ref h_a0]) (n := 2) (Nat.le_of_ble_eq_true rfl)
  rw [lg_entry_eq]
  generalize (lg_sl ([.ref h_a0]) ++ List.replicate (2 - (lg_sl ([.ref h_a0])).length) Slot.unset).toArray = ls at hl ⊢
  have hl : lv_has ls 2 [(0, .ref h_a0)] := hl
  have h := hQ
  unfold wp_X6_takeRests at h
  have hw_0 := hts (.fieldLink RX6 34 "NumberSieves$Span" "many" "I") (by decide +kernel)
  have hin_X6 : ∀ w ∈ wsX60, w ∈ wsX6_takeRests := by decide +kernel
  have hw_2 := hts (.fieldLink RX6 9 "NumberSieves$Span" "leasts" "[J") (by decide +kernel)
  have hw_3 := hts (.fieldLink RX6 18 "NumberSieves$Span" "rests" "[J") (by decide +kernel)
  have hw_4 := hts (.fieldLink RX6 15 "NumberSieves$Span" "greatests" "[J") (by decide +kernel)
  refine lv_iconst (v := (0 : Int32)) hx hb dX6_takeRests_0 (by decide) ?_
  refine lv_istore_n (lv' := [(1, .int (0 : Int32)), (0, .ref h_a0)]) hx hb dX6_takeRests_1 rfl hl (by decide) rfl (fun ls hl => ?_)
  obtain ⟨I_2_0, m_2_0, h0_2_0, hs_2_0⟩ := h
  have key_2_0 : ∀ (n : Nat) (l1_2_0 : Int32) (a0_leasts_2_0 : Nat → Int64) (a0_greatests_2_0 : Nat → Int64), m_2_0 l1_2_0 a0_leasts_2_0 a0_greatests_2_0 < n → I_2_0 l1_2_0 a0_leasts_2_0 a0_greatests_2_0 → ∀ (ls : Array Slot) (H : Heap) (locs : List Loc), lv_has ls 2 [(1, .int l1_2_0), (0, .ref h_a0)] → va_P (dC, dI) vwCl [(h_a0, .inr (6, [.ref q_a0_leasts, .ref q_a0_greatests, .ref q_a0_rests, w_a0_squared, .long a0_from, .int a0_many, .int a0_primeCount, .int a0_gap, .int a0_twins, .int a0_squareFree])), (q_a0_leasts, .inl (cJ, 5000, .inr (.inl a0_leasts_2_0))), (q_a0_greatests, .inl (cJ, 5000, .inr (.inl a0_greatests_2_0))), (q_a0_rests, .inl (cJ, 5000, .inr (.inl a0_rests)))] H → va_D A [(h_a0, .inr (6, [.ref q_a0_leasts, .ref q_a0_greatests, .ref q_a0_rests, w_a0_squared, .long a0_from, .int a0_many, .int a0_primeCount, .int a0_gap, .int a0_twins, .int a0_squareFree])), (q_a0_leasts, .inl (cJ, 5000, .inr (.inl a0_leasts_2_0))), (q_a0_greatests, .inl (cJ, 5000, .inr (.inl a0_greatests_2_0))), (q_a0_rests, .inl (cJ, 5000, .inr (.inl a0_rests)))] → va_S A s.heap H locs → W p l e (headSpec wsX6_takeRests rm_X6_takeRests).room s m ([.ref h_a0] : List Value).toArray below meth c H locs 0 0 (MQ below (qc_X6_takeRests dC dI cI cJ cZ h_a0 a0_leasts q_a0_leasts a0_greatests q_a0_greatests a0_rests q_a0_rests w_a0_squared a0_from a0_many a0_primeCount a0_gap a0_twins a0_squareFree Q A) ([.ref h_a0] : List Value).toArray s 0 0 A) (F0 m 2 ls []) := by
    intro n
    induction n with
    | zero =>
      intro l1_2_0 a0_leasts_2_0 a0_greatests_2_0 hm
      exact absurd hm (Nat.not_lt_zero _)
    | succ n ih_2_0 =>
      intro l1_2_0 a0_leasts_2_0 a0_greatests_2_0 hm_2_0 hI ls H locs hl hP hD hS
      have h := hs_2_0 l1_2_0 a0_leasts_2_0 a0_greatests_2_0 hI
      refine lv_iload_n hx hb dX6_takeRests_2 rfl (lv_at hl 0 rfl) ?_
      refine lv_aload_n hx hb dX6_takeRests_3 rfl (lv_at hl 1 rfl) ?_
      refine va_get (D := (dC, dI)) (ci := 6) (v := .int a0_many) (C := RX6) (T := TX6) (N := 10) hx hb hts hin_X6 hown hK hP 0 rfl rfl 5 (by decide) hw_0 (fun _ h9 => h9) rfl dX6_takeRests_4 ?_
      refine lv_icmp_ge (tgt := 73) hx hb dX6_takeRests_7 (by decide) (fun c_2 => ?_) (fun c_2 => ?_)
      · replace h := h.1 c_2
        have hP9 := hP.sub (ws' := [(h_a0, .inr (6, [.ref q_a0_leasts, .ref q_a0_greatests, .ref q_a0_rests, w_a0_squared, .long a0_from, .int a0_many, .int a0_primeCount, .int a0_gap, .int a0_twins, .int a0_squareFree])), (q_a0_leasts, .inl (cJ, 5000, .inr (.inl a0_leasts_2_0))), (q_a0_greatests, .inl (cJ, 5000, .inr (.inl a0_greatests_2_0))), (q_a0_rests, .inl (cJ, 5000, .inr (.inl a0_rests)))]) [0, 1, 2, 3] rfl
        have hD9 := hD.sub (ws' := [(h_a0, .inr (6, [.ref q_a0_leasts, .ref q_a0_greatests, .ref q_a0_rests, w_a0_squared, .long a0_from, .int a0_many, .int a0_primeCount, .int a0_gap, .int a0_twins, .int a0_squareFree])), (q_a0_leasts, .inl (cJ, 5000, .inr (.inl a0_leasts_2_0))), (q_a0_greatests, .inl (cJ, 5000, .inr (.inl a0_greatests_2_0))), (q_a0_rests, .inl (cJ, 5000, .inr (.inl a0_rests)))]) [0, 1, 2, 3] (by decide) rfl
        exact W.vret hx hb hr (fun t ht hW => ⟨⟨(a0_leasts_2_0, a0_greatests_2_0), rfl, h, by rw [ht]; exact hP9, hD9⟩, hS.F ht⟩) hS.2.2 dX6_takeRests_73
      · replace h := h.2 c_2
        refine lv_aload_n hx hb dX6_takeRests_10 rfl (lv_at hl 1 rfl) ?_
        refine va_get (D := (dC, dI)) (ci := 6) (v := .ref q_a0_leasts) (C := RX6) (T := TX6) (N := 10) hx hb hts hin_X6 hown hK hP 0 rfl rfl 0 (by decide) hw_2 (fun _ h9 => h9) rfl dX6_takeRests_11 ?_
        refine lv_iload_n hx hb dX6_takeRests_14 rfl (lv_at hl 0 rfl) ?_
        obtain ⟨hin_3, h⟩ := h
        refine va_lald hx hb hK hP 1 1 rfl rfl hin_3 dX6_takeRests_15 ?_
        refine lv_lconst (v := (0 : Int64)) hx hb dX6_takeRests_16 (by decide) ?_
        refine W.lcmp hx hb dX6_takeRests_17 ?_
        refine lv_if_ne (tgt := 33) hx hb dX6_takeRests_18 (by decide) (fun c_4 => ?_) (fun c_4 => ?_)
        · replace c_4 := lc_neq c_4
          replace h := h.2 c_4
          refine lv_aload_n hx hb dX6_takeRests_33 rfl (lv_at hl 1 rfl) ?_
          refine va_get (D := (dC, dI)) (ci := 6) (v := .ref q_a0_rests) (C := RX6) (T := TX6) (N := 10) hx hb hts hin_X6 hown hK hP 0 rfl rfl 2 (by decide) hw_3 (fun _ h9 => h9) rfl dX6_takeRests_34 ?_
          refine lv_iload_n hx hb dX6_takeRests_37 rfl (lv_at hl 0 rfl) ?_
          obtain ⟨hin_5, h⟩ := h
          refine va_lald hx hb hK hP 3 1 rfl rfl hin_5 dX6_takeRests_38 ?_
          refine lv_lconst (v := (1 : Int64)) hx hb dX6_takeRests_39 (by decide) ?_
          refine W.lcmp hx hb dX6_takeRests_40 ?_
          refine lv_if_gt (tgt := 55) hx hb dX6_takeRests_41 (by decide) (fun c_6 => ?_) (fun c_6 => ?_)
          · replace c_6 := (lg_cmp_gt _ _).mp c_6
            replace h := h.1 c_6
            refine lv_aload_n hx hb dX6_takeRests_55 rfl (lv_at hl 1 rfl) ?_
            refine va_get (D := (dC, dI)) (ci := 6) (v := .ref q_a0_greatests) (C := RX6) (T := TX6) (N := 10) hx hb hts hin_X6 hown hK hP 0 rfl rfl 1 (by decide) hw_4 (fun _ h9 => h9) rfl dX6_takeRests_56 ?_
            refine lv_iload_n hx hb dX6_takeRests_59 rfl (lv_at hl 0 rfl) ?_
            refine lv_aload_n hx hb dX6_takeRests_60 rfl (lv_at hl 1 rfl) ?_
            refine va_get (D := (dC, dI)) (ci := 6) (v := .ref q_a0_rests) (C := RX6) (T := TX6) (N := 10) hx hb hts hin_X6 hown hK hP 0 rfl rfl 2 (by decide) hw_3 (fun _ h9 => h9) rfl dX6_takeRests_61 ?_
            refine lv_iload_n hx hb dX6_takeRests_64 rfl (lv_at hl 0 rfl) ?_
            obtain ⟨hin_7, h⟩ := h
            refine va_lald hx hb hK hP 3 1 rfl rfl hin_7 dX6_takeRests_65 ?_
            refine lv_topl (fun y_8 e_y_8 => ?_)
            replace h := h y_8 e_y_8
            obtain ⟨hin_9, h⟩ := h
            refine va_last hx hb hK hP hD hS 2 1 rfl rfl hin_9 dX6_takeRests_66 (fun H locs hP hD hS => ?_)
            have hP : va_P (dC, dI) vwCl [(h_a0, .inr (6, [.ref q_a0_leasts, .ref q_a0_greatests, .ref q_a0_rests, w_a0_squared, .long a0_from, .int a0_many, .int a0_primeCount, .int a0_gap, .int a0_twins, .int a0_squareFree])), (q_a0_leasts, .inl (cJ, 5000, .inr (.inl a0_leasts_2_0))), (q_a0_greatests, .inl (cJ, 5000, .inr (.inl (vp_updL a0_greatests_2_0 l1_2_0.toNatClampNeg y_8)))), (q_a0_rests, .inl (cJ, 5000, .inr (.inl a0_rests)))] H := hP
            have hD : va_D A [(h_a0, .inr (6, [.ref q_a0_leasts, .ref q_a0_greatests, .ref q_a0_rests, w_a0_squared, .long a0_from, .int a0_many, .int a0_primeCount, .int a0_gap, .int a0_twins, .int a0_squareFree])), (q_a0_leasts, .inl (cJ, 5000, .inr (.inl a0_leasts_2_0))), (q_a0_greatests, .inl (cJ, 5000, .inr (.inl (vp_updL a0_greatests_2_0 l1_2_0.toNatClampNeg y_8)))), (q_a0_rests, .inl (cJ, 5000, .inr (.inl a0_rests)))] := hD
            obtain ⟨x1_10, e_x1_10⟩ : ∃ y : Int32, y = l1_2_0 + (1 : Int32) := ⟨_, rfl⟩
            replace h := h x1_10 e_x1_10
            refine lv_iinc (v := x1_10) (lv' := [(1, .int x1_10), (0, .ref h_a0)]) hx hb dX6_takeRests_67 hl (k := 0) rfl (by rw [e_x1_10]; rfl) (by decide) rfl (fun ls hl => ?_)
            refine lv_goto (tgt := 2) hx hb dX6_takeRests_70 (by decide) ?_
            exact ih_2_0 x1_10 a0_leasts_2_0 (vp_updL a0_greatests_2_0 l1_2_0.toNatClampNeg y_8) (Nat.lt_of_lt_of_le h.2 (Nat.le_of_lt_succ hm_2_0)) h.1 _ _ _ (lv_sub hl [0, 1] rfl) (hP.sub [0, 1, 2, 3] rfl) (hD.sub [0, 1, 2, 3] (by decide) rfl) hS
          · replace c_6 := lc_ngt c_6
            replace h := h.2 c_6
            refine lv_aload_n hx hb dX6_takeRests_44 rfl (lv_at hl 1 rfl) ?_
            refine va_get (D := (dC, dI)) (ci := 6) (v := .ref q_a0_greatests) (C := RX6) (T := TX6) (N := 10) hx hb hts hin_X6 hown hK hP 0 rfl rfl 1 (by decide) hw_4 (fun _ h9 => h9) rfl dX6_takeRests_45 ?_
            refine lv_iload_n hx hb dX6_takeRests_48 rfl (lv_at hl 0 rfl) ?_
            obtain ⟨hin_11, h⟩ := h
            refine va_lald hx hb hK hP 2 1 rfl rfl hin_11 dX6_takeRests_49 ?_
            refine lv_lconst (v := (0 : Int64)) hx hb dX6_takeRests_50 (by decide) ?_
            refine W.lcmp hx hb dX6_takeRests_51 ?_
            refine lv_if_ne (tgt := 67) hx hb dX6_takeRests_52 (by decide) (fun c_12 => ?_) (fun c_12 => ?_)
            · replace c_12 := lc_neq c_12
              replace h := h.2 c_12
              obtain ⟨x1_13, e_x1_13⟩ : ∃ y : Int32, y = l1_2_0 + (1 : Int32) := ⟨_, rfl⟩
              replace h := h x1_13 e_x1_13
              refine lv_iinc (v := x1_13) (lv' := [(1, .int x1_13), (0, .ref h_a0)]) hx hb dX6_takeRests_67 hl (k := 0) rfl (by rw [e_x1_13]; rfl) (by decide) rfl (fun ls hl => ?_)
              refine lv_goto (tgt := 2) hx hb dX6_takeRests_70 (by decide) ?_
              exact ih_2_0 x1_13 a0_leasts_2_0 a0_greatests_2_0 (Nat.lt_of_lt_of_le h.2 (Nat.le_of_lt_succ hm_2_0)) h.1 _ _ _ (lv_sub hl [0, 1] rfl) (hP.sub [0, 1, 2, 3] rfl) (hD.sub [0, 1, 2, 3] (by decide) rfl) hS
            · replace c_12 := (lg_cmp_eq _ _).mp c_12
              replace h := h.1 c_12
              refine lv_aload_n hx hb dX6_takeRests_55 rfl (lv_at hl 1 rfl) ?_
              refine va_get (D := (dC, dI)) (ci := 6) (v := .ref q_a0_greatests) (C := RX6) (T := TX6) (N := 10) hx hb hts hin_X6 hown hK hP 0 rfl rfl 1 (by decide) hw_4 (fun _ h9 => h9) rfl dX6_takeRests_56 ?_
              refine lv_iload_n hx hb dX6_takeRests_59 rfl (lv_at hl 0 rfl) ?_
              refine lv_aload_n hx hb dX6_takeRests_60 rfl (lv_at hl 1 rfl) ?_
              refine va_get (D := (dC, dI)) (ci := 6) (v := .ref q_a0_rests) (C := RX6) (T := TX6) (N := 10) hx hb hts hin_X6 hown hK hP 0 rfl rfl 2 (by decide) hw_3 (fun _ h9 => h9) rfl dX6_takeRests_61 ?_
              refine lv_iload_n hx hb dX6_takeRests_64 rfl (lv_at hl 0 rfl) ?_
              obtain ⟨hin_14, h⟩ := h
              refine va_lald hx hb hK hP 3 1 rfl rfl hin_14 dX6_takeRests_65 ?_
              refine lv_topl (fun y_15 e_y_15 => ?_)
              replace h := h y_15 e_y_15
              obtain ⟨hin_16, h⟩ := h
              refine va_last hx hb hK hP hD hS 2 1 rfl rfl hin_16 dX6_takeRests_66 (fun H locs hP hD hS => ?_)
              have hP : va_P (dC, dI) vwCl [(h_a0, .inr (6, [.ref q_a0_leasts, .ref q_a0_greatests, .ref q_a0_rests, w_a0_squared, .long a0_from, .int a0_many, .int a0_primeCount, .int a0_gap, .int a0_twins, .int a0_squareFree])), (q_a0_leasts, .inl (cJ, 5000, .inr (.inl a0_leasts_2_0))), (q_a0_greatests, .inl (cJ, 5000, .inr (.inl (vp_updL a0_greatests_2_0 l1_2_0.toNatClampNeg y_15)))), (q_a0_rests, .inl (cJ, 5000, .inr (.inl a0_rests)))] H := hP
              have hD : va_D A [(h_a0, .inr (6, [.ref q_a0_leasts, .ref q_a0_greatests, .ref q_a0_rests, w_a0_squared, .long a0_from, .int a0_many, .int a0_primeCount, .int a0_gap, .int a0_twins, .int a0_squareFree])), (q_a0_leasts, .inl (cJ, 5000, .inr (.inl a0_leasts_2_0))), (q_a0_greatests, .inl (cJ, 5000, .inr (.inl (vp_updL a0_greatests_2_0 l1_2_0.toNatClampNeg y_15)))), (q_a0_rests, .inl (cJ, 5000, .inr (.inl a0_rests)))] := hD
              obtain ⟨x1_17, e_x1_17⟩ : ∃ y : Int32, y = l1_2_0 + (1 : Int32) := ⟨_, rfl⟩
              replace h := h x1_17 e_x1_17
              refine lv_iinc (v := x1_17) (lv' := [(1, .int x1_17), (0, .ref h_a0)]) hx hb dX6_takeRests_67 hl (k := 0) rfl (by rw [e_x1_17]; rfl) (by decide) rfl (fun ls hl => ?_)
              refine lv_goto (tgt := 2) hx hb dX6_takeRests_70 (by decide) ?_
              exact ih_2_0 x1_17 a0_leasts_2_0 (vp_updL a0_greatests_2_0 l1_2_0.toNatClampNeg y_15) (Nat.lt_of_lt_of_le h.2 (Nat.le_of_lt_succ hm_2_0)) h.1 _ _ _ (lv_sub hl [0, 1] rfl) (hP.sub [0, 1, 2, 3] rfl) (hD.sub [0, 1, 2, 3] (by decide) rfl) hS
        · replace c_4 := (lg_cmp_eq _ _).mp c_4
          replace h := h.1 c_4
          refine lv_aload_n hx hb dX6_takeRests_21 rfl (lv_at hl 1 rfl) ?_
          refine va_get (D := (dC, dI)) (ci := 6) (v := .ref q_a0_leasts) (C := RX6) (T := TX6) (N := 10) hx hb hts hin_X6 hown hK hP 0 rfl rfl 0 (by decide) hw_2 (fun _ h9 => h9) rfl dX6_takeRests_22 ?_
          refine lv_iload_n hx hb dX6_takeRests_25 rfl (lv_at hl 0 rfl) ?_
          refine lv_aload_n hx hb dX6_takeRests_26 rfl (lv_at hl 1 rfl) ?_
          refine va_get (D := (dC, dI)) (ci := 6) (v := .ref q_a0_rests) (C := RX6) (T := TX6) (N := 10) hx hb hts hin_X6 hown hK hP 0 rfl rfl 2 (by decide) hw_3 (fun _ h9 => h9) rfl dX6_takeRests_27 ?_
          refine lv_iload_n hx hb dX6_takeRests_30 rfl (lv_at hl 0 rfl) ?_
          obtain ⟨hin_18, h⟩ := h
          refine va_lald hx hb hK hP 3 1 rfl rfl hin_18 dX6_takeRests_31 ?_
          refine lv_topl (fun y_19 e_y_19 => ?_)
          replace h := h y_19 e_y_19
          obtain ⟨hin_20, h⟩ := h
          refine va_last hx hb hK hP hD hS 1 1 rfl rfl hin_20 dX6_takeRests_32 (fun H locs hP hD hS => ?_)
          have hP : va_P (dC, dI) vwCl [(h_a0, .inr (6, [.ref q_a0_leasts, .ref q_a0_greatests, .ref q_a0_rests, w_a0_squared, .long a0_from, .int a0_many, .int a0_primeCount, .int a0_gap, .int a0_twins, .int a0_squareFree])), (q_a0_leasts, .inl (cJ, 5000, .inr (.inl (vp_updL a0_leasts_2_0 l1_2_0.toNatClampNeg y_19)))), (q_a0_greatests, .inl (cJ, 5000, .inr (.inl a0_greatests_2_0))), (q_a0_rests, .inl (cJ, 5000, .inr (.inl a0_rests)))] H := hP
          have hD : va_D A [(h_a0, .inr (6, [.ref q_a0_leasts, .ref q_a0_greatests, .ref q_a0_rests, w_a0_squared, .long a0_from, .int a0_many, .int a0_primeCount, .int a0_gap, .int a0_twins, .int a0_squareFree])), (q_a0_leasts, .inl (cJ, 5000, .inr (.inl (vp_updL a0_leasts_2_0 l1_2_0.toNatClampNeg y_19)))), (q_a0_greatests, .inl (cJ, 5000, .inr (.inl a0_greatests_2_0))), (q_a0_rests, .inl (cJ, 5000, .inr (.inl a0_rests)))] := hD
          refine lv_aload_n hx hb dX6_takeRests_33 rfl (lv_at hl 1 rfl) ?_
          refine va_get (D := (dC, dI)) (ci := 6) (v := .ref q_a0_rests) (C := RX6) (T := TX6) (N := 10) hx hb hts hin_X6 hown hK hP 0 rfl rfl 2 (by decide) hw_3 (fun _ h9 => h9) rfl dX6_takeRests_34 ?_
          refine lv_iload_n hx hb dX6_takeRests_37 rfl (lv_at hl 0 rfl) ?_
          obtain ⟨hin_21, h⟩ := h
          refine va_lald hx hb hK hP 3 1 rfl rfl hin_21 dX6_takeRests_38 ?_
          refine lv_lconst (v := (1 : Int64)) hx hb dX6_takeRests_39 (by decide) ?_
          refine W.lcmp hx hb dX6_takeRests_40 ?_
          refine lv_if_gt (tgt := 55) hx hb dX6_takeRests_41 (by decide) (fun c_22 => ?_) (fun c_22 => ?_)
          · replace c_22 := (lg_cmp_gt _ _).mp c_22
            replace h := h.1 c_22
            refine lv_aload_n hx hb dX6_takeRests_55 rfl (lv_at hl 1 rfl) ?_
            refine va_get (D := (dC, dI)) (ci := 6) (v := .ref q_a0_greatests) (C := RX6) (T := TX6) (N := 10) hx hb hts hin_X6 hown hK hP 0 rfl rfl 1 (by decide) hw_4 (fun _ h9 => h9) rfl dX6_takeRests_56 ?_
            refine lv_iload_n hx hb dX6_takeRests_59 rfl (lv_at hl 0 rfl) ?_
            refine lv_aload_n hx hb dX6_takeRests_60 rfl (lv_at hl 1 rfl) ?_
            refine va_get (D := (dC, dI)) (ci := 6) (v := .ref q_a0_rests) (C := RX6) (T := TX6) (N := 10) hx hb hts hin_X6 hown hK hP 0 rfl rfl 2 (by decide) hw_3 (fun _ h9 => h9) rfl dX6_takeRests_61 ?_
            refine lv_iload_n hx hb dX6_takeRests_64 rfl (lv_at hl 0 rfl) ?_
            obtain ⟨hin_23, h⟩ := h
            refine va_lald hx hb hK hP 3 1 rfl rfl hin_23 dX6_takeRests_65 ?_
            refine lv_topl (fun y_24 e_y_24 => ?_)
            replace h := h y_24 e_y_24
            obtain ⟨hin_25, h⟩ := h
            refine va_last hx hb hK hP hD hS 2 1 rfl rfl hin_25 dX6_takeRests_66 (fun H locs hP hD hS => ?_)
            have hP : va_P (dC, dI) vwCl [(h_a0, .inr (6, [.ref q_a0_leasts, .ref q_a0_greatests, .ref q_a0_rests, w_a0_squared, .long a0_from, .int a0_many, .int a0_primeCount, .int a0_gap, .int a0_twins, .int a0_squareFree])), (q_a0_leasts, .inl (cJ, 5000, .inr (.inl (vp_updL a0_leasts_2_0 l1_2_0.toNatClampNeg y_19)))), (q_a0_greatests, .inl (cJ, 5000, .inr (.inl (vp_updL a0_greatests_2_0 l1_2_0.toNatClampNeg y_24)))), (q_a0_rests, .inl (cJ, 5000, .inr (.inl a0_rests)))] H := hP
            have hD : va_D A [(h_a0, .inr (6, [.ref q_a0_leasts, .ref q_a0_greatests, .ref q_a0_rests, w_a0_squared, .long a0_from, .int a0_many, .int a0_primeCount, .int a0_gap, .int a0_twins, .int a0_squareFree])), (q_a0_leasts, .inl (cJ, 5000, .inr (.inl (vp_updL a0_leasts_2_0 l1_2_0.toNatClampNeg y_19)))), (q_a0_greatests, .inl (cJ, 5000, .inr (.inl (vp_updL a0_greatests_2_0 l1_2_0.toNatClampNeg y_24)))), (q_a0_rests, .inl (cJ, 5000, .inr (.inl a0_rests)))] := hD
            obtain ⟨x1_26, e_x1_26⟩ : ∃ y : Int32, y = l1_2_0 + (1 : Int32) := ⟨_, rfl⟩
            replace h := h x1_26 e_x1_26
            refine lv_iinc (v := x1_26) (lv' := [(1, .int x1_26), (0, .ref h_a0)]) hx hb dX6_takeRests_67 hl (k := 0) rfl (by rw [e_x1_26]; rfl) (by decide) rfl (fun ls hl => ?_)
            refine lv_goto (tgt := 2) hx hb dX6_takeRests_70 (by decide) ?_
            exact ih_2_0 x1_26 (vp_updL a0_leasts_2_0 l1_2_0.toNatClampNeg y_19) (vp_updL a0_greatests_2_0 l1_2_0.toNatClampNeg y_24) (Nat.lt_of_lt_of_le h.2 (Nat.le_of_lt_succ hm_2_0)) h.1 _ _ _ (lv_sub hl [0, 1] rfl) (hP.sub [0, 1, 2, 3] rfl) (hD.sub [0, 1, 2, 3] (by decide) rfl) hS
          · replace c_22 := lc_ngt c_22
            replace h := h.2 c_22
            refine lv_aload_n hx hb dX6_takeRests_44 rfl (lv_at hl 1 rfl) ?_
            refine va_get (D := (dC, dI)) (ci := 6) (v := .ref q_a0_greatests) (C := RX6) (T := TX6) (N := 10) hx hb hts hin_X6 hown hK hP 0 rfl rfl 1 (by decide) hw_4 (fun _ h9 => h9) rfl dX6_takeRests_45 ?_
            refine lv_iload_n hx hb dX6_takeRests_48 rfl (lv_at hl 0 rfl) ?_
            obtain ⟨hin_27, h⟩ := h
            refine va_lald hx hb hK hP 2 1 rfl rfl hin_27 dX6_takeRests_49 ?_
            refine lv_lconst (v := (0 : Int64)) hx hb dX6_takeRests_50 (by decide) ?_
            refine W.lcmp hx hb dX6_takeRests_51 ?_
            refine lv_if_ne (tgt := 67) hx hb dX6_takeRests_52 (by decide) (fun c_28 => ?_) (fun c_28 => ?_)
            · replace c_28 := lc_neq c_28
              replace h := h.2 c_28
              obtain ⟨x1_29, e_x1_29⟩ : ∃ y : Int32, y = l1_2_0 + (1 : Int32) := ⟨_, rfl⟩
              replace h := h x1_29 e_x1_29
              refine lv_iinc (v := x1_29) (lv' := [(1, .int x1_29), (0, .ref h_a0)]) hx hb dX6_takeRests_67 hl (k := 0) rfl (by rw [e_x1_29]; rfl) (by decide) rfl (fun ls hl => ?_)
              refine lv_goto (tgt := 2) hx hb dX6_takeRests_70 (by decide) ?_
              exact ih_2_0 x1_29 (vp_updL a0_leasts_2_0 l1_2_0.toNatClampNeg y_19) a0_greatests_2_0 (Nat.lt_of_lt_of_le h.2 (Nat.le_of_lt_succ hm_2_0)) h.1 _ _ _ (lv_sub hl [0, 1] rfl) (hP.sub [0, 1, 2, 3] rfl) (hD.sub [0, 1, 2, 3] (by decide) rfl) hS
            · replace c_28 := (lg_cmp_eq _ _).mp c_28
              replace h := h.1 c_28
              refine lv_aload_n hx hb dX6_takeRests_55 rfl (lv_at hl 1 rfl) ?_
              refine va_get (D := (dC, dI)) (ci := 6) (v := .ref q_a0_greatests) (C := RX6) (T := TX6) (N := 10) hx hb hts hin_X6 hown hK hP 0 rfl rfl 1 (by decide) hw_4 (fun _ h9 => h9) rfl dX6_takeRests_56 ?_
              refine lv_iload_n hx hb dX6_takeRests_59 rfl (lv_at hl 0 rfl) ?_
              refine lv_aload_n hx hb dX6_takeRests_60 rfl (lv_at hl 1 rfl) ?_
              refine va_get (D := (dC, dI)) (ci := 6) (v := .ref q_a0_rests) (C := RX6) (T := TX6) (N := 10) hx hb hts hin_X6 hown hK hP 0 rfl rfl 2 (by decide) hw_3 (fun _ h9 => h9) rfl dX6_takeRests_61 ?_
              refine lv_iload_n hx hb dX6_takeRests_64 rfl (lv_at hl 0 rfl) ?_
              obtain ⟨hin_30, h⟩ := h
              refine va_lald hx hb hK hP 3 1 rfl rfl hin_30 dX6_takeRests_65 ?_
              refine lv_topl (fun y_31 e_y_31 => ?_)
              replace h := h y_31 e_y_31
              obtain ⟨hin_32, h⟩ := h
              refine va_last hx hb hK hP hD hS 2 1 rfl rfl hin_32 dX6_takeRests_66 (fun H locs hP hD hS => ?_)
              have hP : va_P (dC, dI) vwCl [(h_a0, .inr (6, [.ref q_a0_leasts, .ref q_a0_greatests, .ref q_a0_rests, w_a0_squared, .long a0_from, .int a0_many, .int a0_primeCount, .int a0_gap, .int a0_twins, .int a0_squareFree])), (q_a0_leasts, .inl (cJ, 5000, .inr (.inl (vp_updL a0_leasts_2_0 l1_2_0.toNatClampNeg y_19)))), (q_a0_greatests, .inl (cJ, 5000, .inr (.inl (vp_updL a0_greatests_2_0 l1_2_0.toNatClampNeg y_31)))), (q_a0_rests, .inl (cJ, 5000, .inr (.inl a0_rests)))] H := hP
              have hD : va_D A [(h_a0, .inr (6, [.ref q_a0_leasts, .ref q_a0_greatests, .ref q_a0_rests, w_a0_squared, .long a0_from, .int a0_many, .int a0_primeCount, .int a0_gap, .int a0_twins, .int a0_squareFree])), (q_a0_leasts, .inl (cJ, 5000, .inr (.inl (vp_updL a0_leasts_2_0 l1_2_0.toNatClampNeg y_19)))), (q_a0_greatests, .inl (cJ, 5000, .inr (.inl (vp_updL a0_greatests_2_0 l1_2_0.toNatClampNeg y_31)))), (q_a0_rests, .inl (cJ, 5000, .inr (.inl a0_rests)))] := hD
              obtain ⟨x1_33, e_x1_33⟩ : ∃ y : Int32, y = l1_2_0 + (1 : Int32) := ⟨_, rfl⟩
              replace h := h x1_33 e_x1_33
              refine lv_iinc (v := x1_33) (lv' := [(1, .int x1_33), (0, .ref h_a0)]) hx hb dX6_takeRests_67 hl (k := 0) rfl (by rw [e_x1_33]; rfl) (by decide) rfl (fun ls hl => ?_)
              refine lv_goto (tgt := 2) hx hb dX6_takeRests_70 (by decide) ?_
              exact ih_2_0 x1_33 (vp_updL a0_leasts_2_0 l1_2_0.toNatClampNeg y_19) (vp_updL a0_greatests_2_0 l1_2_0.toNatClampNeg y_31) (Nat.lt_of_lt_of_le h.2 (Nat.le_of_lt_succ hm_2_0)) h.1 _ _ _ (lv_sub hl [0, 1] rfl) (hP.sub [0, 1, 2, 3] rfl) (hD.sub [0, 1, 2, 3] (by decide) rfl) hS
  exact key_2_0 _ (0 : Int32) a0_leasts a0_greatests (Nat.lt_succ_self _) h0_2_0 _ _ _ (lv_sub hl [0, 1] rfl) (hP.sub [0, 1, 2, 3] rfl) (hD.sub [0, 1, 2, 3] (by decide) rfl) hS
def wp_X6_measure (a0_leasts : Nat → Int64) (a0_squared_words : Nat → Int64) (a0_from : Int64) (a0_many : Int32) (a0_primeCount : Int32) (a0_gap : Int32) (a0_twins : Int32) (a0_squareFree : Int32)  (Q : Int32 → Int32 → Int32 → Int32 → Prop) : Prop :=
  wp_X0_tally 79 a0_squared_words (fun r_1 => (∀ y_2 : Int32, y_2 = (a0_many - r_1) → (∃ (I_35_2 : Int32 → Int32 → Int32 → Int32 → Int32 → Prop) (m_35_2 : Int32 → Int32 → Int32 → Int32 → Int32 → Nat), I_35_2 (0 : Int32) (-1 : Int32) (0 : Int32) (0 : Int32) (0 : Int32) ∧ ∀ (l2_35_2 : Int32) (l1_35_2 : Int32) (a0_primeCount_35_2 : Int32) (a0_gap_35_2 : Int32) (a0_twins_35_2 : Int32), I_35_2 l2_35_2 l1_35_2 a0_primeCount_35_2 a0_gap_35_2 a0_twins_35_2 → ((a0_many ≤ l2_35_2 → Q a0_primeCount_35_2 a0_gap_35_2 a0_twins_35_2 y_2) ∧ (¬ a0_many ≤ l2_35_2 → (((a0_from + l2_35_2.toInt64) = (1 : Int64) → (∀ x2_6 : Int32, x2_6 = l2_35_2 + (1 : Int32) → (I_35_2 x2_6 l1_35_2 a0_primeCount_35_2 a0_gap_35_2 a0_twins_35_2 ∧ m_35_2 x2_6 l1_35_2 a0_primeCount_35_2 a0_gap_35_2 a0_twins_35_2 < m_35_2 l2_35_2 l1_35_2 a0_primeCount_35_2 a0_gap_35_2 a0_twins_35_2))) ∧ (¬ (a0_from + l2_35_2.toInt64) = (1 : Int64) → (vp_in l2_35_2 5000 ∧ (((a0_leasts l2_35_2.toNatClampNeg) = (a0_from + l2_35_2.toInt64) → (∀ y_9 : Int32, y_9 = (a0_primeCount_35_2 + (1 : Int32)) → ((l1_35_2 < (0 : Int32) → (∀ x2_11 : Int32, x2_11 = l2_35_2 + (1 : Int32) → (I_35_2 x2_11 l2_35_2 y_9 a0_gap_35_2 a0_twins_35_2 ∧ m_35_2 x2_11 l2_35_2 y_9 a0_gap_35_2 a0_twins_35_2 < m_35_2 l2_35_2 l1_35_2 a0_primeCount_35_2 a0_gap_35_2 a0_twins_35_2))) ∧ (¬ l1_35_2 < (0 : Int32) → (∀ y_12 : Int32, y_12 = (if a0_gap_35_2 < (l2_35_2 - l1_35_2) then (l2_35_2 - l1_35_2) else a0_gap_35_2) → (((l2_35_2 - l1_35_2) = (2 : Int32) → (∀ y_16 : Int32, y_16 = (a0_twins_35_2 + (1 : Int32)) → (∀ x2_17 : Int32, x2_17 = l2_35_2 + (1 : Int32) → (I_35_2 x2_17 l2_35_2 y_9 y_12 y_16 ∧ m_35_2 x2_17 l2_35_2 y_9 y_12 y_16 < m_35_2 l2_35_2 l1_35_2 a0_primeCount_35_2 a0_gap_35_2 a0_twins_35_2)))) ∧ (¬ (l2_35_2 - l1_35_2) = (2 : Int32) → (∀ y_14 : Int32, y_14 = (a0_twins_35_2 + (0 : Int32)) → (∀ x2_15 : Int32, x2_15 = l2_35_2 + (1 : Int32) → (I_35_2 x2_15 l2_35_2 y_9 y_12 y_14 ∧ m_35_2 x2_15 l2_35_2 y_9 y_12 y_14 < m_35_2 l2_35_2 l1_35_2 a0_primeCount_35_2 a0_gap_35_2 a0_twins_35_2)))))))))) ∧ (¬ (a0_leasts l2_35_2.toNatClampNeg) = (a0_from + l2_35_2.toInt64) → (∀ x2_18 : Int32, x2_18 = l2_35_2 + (1 : Int32) → (I_35_2 x2_18 l1_35_2 a0_primeCount_35_2 a0_gap_35_2 a0_twins_35_2 ∧ m_35_2 x2_18 l1_35_2 a0_primeCount_35_2 a0_gap_35_2 a0_twins_35_2 < m_35_2 l2_35_2 l1_35_2 a0_primeCount_35_2 a0_gap_35_2 a0_twins_35_2))))))))))))
abbrev rm_X6_measure : Room := { frames := 2, cells := 0, slots := 0, locals := 43 }
abbrev qc_X6_measure (dC : Nat → ClassId) (dI : Nat → Nat → Nat) (cI cJ cZ : ClassId) (h_a0 : Nat) (a0_leasts : Nat → Int64) (q_a0_leasts : Nat) (w_a0_greatests : Value) (w_a0_rests : Value) (h_a0_squared : Nat) (a0_squared_words : Nat → Int64) (q_a0_squared_words : Nat) (a0_from : Int64) (a0_many : Int32) (a0_primeCount : Int32) (a0_gap : Int32) (a0_twins : Int32) (a0_squareFree : Int32) (Q : Int32 → Int32 → Int32 → Int32 → Prop) (A : Nat → Prop) : Array Value → State → Outcome → State → Prop := va_Qv (fun (u : Int32 × Int32 × Int32 × Int32) => Q u.1 u.2.1 u.2.2.1 u.2.2.2) (post_ dC dI A (fun (u : Int32 × Int32 × Int32 × Int32) => [(h_a0, .inr (6, [.ref q_a0_leasts, w_a0_greatests, w_a0_rests, .ref h_a0_squared, .long a0_from, .int a0_many, .int u.1, .int u.2.1, .int u.2.2.1, .int u.2.2.2])), (q_a0_leasts, .inl (cJ, 5000, .inr (.inl a0_leasts))), (h_a0_squared, .inr (0, [.ref q_a0_squared_words])), (q_a0_squared_words, .inl (cJ, 79, .inr (.inl a0_squared_words)))])) A
set_option maxHeartbeats 4000000 in
set_option maxRecDepth 100000 in
theorem c_X6_measure (l : Launch) (dC : Nat → ClassId) (dI : Nat → Nat → Nat) (cI cJ cZ : ClassId) (sz : Nat) (h_a0 : Nat) (a0_leasts : Nat → Int64) (q_a0_leasts : Nat) (w_a0_greatests : Value) (w_a0_rests : Value) (h_a0_squared : Nat) (a0_squared_words : Nat → Int64) (q_a0_squared_words : Nat) (a0_from : Int64) (a0_many : Int32) (a0_primeCount : Int32) (a0_gap : Int32) (a0_twins : Int32) (a0_squareFree : Int32)  (Q : Int32 → Int32 → Int32 → Int32 → Prop) (hQ : wp_X6_measure a0_leasts a0_squared_words a0_from a0_many a0_primeCount a0_gap a0_twins a0_squareFree Q) : Met l yX6_measure wsX6_measure rm_X6_measure (pre_ dC dI cI cJ cZ [.ref h_a0] [(h_a0, .inr (6, [.ref q_a0_leasts, w_a0_greatests, w_a0_rests, .ref h_a0_squared, .long a0_from, .int a0_many, .int a0_primeCount, .int a0_gap, .int a0_twins, .int a0_squareFree])), (q_a0_leasts, .inl (cJ, 5000, .inr (.inl a0_leasts))), (h_a0_squared, .inr (0, [.ref q_a0_squared_words])), (q_a0_squared_words, .inl (cJ, 79, .inr (.inl a0_squared_words)))] sz) (qc_X6_measure dC dI cI cJ cZ h_a0 a0_leasts q_a0_leasts w_a0_greatests w_a0_rests h_a0_squared a0_squared_words q_a0_squared_words a0_from a0_many a0_primeCount a0_gap a0_twins a0_squareFree Q (va_A [(h_a0, .inr (6, [.ref q_a0_leasts, w_a0_greatests, w_a0_rests, .ref h_a0_squared, .long a0_from, .int a0_many, .int a0_primeCount, .int a0_gap, .int a0_twins, .int a0_squareFree])), (q_a0_leasts, .inl (cJ, 5000, .inr (.inl a0_leasts))), (h_a0_squared, .inr (0, [.ref q_a0_squared_words])), (q_a0_squared_words, .inl (cJ, 79, .inr (.inl a0_squared_words)))] sz)) 0 0 (va_A [(h_a0, .inr (6, [.ref q_a0_leasts, w_a0_greatests, w_a0_rests, .ref h_a0_squared, .long a0_from, .int a0_many, .int a0_primeCount, .int a0_gap, .int a0_twins, .int a0_squareFree])), (q_a0_leasts, .inl (cJ, 5000, .inr (.inl a0_leasts))), (h_a0_squared, .inr (0, [.ref q_a0_squared_words])), (q_a0_squared_words, .inl (cJ, 79, .inr (.inl a0_squared_words)))] sz) := by
  refine Met.ofW (cc := cX6_measure) (maxL := 3) (ret := none) (by decide) rfl ?_
  intro p e s m args below meth c s₁ B hml hv
  obtain ⟨rfl, hsz, hP, hK, hN, hD0⟩ := hv
  have hx := B.exec
  have hb := B.bytes
  have hr := B.returns
  have hts := atoms_spec (ws := wsX6_measure) B.pre
  have hown : s.vm.findClass RX6 = some m.cls := findClass_of_methodNamed B.named
  subst hsz
  have hD := hD0.self (sz := s.heap.size)
  generalize hAe : va_A [(h_a0, .inr (6, [.ref q_a0_leasts, w_a0_greatests, w_a0_rests, .ref h_a0_squared, .long a0_from, .int a0_many, .int a0_primeCount, .int a0_gap, .int a0_twins, .int a0_squareFree])), (q_a0_leasts, .inl (cJ, 5000, .inr (.inl a0_leasts))), (h_a0_squared, .inr (0, [.ref q_a0_squared_words])), (q_a0_squared_words, .inl (cJ, 79, .inr (.inl a0_squared_words)))] s.heap.size = A at hD ⊢
  have hA : ∀ q : Nat, s.heap.size ≤ q → A q := fun q h => by rw [← hAe]; exact Or.inr h
  have hS : va_S A s.heap s.heap [] := va_S.rf
  have hl := lv_entry ([.ref h_a0]) (n := 3) (Nat.le_of_ble_eq_true rfl)
  rw [lg_entry_eq]
  generalize (lg_sl ([.ref h_a0]) ++ List.replicate (3 - (lg_sl ([.ref h_a0])).length) Slot.unset).toArray = ls at hl ⊢
  have hl : lv_has ls 3 [(0, .ref h_a0)] := hl
  have h := hQ
  unfold wp_X6_measure at h
  have hw_0 := hts (.fieldLink RX6 76 "NumberSieves$Span" "primeCount" "I") (by decide +kernel)
  have hin_X6 : ∀ w ∈ wsX60, w ∈ wsX6_measure := by decide +kernel
  have hw_2 := hts (.fieldLink RX6 79 "NumberSieves$Span" "gap" "I") (by decide +kernel)
  have hw_3 := hts (.fieldLink RX6 82 "NumberSieves$Span" "twins" "I") (by decide +kernel)
  have hw_4 := hts (.fieldLink RX6 34 "NumberSieves$Span" "many" "I") (by decide +kernel)
  have hw_5 := hts (.fieldLink RX6 26 "NumberSieves$Span" "squared" "LNumberSieves$Marks;") (by decide +kernel)
  have hw_6 := hts (.fieldLink RX6 89 "NumberSieves$Span" "squareFree" "I") (by decide +kernel)
  have hw_7 := hts (.fieldLink RX6 30 "NumberSieves$Span" "from" "J") (by decide +kernel)
  have hw_8 := hts (.fieldLink RX6 9 "NumberSieves$Span" "leasts" "[J") (by decide +kernel)
  have hw_9 := hts (.methodLink RX6 44 Lib.Math.max.name) (by decide +kernel)
  have hw_10 := hts (.static Lib.Math.max.name) (by decide +kernel)
  have hw_11 := hts (.initialized "java/lang/Math") (by decide +kernel)
  have hw_12 := hts (.code Lib.Math.max.name Lib.Math.max.code 2 (some .int)) (by decide +kernel)
  refine lv_aload_n hx hb dX6_measure_0 rfl (lv_at hl 0 rfl) ?_
  refine lv_iconst (v := (0 : Int32)) hx hb dX6_measure_1 (by decide) ?_
  refine va_put (D := (dC, dI)) (ci := 6) (v := .int (0 : Int32)) (ty := .int) (C := RX6) (T := TX6) (N := 10) hx hb hts hin_X6 tyX6 tyX6_ok nmX6 hown hK hP hD hS 0 rfl rfl 6 (by decide) hw_0 (fun _ h9 => h9) rfl (by decide +kernel) rfl rfl (Nat.le_of_ble_eq_true rfl) dX6_measure_2 (fun H locs hP hD hS => ?_)
  have hP : va_P (dC, dI) vwCl [(h_a0, .inr (6, [.ref q_a0_leasts, w_a0_greatests, w_a0_rests, .ref h_a0_squared, .long a0_from, .int a0_many, .int (0 : Int32), .int a0_gap, .int a0_twins, .int a0_squareFree])), (q_a0_leasts, .inl (cJ, 5000, .inr (.inl a0_leasts))), (h_a0_squared, .inr (0, [.ref q_a0_squared_words])), (q_a0_squared_words, .inl (cJ, 79, .inr (.inl a0_squared_words)))] H := hP
  have hD : va_D A [(h_a0, .inr (6, [.ref q_a0_leasts, w_a0_greatests, w_a0_rests, .ref h_a0_squared, .long a0_from, .int a0_many, .int (0 : Int32), .int a0_gap, .int a0_twins, .int a0_squareFree])), (q_a0_leasts, .inl (cJ, 5000, .inr (.inl a0_leasts))), (h_a0_squared, .inr (0, [.ref q_a0_squared_words])), (q_a0_squared_words, .inl (cJ, 79, .inr (.inl a0_squared_words)))] := hD
  refine lv_aload_n hx hb dX6_measure_5 rfl (lv_at hl 0 rfl) ?_
  refine lv_iconst (v := (0 : Int32)) hx hb dX6_measure_6 (by decide) ?_
  refine va_put (D := (dC, dI)) (ci := 6) (v := .int (0 : Int32)) (ty := .int) (C := RX6) (T := TX6) (N := 10) hx hb hts hin_X6 tyX6 tyX6_ok nmX6 hown hK hP hD hS 0 rfl rfl 7 (by decide) hw_2 (fun _ h9 => h9) rfl (by decide +kernel) rfl rfl (Nat.le_of_ble_eq_true rfl) dX6_measure_7 (fun H locs hP hD hS => ?_)
  have hP : va_P (dC, dI) vwCl [(h_a0, .inr (6, [.ref q_a0_leasts, w_a0_greatests, w_a0_rests, .ref h_a0_squared, .long a0_from, .int a0_many, .int (0 : Int32), .int (0 : Int32), .int a0_twins, .int a0_squareFree])), (q_a0_leasts, .inl (cJ, 5000, .inr (.inl a0_leasts))), (h_a0_squared, .inr (0, [.ref q_a0_squared_words])), (q_a0_squared_words, .inl (cJ, 79, .inr (.inl a0_squared_words)))] H := hP
  have hD : va_D A [(h_a0, .inr (6, [.ref q_a0_leasts, w_a0_greatests, w_a0_rests, .ref h_a0_squared, .long a0_from, .int a0_many, .int (0 : Int32), .int (0 : Int32), .int a0_twins, .int a0_squareFree])), (q_a0_leasts, .inl (cJ, 5000, .inr (.inl a0_leasts))), (h_a0_squared, .inr (0, [.ref q_a0_squared_words])), (q_a0_squared_words, .inl (cJ, 79, .inr (.inl a0_squared_words)))] := hD
  refine lv_aload_n hx hb dX6_measure_10 rfl (lv_at hl 0 rfl) ?_
  refine lv_iconst (v := (0 : Int32)) hx hb dX6_measure_11 (by decide) ?_
  refine va_put (D := (dC, dI)) (ci := 6) (v := .int (0 : Int32)) (ty := .int) (C := RX6) (T := TX6) (N := 10) hx hb hts hin_X6 tyX6 tyX6_ok nmX6 hown hK hP hD hS 0 rfl rfl 8 (by decide) hw_3 (fun _ h9 => h9) rfl (by decide +kernel) rfl rfl (Nat.le_of_ble_eq_true rfl) dX6_measure_12 (fun H locs hP hD hS => ?_)
  have hP : va_P (dC, dI) vwCl [(h_a0, .inr (6, [.ref q_a0_leasts, w_a0_greatests, w_a0_rests, .ref h_a0_squared, .long a0_from, .int a0_many, .int (0 : Int32), .int (0 : Int32), .int (0 : Int32), .int a0_squareFree])), (q_a0_leasts, .inl (cJ, 5000, .inr (.inl a0_leasts))), (h_a0_squared, .inr (0, [.ref q_a0_squared_words])), (q_a0_squared_words, .inl (cJ, 79, .inr (.inl a0_squared_words)))] H := hP
  have hD : va_D A [(h_a0, .inr (6, [.ref q_a0_leasts, w_a0_greatests, w_a0_rests, .ref h_a0_squared, .long a0_from, .int a0_many, .int (0 : Int32), .int (0 : Int32), .int (0 : Int32), .int a0_squareFree])), (q_a0_leasts, .inl (cJ, 5000, .inr (.inl a0_leasts))), (h_a0_squared, .inr (0, [.ref q_a0_squared_words])), (q_a0_squared_words, .inl (cJ, 79, .inr (.inl a0_squared_words)))] := hD
  refine lv_aload_n hx hb dX6_measure_15 rfl (lv_at hl 0 rfl) ?_
  refine lv_aload_n hx hb dX6_measure_16 rfl (lv_at hl 0 rfl) ?_
  refine va_get (D := (dC, dI)) (ci := 6) (v := .int a0_many) (C := RX6) (T := TX6) (N := 10) hx hb hts hin_X6 hown hK hP 0 rfl rfl 5 (by decide) hw_4 (fun _ h9 => h9) rfl dX6_measure_17 ?_
  refine lv_aload_n hx hb dX6_measure_20 rfl (lv_at hl 0 rfl) ?_
  refine va_get (D := (dC, dI)) (ci := 6) (v := .ref h_a0_squared) (C := RX6) (T := TX6) (N := 10) hx hb hts hin_X6 hown hK hP 0 rfl rfl 3 (by decide) hw_5 (fun _ h9 => h9) rfl dX6_measure_21 ?_
  have hPc := hP.sub (ws' := [(h_a0_squared, .inr (0, [.ref q_a0_squared_words])), (q_a0_squared_words, .inl (cJ, 79, .inr (.inl a0_squared_words)))]) [2, 3] rfl
  have hDc := hD.sub (ws' := [(h_a0_squared, .inr (0, [.ref q_a0_squared_words])), (q_a0_squared_words, .inl (cJ, 79, .inr (.inl a0_squared_words)))]) [2, 3] (by decide) rfl
  have hFc := va_free (wc := [(h_a0_squared, .inr (0, [.ref q_a0_squared_words])), (q_a0_squared_words, .inl (cJ, 79, .inr (.inl a0_squared_words)))]) hD hS hA [2, 3] rfl
  refine va_calli (va_runV (As := []) (rest := [.int a0_many, .ref h_a0]) ⟨hx, hb, hml, hown, hts⟩ (c_X0_tally l dC dI cI cJ cZ _ h_a0_squared 79 a0_squared_words q_a0_squared_words _ h) (cwV 0 hts gX6_measure_X0_tally rfl rfl rfl (by decide +kernel) ⟨Nat.le_of_ble_eq_true rfl, Nat.le_of_ble_eq_true rfl⟩) ⟨pre_fb, va_recv hK hPc (ci := 0) (q0 := 0) rfl rfl, pre_of hPc hDc hK hN⟩ rfl rfl hl.1 rfl (lv_room (Nat.le_of_ble_eq_true rfl)) dX6_measure_24 ⟨by first | exact Nat.le_of_ble_eq_true rfl | exact Nat.le_refl _, by first | exact Nat.le_of_ble_eq_true rfl | exact Nat.le_refl _⟩) hS (fun q _ h => hFc q h) hFc (fun r_1 u t H1 locs ht hvm h hB hz1 hk1 hS => ?_)
  obtain ⟨hP1, hD1⟩ := hB
  rw [ht] at hP1
  try dsimp only at h
  obtain ⟨hP, hD⟩ := va_join (wr := [(h_a0, .inr (6, [.ref q_a0_leasts, w_a0_greatests, w_a0_rests, .ref h_a0_squared, .long a0_from, .int a0_many, .int (0 : Int32), .int (0 : Int32), .int (0 : Int32), .int a0_squareFree])), (q_a0_leasts, .inl (cJ, 5000, .inr (.inl a0_leasts)))]) (w1 := [(h_a0_squared, .inr (0, [.ref q_a0_squared_words])), (q_a0_squared_words, .inl (cJ, 79, .inr (.inl a0_squared_words)))]) hP hD [2, 3] [0, 1] rfl rfl (by decide) (by decide) hk1 hFc hP1 hD1
  generalize H1 = H at hP hS ⊢
  have hP : va_P (dC, dI) vwCl [(h_a0, .inr (6, [.ref q_a0_leasts, w_a0_greatests, w_a0_rests, .ref h_a0_squared, .long a0_from, .int a0_many, .int (0 : Int32), .int (0 : Int32), .int (0 : Int32), .int a0_squareFree])), (q_a0_leasts, .inl (cJ, 5000, .inr (.inl a0_leasts))), (h_a0_squared, .inr (0, [.ref q_a0_squared_words])), (q_a0_squared_words, .inl (cJ, 79, .inr (.inl a0_squared_words)))] H := hP
  have hD : va_D A [(h_a0, .inr (6, [.ref q_a0_leasts, w_a0_greatests, w_a0_rests, .ref h_a0_squared, .long a0_from, .int a0_many, .int (0 : Int32), .int (0 : Int32), .int (0 : Int32), .int a0_squareFree])), (q_a0_leasts, .inl (cJ, 5000, .inr (.inl a0_leasts))), (h_a0_squared, .inr (0, [.ref q_a0_squared_words])), (q_a0_squared_words, .inl (cJ, 79, .inr (.inl a0_squared_words)))] := hD
  refine lv_isub hx hb dX6_measure_27 ?_
  refine lv_topi (fun y_2 e_y_2 => ?_)
  replace h := h y_2 e_y_2
  refine va_put (D := (dC, dI)) (ci := 6) (v := .int y_2) (ty := .int) (C := RX6) (T := TX6) (N := 10) hx hb hts hin_X6 tyX6 tyX6_ok nmX6 hown hK hP hD hS 0 rfl rfl 9 (by decide) hw_6 (fun _ h9 => h9) rfl (by decide +kernel) rfl rfl (Nat.le_of_ble_eq_true rfl) dX6_measure_28 (fun H locs hP hD hS => ?_)
  have hP : va_P (dC, dI) vwCl [(h_a0, .inr (6, [.ref q_a0_leasts, w_a0_greatests, w_a0_rests, .ref h_a0_squared, .long a0_from, .int a0_many, .int (0 : Int32), .int (0 : Int32), .int (0 : Int32), .int y_2])), (q_a0_leasts, .inl (cJ, 5000, .inr (.inl a0_leasts))), (h_a0_squared, .inr (0, [.ref q_a0_squared_words])), (q_a0_squared_words, .inl (cJ, 79, .inr (.inl a0_squared_words)))] H := hP
  have hD : va_D A [(h_a0, .inr (6, [.ref q_a0_leasts, w_a0_greatests, w_a0_rests, .ref h_a0_squared, .long a0_from, .int a0_many, .int (0 : Int32), .int (0 : Int32), .int (0 : Int32), .int y_2])), (q_a0_leasts, .inl (cJ, 5000, .inr (.inl a0_leasts))), (h_a0_squared, .inr (0, [.ref q_a0_squared_words])), (q_a0_squared_words, .inl (cJ, 79, .inr (.inl a0_squared_words)))] := hD
  refine lv_iconst (v := (-1 : Int32)) hx hb dX6_measure_31 (by decide) ?_
  refine lv_istore_n (lv' := [(1, .int (-1 : Int32)), (0, .ref h_a0)]) hx hb dX6_measure_32 rfl hl (by decide) rfl (fun ls hl => ?_)
  refine lv_iconst (v := (0 : Int32)) hx hb dX6_measure_33 (by decide) ?_
  refine lv_istore_n (lv' := [(2, .int (0 : Int32)), (1, .int (-1 : Int32)), (0, .ref h_a0)]) hx hb dX6_measure_34 rfl hl (by decide) rfl (fun ls hl => ?_)
  obtain ⟨I_35_2, m_35_2, h0_35_2, hs_35_2⟩ := h
  have key_35_2 : ∀ (n : Nat) (l2_35_2 : Int32) (l1_35_2 : Int32) (a0_primeCount_35_2 : Int32) (a0_gap_35_2 : Int32) (a0_twins_35_2 : Int32), m_35_2 l2_35_2 l1_35_2 a0_primeCount_35_2 a0_gap_35_2 a0_twins_35_2 < n → I_35_2 l2_35_2 l1_35_2 a0_primeCount_35_2 a0_gap_35_2 a0_twins_35_2 → ∀ (ls : Array Slot) (H : Heap) (locs : List Loc), lv_has ls 3 [(2, .int l2_35_2), (1, .int l1_35_2), (0, .ref h_a0)] → va_P (dC, dI) vwCl [(h_a0, .inr (6, [.ref q_a0_leasts, w_a0_greatests, w_a0_rests, .ref h_a0_squared, .long a0_from, .int a0_many, .int a0_primeCount_35_2, .int a0_gap_35_2, .int a0_twins_35_2, .int y_2])), (q_a0_leasts, .inl (cJ, 5000, .inr (.inl a0_leasts))), (h_a0_squared, .inr (0, [.ref q_a0_squared_words])), (q_a0_squared_words, .inl (cJ, 79, .inr (.inl a0_squared_words)))] H → va_D A [(h_a0, .inr (6, [.ref q_a0_leasts, w_a0_greatests, w_a0_rests, .ref h_a0_squared, .long a0_from, .int a0_many, .int a0_primeCount_35_2, .int a0_gap_35_2, .int a0_twins_35_2, .int y_2])), (q_a0_leasts, .inl (cJ, 5000, .inr (.inl a0_leasts))), (h_a0_squared, .inr (0, [.ref q_a0_squared_words])), (q_a0_squared_words, .inl (cJ, 79, .inr (.inl a0_squared_words)))] → va_S A s.heap H locs → W p l e (headSpec wsX6_measure rm_X6_measure).room s m ([.ref h_a0] : List Value).toArray below meth c H locs 0 0 (MQ below (qc_X6_measure dC dI cI cJ cZ h_a0 a0_leasts q_a0_leasts w_a0_greatests w_a0_rests h_a0_squared a0_squared_words q_a0_squared_words a0_from a0_many a0_primeCount a0_gap a0_twins a0_squareFree Q A) ([.ref h_a0] : List Value).toArray s 0 0 A) (F0 m 35 ls []) := by
    intro n
    induction n with
    | zero =>
      intro l2_35_2 l1_35_2 a0_primeCount_35_2 a0_gap_35_2 a0_twins_35_2 hm
      exact absurd hm (Nat.not_lt_zero _)
    | succ n ih_35_2 =>
      intro l2_35_2 l1_35_2 a0_primeCount_35_2 a0_gap_35_2 a0_twins_35_2 hm_35_2 hI ls H locs hl hP hD hS
      have h := hs_35_2 l2_35_2 l1_35_2 a0_primeCount_35_2 a0_gap_35_2 a0_twins_35_2 hI
      refine lv_iload_n hx hb dX6_measure_35 rfl (lv_at hl 0 rfl) ?_
      refine lv_aload_n hx hb dX6_measure_36 rfl (lv_at hl 2 rfl) ?_
      refine va_get (D := (dC, dI)) (ci := 6) (v := .int a0_many) (C := RX6) (T := TX6) (N := 10) hx hb hts hin_X6 hown hK hP 0 rfl rfl 5 (by decide) hw_4 (fun _ h9 => h9) rfl dX6_measure_37 ?_
      refine lv_icmp_ge (tgt := 132) hx hb dX6_measure_40 (by decide) (fun c_4 => ?_) (fun c_4 => ?_)
      · replace h := h.1 c_4
        have hP9 := hP.sub (ws' := [(h_a0, .inr (6, [.ref q_a0_leasts, w_a0_greatests, w_a0_rests, .ref h_a0_squared, .long a0_from, .int a0_many, .int a0_primeCount_35_2, .int a0_gap_35_2, .int a0_twins_35_2, .int y_2])), (q_a0_leasts, .inl (cJ, 5000, .inr (.inl a0_leasts))), (h_a0_squared, .inr (0, [.ref q_a0_squared_words])), (q_a0_squared_words, .inl (cJ, 79, .inr (.inl a0_squared_words)))]) [0, 1, 2, 3] rfl
        have hD9 := hD.sub (ws' := [(h_a0, .inr (6, [.ref q_a0_leasts, w_a0_greatests, w_a0_rests, .ref h_a0_squared, .long a0_from, .int a0_many, .int a0_primeCount_35_2, .int a0_gap_35_2, .int a0_twins_35_2, .int y_2])), (q_a0_leasts, .inl (cJ, 5000, .inr (.inl a0_leasts))), (h_a0_squared, .inr (0, [.ref q_a0_squared_words])), (q_a0_squared_words, .inl (cJ, 79, .inr (.inl a0_squared_words)))]) [0, 1, 2, 3] (by decide) rfl
        exact W.vret hx hb hr (fun t ht hW => ⟨⟨(a0_primeCount_35_2, a0_gap_35_2, a0_twins_35_2, y_2), rfl, h, by rw [ht]; exact hP9, hD9⟩, hS.F ht⟩) hS.2.2 dX6_measure_132
      · replace h := h.2 c_4
        refine lv_aload_n hx hb dX6_measure_43 rfl (lv_at hl 2 rfl) ?_
        refine va_get (D := (dC, dI)) (ci := 6) (v := .long a0_from) (C := RX6) (T := TX6) (N := 10) hx hb hts hin_X6 hown hK hP 0 rfl rfl 4 (by decide) hw_7 (fun _ h9 => h9) rfl dX6_measure_44 ?_
        refine lv_iload_n hx hb dX6_measure_47 rfl (lv_at hl 0 rfl) ?_
        refine lv_i2l hx hb dX6_measure_48 rfl ?_
        refine lv_ladd hx hb dX6_measure_49 ?_
        refine lv_lconst (v := (1 : Int64)) hx hb dX6_measure_50 (by decide) ?_
        refine W.lcmp hx hb dX6_measure_51 ?_
        refine lv_if_eq (tgt := 126) hx hb dX6_measure_52 (by decide) (fun c_5 => ?_) (fun c_5 => ?_)
        · replace c_5 := (lg_cmp_eq _ _).mp c_5
          replace h := h.1 c_5
          obtain ⟨x2_6, e_x2_6⟩ : ∃ y : Int32, y = l2_35_2 + (1 : Int32) := ⟨_, rfl⟩
          replace h := h x2_6 e_x2_6
          refine lv_iinc (v := x2_6) (lv' := [(2, .int x2_6), (1, .int l1_35_2), (0, .ref h_a0)]) hx hb dX6_measure_126 hl (k := 0) rfl (by rw [e_x2_6]; rfl) (by decide) rfl (fun ls hl => ?_)
          refine lv_goto (tgt := 35) hx hb dX6_measure_129 (by decide) ?_
          exact ih_35_2 x2_6 l1_35_2 a0_primeCount_35_2 a0_gap_35_2 a0_twins_35_2 (Nat.lt_of_lt_of_le h.2 (Nat.le_of_lt_succ hm_35_2)) h.1 _ _ _ (lv_sub hl [0, 1, 2] rfl) (hP.sub [0, 1, 2, 3] rfl) (hD.sub [0, 1, 2, 3] (by decide) rfl) hS
        · replace c_5 := lc_neq c_5
          replace h := h.2 c_5
          refine lv_aload_n hx hb dX6_measure_55 rfl (lv_at hl 2 rfl) ?_
          refine va_get (D := (dC, dI)) (ci := 6) (v := .ref q_a0_leasts) (C := RX6) (T := TX6) (N := 10) hx hb hts hin_X6 hown hK hP 0 rfl rfl 0 (by decide) hw_8 (fun _ h9 => h9) rfl dX6_measure_56 ?_
          refine lv_iload_n hx hb dX6_measure_59 rfl (lv_at hl 0 rfl) ?_
          obtain ⟨hin_7, h⟩ := h
          refine va_lald hx hb hK hP 1 1 rfl rfl hin_7 dX6_measure_60 ?_
          refine lv_aload_n hx hb dX6_measure_61 rfl (lv_at hl 2 rfl) ?_
          refine va_get (D := (dC, dI)) (ci := 6) (v := .long a0_from) (C := RX6) (T := TX6) (N := 10) hx hb hts hin_X6 hown hK hP 0 rfl rfl 4 (by decide) hw_7 (fun _ h9 => h9) rfl dX6_measure_62 ?_
          refine lv_iload_n hx hb dX6_measure_65 rfl (lv_at hl 0 rfl) ?_
          refine lv_i2l hx hb dX6_measure_66 rfl ?_
          refine lv_ladd hx hb dX6_measure_67 ?_
          refine W.lcmp hx hb dX6_measure_68 ?_
          refine lv_if_eq (tgt := 75) hx hb dX6_measure_69 (by decide) (fun c_8 => ?_) (fun c_8 => ?_)
          · replace c_8 := (lg_cmp_eq _ _).mp c_8
            replace h := h.1 c_8
            refine lv_aload_n hx hb dX6_measure_75 rfl (lv_at hl 2 rfl) ?_
            refine lv_dup hx hb dX6_measure_76 rfl ?_
            refine va_get (D := (dC, dI)) (ci := 6) (v := .int a0_primeCount_35_2) (C := RX6) (T := TX6) (N := 10) hx hb hts hin_X6 hown hK hP 0 rfl rfl 6 (by decide) hw_0 (fun _ h9 => h9) rfl dX6_measure_77 ?_
            refine lv_iconst (v := (1 : Int32)) hx hb dX6_measure_80 (by decide) ?_
            refine lv_iadd hx hb dX6_measure_81 ?_
            refine lv_topi (fun y_9 e_y_9 => ?_)
            replace h := h y_9 e_y_9
            refine va_put (D := (dC, dI)) (ci := 6) (v := .int y_9) (ty := .int) (C := RX6) (T := TX6) (N := 10) hx hb hts hin_X6 tyX6 tyX6_ok nmX6 hown hK hP hD hS 0 rfl rfl 6 (by decide) hw_0 (fun _ h9 => h9) rfl (by decide +kernel) rfl rfl (Nat.le_of_ble_eq_true rfl) dX6_measure_82 (fun H locs hP hD hS => ?_)
            have hP : va_P (dC, dI) vwCl [(h_a0, .inr (6, [.ref q_a0_leasts, w_a0_greatests, w_a0_rests, .ref h_a0_squared, .long a0_from, .int a0_many, .int y_9, .int a0_gap_35_2, .int a0_twins_35_2, .int y_2])), (q_a0_leasts, .inl (cJ, 5000, .inr (.inl a0_leasts))), (h_a0_squared, .inr (0, [.ref q_a0_squared_words])), (q_a0_squared_words, .inl (cJ, 79, .inr (.inl a0_squared_words)))] H := hP
            have hD : va_D A [(h_a0, .inr (6, [.ref q_a0_leasts, w_a0_greatests, w_a0_rests, .ref h_a0_squared, .long a0_from, .int a0_many, .int y_9, .int a0_gap_35_2, .int a0_twins_35_2, .int y_2])), (q_a0_leasts, .inl (cJ, 5000, .inr (.inl a0_leasts))), (h_a0_squared, .inr (0, [.ref q_a0_squared_words])), (q_a0_squared_words, .inl (cJ, 79, .inr (.inl a0_squared_words)))] := hD
            refine lv_iload_n hx hb dX6_measure_85 rfl (lv_at hl 1 rfl) ?_
            refine lv_if_lt (tgt := 124) hx hb dX6_measure_86 (by decide) (fun c_10 => ?_) (fun c_10 => ?_)
            · replace h := h.1 c_10
              refine lv_iload_n hx hb dX6_measure_124 rfl (lv_at hl 0 rfl) ?_
              refine lv_istore_n (lv' := [(1, .int l2_35_2), (2, .int l2_35_2), (0, .ref h_a0)]) hx hb dX6_measure_125 rfl hl (by decide) rfl (fun ls hl => ?_)
              obtain ⟨x2_11, e_x2_11⟩ : ∃ y : Int32, y = l2_35_2 + (1 : Int32) := ⟨_, rfl⟩
              replace h := h x2_11 e_x2_11
              refine lv_iinc (v := x2_11) (lv' := [(2, .int x2_11), (1, .int l2_35_2), (0, .ref h_a0)]) hx hb dX6_measure_126 hl (k := 1) rfl (by rw [e_x2_11]; rfl) (by decide) rfl (fun ls hl => ?_)
              refine lv_goto (tgt := 35) hx hb dX6_measure_129 (by decide) ?_
              exact ih_35_2 x2_11 l2_35_2 y_9 a0_gap_35_2 a0_twins_35_2 (Nat.lt_of_lt_of_le h.2 (Nat.le_of_lt_succ hm_35_2)) h.1 _ _ _ (lv_sub hl [0, 1, 2] rfl) (hP.sub [0, 1, 2, 3] rfl) (hD.sub [0, 1, 2, 3] (by decide) rfl) hS
            · replace h := h.2 c_10
              refine lv_aload_n hx hb dX6_measure_89 rfl (lv_at hl 2 rfl) ?_
              refine lv_aload_n hx hb dX6_measure_90 rfl (lv_at hl 2 rfl) ?_
              refine va_get (D := (dC, dI)) (ci := 6) (v := .int a0_gap_35_2) (C := RX6) (T := TX6) (N := 10) hx hb hts hin_X6 hown hK hP 0 rfl rfl 7 (by decide) hw_2 (fun _ h9 => h9) rfl dX6_measure_91 ?_
              refine lv_iload_n hx hb dX6_measure_94 rfl (lv_at hl 0 rfl) ?_
              refine lv_iload_n hx hb dX6_measure_95 rfl (lv_at hl 1 rfl) ?_
              refine lv_isub hx hb dX6_measure_96 ?_
              refine va_mmax hx hb (by rw [hml]; exact hl.1.symm) hown hw_9 hw_10 hw_11 hw_12 (Nat.le_of_ble_eq_true rfl) (Nat.le_of_ble_eq_true rfl) (Nat.le_of_ble_eq_true rfl) (Nat.le_of_ble_eq_true rfl) dX6_measure_97 ?_
              refine lv_topi (fun y_12 e_y_12 => ?_)
              replace h := h y_12 e_y_12
              refine va_put (D := (dC, dI)) (ci := 6) (v := .int y_12) (ty := .int) (C := RX6) (T := TX6) (N := 10) hx hb hts hin_X6 tyX6 tyX6_ok nmX6 hown hK hP hD hS 0 rfl rfl 7 (by decide) hw_2 (fun _ h9 => h9) rfl (by decide +kernel) rfl rfl (Nat.le_of_ble_eq_true rfl) dX6_measure_100 (fun H locs hP hD hS => ?_)
              have hP : va_P (dC, dI) vwCl [(h_a0, .inr (6, [.ref q_a0_leasts, w_a0_greatests, w_a0_rests, .ref h_a0_squared, .long a0_from, .int a0_many, .int y_9, .int y_12, .int a0_twins_35_2, .int y_2])), (q_a0_leasts, .inl (cJ, 5000, .inr (.inl a0_leasts))), (h_a0_squared, .inr (0, [.ref q_a0_squared_words])), (q_a0_squared_words, .inl (cJ, 79, .inr (.inl a0_squared_words)))] H := hP
              have hD : va_D A [(h_a0, .inr (6, [.ref q_a0_leasts, w_a0_greatests, w_a0_rests, .ref h_a0_squared, .long a0_from, .int a0_many, .int y_9, .int y_12, .int a0_twins_35_2, .int y_2])), (q_a0_leasts, .inl (cJ, 5000, .inr (.inl a0_leasts))), (h_a0_squared, .inr (0, [.ref q_a0_squared_words])), (q_a0_squared_words, .inl (cJ, 79, .inr (.inl a0_squared_words)))] := hD
              refine lv_aload_n hx hb dX6_measure_103 rfl (lv_at hl 2 rfl) ?_
              refine lv_dup hx hb dX6_measure_104 rfl ?_
              refine va_get (D := (dC, dI)) (ci := 6) (v := .int a0_twins_35_2) (C := RX6) (T := TX6) (N := 10) hx hb hts hin_X6 hown hK hP 0 rfl rfl 8 (by decide) hw_3 (fun _ h9 => h9) rfl dX6_measure_105 ?_
              refine lv_iload_n hx hb dX6_measure_108 rfl (lv_at hl 0 rfl) ?_
              refine lv_iload_n hx hb dX6_measure_109 rfl (lv_at hl 1 rfl) ?_
              refine lv_isub hx hb dX6_measure_110 ?_
              refine lv_iconst (v := (2 : Int32)) hx hb dX6_measure_111 (by decide) ?_
              refine lv_icmp_ne (tgt := 119) hx hb dX6_measure_112 (by decide) (fun c_13 => ?_) (fun c_13 => ?_)
              · replace h := h.2 c_13
                refine lv_iconst (v := (0 : Int32)) hx hb dX6_measure_119 (by decide) ?_
                refine lv_iadd hx hb dX6_measure_120 ?_
                refine lv_topi (fun y_14 e_y_14 => ?_)
                replace h := h y_14 e_y_14
                refine va_put (D := (dC, dI)) (ci := 6) (v := .int y_14) (ty := .int) (C := RX6) (T := TX6) (N := 10) hx hb hts hin_X6 tyX6 tyX6_ok nmX6 hown hK hP hD hS 0 rfl rfl 8 (by decide) hw_3 (fun _ h9 => h9) rfl (by decide +kernel) rfl rfl (Nat.le_of_ble_eq_true rfl) dX6_measure_121 (fun H locs hP hD hS => ?_)
                have hP : va_P (dC, dI) vwCl [(h_a0, .inr (6, [.ref q_a0_leasts, w_a0_greatests, w_a0_rests, .ref h_a0_squared, .long a0_from, .int a0_many, .int y_9, .int y_12, .int y_14, .int y_2])), (q_a0_leasts, .inl (cJ, 5000, .inr (.inl a0_leasts))), (h_a0_squared, .inr (0, [.ref q_a0_squared_words])), (q_a0_squared_words, .inl (cJ, 79, .inr (.inl a0_squared_words)))] H := hP
                have hD : va_D A [(h_a0, .inr (6, [.ref q_a0_leasts, w_a0_greatests, w_a0_rests, .ref h_a0_squared, .long a0_from, .int a0_many, .int y_9, .int y_12, .int y_14, .int y_2])), (q_a0_leasts, .inl (cJ, 5000, .inr (.inl a0_leasts))), (h_a0_squared, .inr (0, [.ref q_a0_squared_words])), (q_a0_squared_words, .inl (cJ, 79, .inr (.inl a0_squared_words)))] := hD
                refine lv_iload_n hx hb dX6_measure_124 rfl (lv_at hl 0 rfl) ?_
                refine lv_istore_n (lv' := [(1, .int l2_35_2), (2, .int l2_35_2), (0, .ref h_a0)]) hx hb dX6_measure_125 rfl hl (by decide) rfl (fun ls hl => ?_)
                obtain ⟨x2_15, e_x2_15⟩ : ∃ y : Int32, y = l2_35_2 + (1 : Int32) := ⟨_, rfl⟩
                replace h := h x2_15 e_x2_15
                refine lv_iinc (v := x2_15) (lv' := [(2, .int x2_15), (1, .int l2_35_2), (0, .ref h_a0)]) hx hb dX6_measure_126 hl (k := 1) rfl (by rw [e_x2_15]; rfl) (by decide) rfl (fun ls hl => ?_)
                refine lv_goto (tgt := 35) hx hb dX6_measure_129 (by decide) ?_
                exact ih_35_2 x2_15 l2_35_2 y_9 y_12 y_14 (Nat.lt_of_lt_of_le h.2 (Nat.le_of_lt_succ hm_35_2)) h.1 _ _ _ (lv_sub hl [0, 1, 2] rfl) (hP.sub [0, 1, 2, 3] rfl) (hD.sub [0, 1, 2, 3] (by decide) rfl) hS
              · replace h := h.1 c_13
                refine lv_iconst (v := (1 : Int32)) hx hb dX6_measure_115 (by decide) ?_
                refine lv_goto (tgt := 120) hx hb dX6_measure_116 (by decide) ?_
                refine lv_iadd hx hb dX6_measure_120 ?_
                refine lv_topi (fun y_16 e_y_16 => ?_)
                replace h := h y_16 e_y_16
                refine va_put (D := (dC, dI)) (ci := 6) (v := .int y_16) (ty := .int) (C := RX6) (T := TX6) (N := 10) hx hb hts hin_X6 tyX6 tyX6_ok nmX6 hown hK hP hD hS 0 rfl rfl 8 (by decide) hw_3 (fun _ h9 => h9) rfl (by decide +kernel) rfl rfl (Nat.le_of_ble_eq_true rfl) dX6_measure_121 (fun H locs hP hD hS => ?_)
                have hP : va_P (dC, dI) vwCl [(h_a0, .inr (6, [.ref q_a0_leasts, w_a0_greatests, w_a0_rests, .ref h_a0_squared, .long a0_from, .int a0_many, .int y_9, .int y_12, .int y_16, .int y_2])), (q_a0_leasts, .inl (cJ, 5000, .inr (.inl a0_leasts))), (h_a0_squared, .inr (0, [.ref q_a0_squared_words])), (q_a0_squared_words, .inl (cJ, 79, .inr (.inl a0_squared_words)))] H := hP
                have hD : va_D A [(h_a0, .inr (6, [.ref q_a0_leasts, w_a0_greatests, w_a0_rests, .ref h_a0_squared, .long a0_from, .int a0_many, .int y_9, .int y_12, .int y_16, .int y_2])), (q_a0_leasts, .inl (cJ, 5000, .inr (.inl a0_leasts))), (h_a0_squared, .inr (0, [.ref q_a0_squared_words])), (q_a0_squared_words, .inl (cJ, 79, .inr (.inl a0_squared_words)))] := hD
                refine lv_iload_n hx hb dX6_measure_124 rfl (lv_at hl 0 rfl) ?_
                refine lv_istore_n (lv' := [(1, .int l2_35_2), (2, .int l2_35_2), (0, .ref h_a0)]) hx hb dX6_measure_125 rfl hl (by decide) rfl (fun ls hl => ?_)
                obtain ⟨x2_17, e_x2_17⟩ : ∃ y : Int32, y = l2_35_2 + (1 : Int32) := ⟨_, rfl⟩
                replace h := h x2_17 e_x2_17
                refine lv_iinc (v := x2_17) (lv' := [(2, .int x2_17), (1, .int l2_35_2), (0, .ref h_a0)]) hx hb dX6_measure_126 hl (k := 1) rfl (by rw [e_x2_17]; rfl) (by decide) rfl (fun ls hl => ?_)
                refine lv_goto (tgt := 35) hx hb dX6_measure_129 (by decide) ?_
                exact ih_35_2 x2_17 l2_35_2 y_9 y_12 y_16 (Nat.lt_of_lt_of_le h.2 (Nat.le_of_lt_succ hm_35_2)) h.1 _ _ _ (lv_sub hl [0, 1, 2] rfl) (hP.sub [0, 1, 2, 3] rfl) (hD.sub [0, 1, 2, 3] (by decide) rfl) hS
          · replace c_8 := lc_neq c_8
            replace h := h.2 c_8
            refine lv_goto (tgt := 126) hx hb dX6_measure_72 (by decide) ?_
            obtain ⟨x2_18, e_x2_18⟩ : ∃ y : Int32, y = l2_35_2 + (1 : Int32) := ⟨_, rfl⟩
            replace h := h x2_18 e_x2_18
            refine lv_iinc (v := x2_18) (lv' := [(2, .int x2_18), (1, .int l1_35_2), (0, .ref h_a0)]) hx hb dX6_measure_126 hl (k := 0) rfl (by rw [e_x2_18]; rfl) (by decide) rfl (fun ls hl => ?_)
            refine lv_goto (tgt := 35) hx hb dX6_measure_129 (by decide) ?_
            exact ih_35_2 x2_18 l1_35_2 a0_primeCount_35_2 a0_gap_35_2 a0_twins_35_2 (Nat.lt_of_lt_of_le h.2 (Nat.le_of_lt_succ hm_35_2)) h.1 _ _ _ (lv_sub hl [0, 1, 2] rfl) (hP.sub [0, 1, 2, 3] rfl) (hD.sub [0, 1, 2, 3] (by decide) rfl) hS
  exact key_35_2 _ (0 : Int32) (-1 : Int32) (0 : Int32) (0 : Int32) (0 : Int32) (Nat.lt_succ_self _) h0_35_2 _ _ _ (lv_sub hl [0, 1, 2] rfl) (hP.sub [0, 1, 2, 3] rfl) (hD.sub [0, 1, 2, 3] (by decide) rfl) hS
def wp_X6_sieve (a0_leasts : Nat → Int64) (a0_greatests : Nat → Int64) (a0_rests : Nat → Int64) (a0_squared_words : Nat → Int64) (a0_from : Int64) (a0_many : Int32) (a0_primeCount : Int32) (a0_gap : Int32) (a0_twins : Int32) (a0_squareFree : Int32) (a3_table : Nat → Int32) (a3_many : Int32) (p1 : Int64) (p2 : Int32) (Q : Int64 → Int32 → Int32 → Int32 → Int32 → Int32 → (Nat → Int64) → (Nat → Int64) → (Nat → Int64) → (Nat → Int64) → Prop) : Prop :=
  (∀ y_1 : Int32, y_1 = (if (0 : Int32) < (if (5000 : Int32) < p2 then (5000 : Int32) else p2) then (if (5000 : Int32) < p2 then (5000 : Int32) else p2) else (0 : Int32)) → wp_X0_wipe 79 a0_squared_words (fun o_2 => (∃ (I_30_2 : Int32 → (Nat → Int64) → (Nat → Int64) → (Nat → Int64) → Prop) (m_30_2 : Int32 → (Nat → Int64) → (Nat → Int64) → (Nat → Int64) → Nat), I_30_2 (0 : Int32) a0_leasts a0_greatests a0_rests ∧ ∀ (l5_30_2 : Int32) (a0_leasts_30_2 : Nat → Int64) (a0_greatests_30_2 : Nat → Int64) (a0_rests_30_2 : Nat → Int64), I_30_2 l5_30_2 a0_leasts_30_2 a0_greatests_30_2 a0_rests_30_2 → ((y_1 ≤ l5_30_2 → (∀ x5_5 : Int64, x5_5 = ((p1 + y_1.toInt64) - (1 : Int64)) → (∃ (I_93_5 : Int32 → (Nat → Int64) → (Nat → Int64) → (Nat → Int64) → (Nat → Int64) → Prop) (m_93_5 : Int32 → (Nat → Int64) → (Nat → Int64) → (Nat → Int64) → (Nat → Int64) → Nat), I_93_5 (0 : Int32) a0_leasts_30_2 a0_greatests_30_2 a0_rests_30_2 o_2 ∧ ∀ (l7_93_5 : Int32) (a0_leasts_93_5 : Nat → Int64) (a0_greatests_93_5 : Nat → Int64) (a0_rests_93_5 : Nat → Int64) (a0_squared_words_93_5 : Nat → Int64), I_93_5 l7_93_5 a0_leasts_93_5 a0_greatests_93_5 a0_rests_93_5 a0_squared_words_93_5 → ((a3_many ≤ l7_93_5 → wp_X6_takeRests a0_leasts_93_5 a0_greatests_93_5 a0_rests_93_5 y_1 (fun o_8 o_9 => wp_X6_measure o_8 a0_squared_words_93_5 p1 y_1 a0_primeCount a0_gap a0_twins a0_squareFree (fun o_10 o_11 o_12 o_13 => Q p1 y_1 o_10 o_11 o_12 o_13 o_8 o_9 a0_rests_93_5 a0_squared_words_93_5))) ∧ (¬ a3_many ≤ l7_93_5 → wp_X3_nth a3_table a3_many l7_93_5 (fun r_14 => (∀ x8_15 : Int64, x8_15 = r_14.toInt64 → ((x8_15 < (2 : Int64) → wp_X6_takeRests a0_leasts_93_5 a0_greatests_93_5 a0_rests_93_5 y_1 (fun o_17 o_18 => wp_X6_measure o_17 a0_squared_words_93_5 p1 y_1 a0_primeCount a0_gap a0_twins a0_squareFree (fun o_19 o_20 o_21 o_22 => Q p1 y_1 o_19 o_20 o_21 o_22 o_17 o_18 a0_rests_93_5 a0_squared_words_93_5))) ∧ (¬ x8_15 < (2 : Int64) → (((x8_15 * x8_15) ≤ x5_5 → wp_X6_divideAll a0_leasts_93_5 a0_greatests_93_5 a0_rests_93_5 a0_squared_words_93_5 p1 y_1 x8_15 (fun o_24 o_25 o_26 o_27 => (∀ x7_28 : Int32, x7_28 = l7_93_5 + (1 : Int32) → (I_93_5 x7_28 o_24 o_25 o_26 o_27 ∧ m_93_5 x7_28 o_24 o_25 o_26 o_27 < m_93_5 l7_93_5 a0_leasts_93_5 a0_greatests_93_5 a0_rests_93_5 a0_squared_words_93_5)))) ∧ (¬ (x8_15 * x8_15) ≤ x5_5 → wp_X6_takeRests a0_leasts_93_5 a0_greatests_93_5 a0_rests_93_5 y_1 (fun o_29 o_30 => wp_X6_measure o_29 a0_squared_words_93_5 p1 y_1 a0_primeCount a0_gap a0_twins a0_squareFree (fun o_31 o_32 o_33 o_34 => Q p1 y_1 o_31 o_32 o_33 o_34 o_29 o_30 a0_rests_93_5 a0_squared_words_93_5))))))))))))) ∧ (¬ y_1 ≤ l5_30_2 → (vp_in l5_30_2 5000 ∧ (vp_in l5_30_2 5000 ∧ (∀ y_37 : Int64, y_37 = (p1 + l5_30_2.toInt64) → (vp_in l5_30_2 5000 ∧ (∀ x5_39 : Int32, x5_39 = l5_30_2 + (1 : Int32) → (I_30_2 x5_39 (vp_updL a0_leasts_30_2 l5_30_2.toNatClampNeg (0 : Int64)) (vp_updL a0_greatests_30_2 l5_30_2.toNatClampNeg (0 : Int64)) (vp_updL a0_rests_30_2 l5_30_2.toNatClampNeg y_37) ∧ m_30_2 x5_39 (vp_updL a0_leasts_30_2 l5_30_2.toNatClampNeg (0 : Int64)) (vp_updL a0_greatests_30_2 l5_30_2.toNatClampNeg (0 : Int64)) (vp_updL a0_rests_30_2 l5_30_2.toNatClampNeg y_37) < m_30_2 l5_30_2 a0_leasts_30_2 a0_greatests_30_2 a0_rests_30_2)))))))))))
abbrev rm_X6_sieve : Room := { frames := 3, cells := 0, slots := 0, locals := 74 }
abbrev qc_X6_sieve (dC : Nat → ClassId) (dI : Nat → Nat → Nat) (cI cJ cZ : ClassId) (h_a0 : Nat) (a0_leasts : Nat → Int64) (q_a0_leasts : Nat) (a0_greatests : Nat → Int64) (q_a0_greatests : Nat) (a0_rests : Nat → Int64) (q_a0_rests : Nat) (h_a0_squared : Nat) (a0_squared_words : Nat → Int64) (q_a0_squared_words : Nat) (a0_from : Int64) (a0_many : Int32) (a0_primeCount : Int32) (a0_gap : Int32) (a0_twins : Int32) (a0_squareFree : Int32) (h_a3 : Nat) (a3_table : Nat → Int32) (q_a3_table : Nat) (a3_many : Int32) (Q : Int64 → Int32 → Int32 → Int32 → Int32 → Int32 → (Nat → Int64) → (Nat → Int64) → (Nat → Int64) → (Nat → Int64) → Prop) (A : Nat → Prop) : Array Value → State → Outcome → State → Prop := va_Qv (fun (u : Int64 × Int32 × Int32 × Int32 × Int32 × Int32 × (Nat → Int64) × (Nat → Int64) × (Nat → Int64) × (Nat → Int64)) => Q u.1 u.2.1 u.2.2.1 u.2.2.2.1 u.2.2.2.2.1 u.2.2.2.2.2.1 u.2.2.2.2.2.2.1 u.2.2.2.2.2.2.2.1 u.2.2.2.2.2.2.2.2.1 u.2.2.2.2.2.2.2.2.2) (post_ dC dI A (fun (u : Int64 × Int32 × Int32 × Int32 × Int32 × Int32 × (Nat → Int64) × (Nat → Int64) × (Nat → Int64) × (Nat → Int64)) => [(h_a0, .inr (6, [.ref q_a0_leasts, .ref q_a0_greatests, .ref q_a0_rests, .ref h_a0_squared, .long u.1, .int u.2.1, .int u.2.2.1, .int u.2.2.2.1, .int u.2.2.2.2.1, .int u.2.2.2.2.2.1])), (q_a0_leasts, .inl (cJ, 5000, .inr (.inl (u.2.2.2.2.2.2.1)))), (q_a0_greatests, .inl (cJ, 5000, .inr (.inl (u.2.2.2.2.2.2.2.1)))), (q_a0_rests, .inl (cJ, 5000, .inr (.inl (u.2.2.2.2.2.2.2.2.1)))), (h_a0_squared, .inr (0, [.ref q_a0_squared_words])), (q_a0_squared_words, .inl (cJ, 79, .inr (.inl (u.2.2.2.2.2.2.2.2.2)))), (h_a3, .inr (3, [.ref q_a3_table, .int a3_many])), (q_a3_table, .inl (cI, 9592, .inl a3_table))])) A
set_option maxHeartbeats 4000000 in
set_option maxRecDepth 100000 in
theorem c_X6_sieve (l : Launch) (dC : Nat → ClassId) (dI : Nat → Nat → Nat) (cI cJ cZ : ClassId) (sz : Nat) (h_a0 : Nat) (a0_leasts : Nat → Int64) (q_a0_leasts : Nat) (a0_greatests : Nat → Int64) (q_a0_greatests : Nat) (a0_rests : Nat → Int64) (q_a0_rests : Nat) (h_a0_squared : Nat) (a0_squared_words : Nat → Int64) (q_a0_squared_words : Nat) (a0_from : Int64) (a0_many : Int32) (a0_primeCount : Int32) (a0_gap : Int32) (a0_twins : Int32) (a0_squareFree : Int32) (h_a3 : Nat) (a3_table : Nat → Int32) (q_a3_table : Nat) (a3_many : Int32) (p1 : Int64) (p2 : Int32) (Q : Int64 → Int32 → Int32 → Int32 → Int32 → Int32 → (Nat → Int64) → (Nat → Int64) → (Nat → Int64) → (Nat → Int64) → Prop) (hQ : wp_X6_sieve a0_leasts a0_greatests a0_rests a0_squared_words a0_from a0_many a0_primeCount a0_gap a0_twins a0_squareFree a3_table a3_many p1 p2 Q) : Met l yX6_sieve wsX6_sieve rm_X6_sieve (pre_ dC dI cI cJ cZ [.ref h_a0, .long p1, .int p2, .ref h_a3] [(h_a0, .inr (6, [.ref q_a0_leasts, .ref q_a0_greatests, .ref q_a0_rests, .ref h_a0_squared, .long a0_from, .int a0_many, .int a0_primeCount, .int a0_gap, .int a0_twins, .int a0_squareFree])), (q_a0_leasts, .inl (cJ, 5000, .inr (.inl a0_leasts))), (q_a0_greatests, .inl (cJ, 5000, .inr (.inl a0_greatests))), (q_a0_rests, .inl (cJ, 5000, .inr (.inl a0_rests))), (h_a0_squared, .inr (0, [.ref q_a0_squared_words])), (q_a0_squared_words, .inl (cJ, 79, .inr (.inl a0_squared_words))), (h_a3, .inr (3, [.ref q_a3_table, .int a3_many])), (q_a3_table, .inl (cI, 9592, .inl a3_table))] sz) (qc_X6_sieve dC dI cI cJ cZ h_a0 a0_leasts q_a0_leasts a0_greatests q_a0_greatests a0_rests q_a0_rests h_a0_squared a0_squared_words q_a0_squared_words a0_from a0_many a0_primeCount a0_gap a0_twins a0_squareFree h_a3 a3_table q_a3_table a3_many Q (va_A [(h_a0, .inr (6, [.ref q_a0_leasts, .ref q_a0_greatests, .ref q_a0_rests, .ref h_a0_squared, .long a0_from, .int a0_many, .int a0_primeCount, .int a0_gap, .int a0_twins, .int a0_squareFree])), (q_a0_leasts, .inl (cJ, 5000, .inr (.inl a0_leasts))), (q_a0_greatests, .inl (cJ, 5000, .inr (.inl a0_greatests))), (q_a0_rests, .inl (cJ, 5000, .inr (.inl a0_rests))), (h_a0_squared, .inr (0, [.ref q_a0_squared_words])), (q_a0_squared_words, .inl (cJ, 79, .inr (.inl a0_squared_words))), (h_a3, .inr (3, [.ref q_a3_table, .int a3_many])), (q_a3_table, .inl (cI, 9592, .inl a3_table))] sz)) 0 0 (va_A [(h_a0, .inr (6, [.ref q_a0_leasts, .ref q_a0_greatests, .ref q_a0_rests, .ref h_a0_squared, .long a0_from, .int a0_many, .int a0_primeCount, .int a0_gap, .int a0_twins, .int a0_squareFree])), (q_a0_leasts, .inl (cJ, 5000, .inr (.inl a0_leasts))), (q_a0_greatests, .inl (cJ, 5000, .inr (.inl a0_greatests))), (q_a0_rests, .inl (cJ, 5000, .inr (.inl a0_rests))), (h_a0_squared, .inr (0, [.ref q_a0_squared_words])), (q_a0_squared_words, .inl (cJ, 79, .inr (.inl a0_squared_words))), (h_a3, .inr (3, [.ref q_a3_table, .int a3_many])), (q_a3_table, .inl (cI, 9592, .inl a3_table))] sz) := by
  refine Met.ofW (cc := cX6_sieve) (maxL := 10) (ret := none) (by decide) rfl ?_
  intro p e s m args below meth c s₁ B hml hv
  obtain ⟨rfl, hsz, hP, hK, hN, hD0⟩ := hv
  have hx := B.exec
  have hb := B.bytes
  have hr := B.returns
  have hts := atoms_spec (ws := wsX6_sieve) B.pre
  have hown : s.vm.findClass RX6 = some m.cls := findClass_of_methodNamed B.named
  subst hsz
  have hD := hD0.self (sz := s.heap.size)
  generalize hAe : va_A [(h_a0, .inr (6, [.ref q_a0_leasts, .ref q_a0_greatests, .ref q_a0_rests, .ref h_a0_squared, .long a0_from, .int a0_many, .int a0_primeCount, .int a0_gap, .int a0_twins, .int a0_squareFree])), (q_a0_leasts, .inl (cJ, 5000, .inr (.inl a0_leasts))), (q_a0_greatests, .inl (cJ, 5000, .inr (.inl a0_greatests))), (q_a0_rests, .inl (cJ, 5000, .inr (.inl a0_rests))), (h_a0_squared, .inr (0, [.ref q_a0_squared_words])), (q_a0_squared_words, .inl (cJ, 79, .inr (.inl a0_squared_words))), (h_a3, .inr (3, [.ref q_a3_table, .int a3_many])), (q_a3_table, .inl (cI, 9592, .inl a3_table))] s.heap.size = A at hD ⊢
  have hA : ∀ q : Nat, s.heap.size ≤ q → A q := fun q h => by rw [← hAe]; exact Or.inr h
  have hS : va_S A s.heap s.heap [] := va_S.rf
  have hl := lv_entry ([.ref h_a0, .long p1, .int p2, .ref h_a3]) (n := 10) (Nat.le_of_ble_eq_true rfl)
  rw [lg_entry_eq]
  generalize (lg_sl ([.ref h_a0, .long p1, .int p2, .ref h_a3]) ++ List.replicate (10 - (lg_sl ([.ref h_a0, .long p1, .int p2, .ref h_a3])).length) Slot.unset).toArray = ls at hl ⊢
  have hl : lv_has ls 10 [(0, .ref h_a0), (1, .long p1), (3, .int p2), (4, .ref h_a3)] := hl
  have h := hQ
  unfold wp_X6_sieve at h
  have hw_0 := hts (.fieldLink RX6 30 "NumberSieves$Span" "from" "J") (by decide +kernel)
  have hin_X6 : ∀ w ∈ wsX60, w ∈ wsX6_sieve := by decide +kernel
  have hw_2 := hts (.methodLink RX6 38 Lib.Math.min.name) (by decide +kernel)
  have hw_3 := hts (.static Lib.Math.min.name) (by decide +kernel)
  have hw_4 := hts (.initialized "java/lang/Math") (by decide +kernel)
  have hw_5 := hts (.code Lib.Math.min.name Lib.Math.min.code 2 (some .int)) (by decide +kernel)
  have hw_6 := hts (.methodLink RX6 44 Lib.Math.max.name) (by decide +kernel)
  have hw_7 := hts (.static Lib.Math.max.name) (by decide +kernel)
  have hw_8 := hts (.code Lib.Math.max.name Lib.Math.max.code 2 (some .int)) (by decide +kernel)
  have hw_9 := hts (.fieldLink RX6 34 "NumberSieves$Span" "many" "I") (by decide +kernel)
  have hw_10 := hts (.fieldLink RX6 26 "NumberSieves$Span" "squared" "LNumberSieves$Marks;") (by decide +kernel)
  have hin_X3 : ∀ w ∈ wsX30, w ∈ wsX6_sieve := by decide +kernel
  have hw_12 := hts (.constantLong RX6 57 (2)) (by decide +kernel)
  have hw_13 := hts (.fieldLink RX6 9 "NumberSieves$Span" "leasts" "[J") (by decide +kernel)
  have hw_14 := hts (.fieldLink RX6 15 "NumberSieves$Span" "greatests" "[J") (by decide +kernel)
  have hw_15 := hts (.fieldLink RX6 18 "NumberSieves$Span" "rests" "[J") (by decide +kernel)
  refine lv_aload_n hx hb dX6_sieve_0 rfl (lv_at hl 0 rfl) ?_
  refine lv_lload_n hx hb dX6_sieve_1 rfl (lv_at hl 1 rfl) ?_
  refine va_put (D := (dC, dI)) (ci := 6) (v := .long p1) (ty := .long) (C := RX6) (T := TX6) (N := 10) hx hb hts hin_X6 tyX6 tyX6_ok nmX6 hown hK hP hD hS 0 rfl rfl 4 (by decide) hw_0 (fun _ h9 => h9) rfl (by decide +kernel) rfl rfl (Nat.le_of_ble_eq_true rfl) dX6_sieve_2 (fun H locs hP hD hS => ?_)
  have hP : va_P (dC, dI) vwCl [(h_a0, .inr (6, [.ref q_a0_leasts, .ref q_a0_greatests, .ref q_a0_rests, .ref h_a0_squared, .long p1, .int a0_many, .int a0_primeCount, .int a0_gap, .int a0_twins, .int a0_squareFree])), (q_a0_leasts, .inl (cJ, 5000, .inr (.inl a0_leasts))), (q_a0_greatests, .inl (cJ, 5000, .inr (.inl a0_greatests))), (q_a0_rests, .inl (cJ, 5000, .inr (.inl a0_rests))), (h_a0_squared, .inr (0, [.ref q_a0_squared_words])), (q_a0_squared_words, .inl (cJ, 79, .inr (.inl a0_squared_words))), (h_a3, .inr (3, [.ref q_a3_table, .int a3_many])), (q_a3_table, .inl (cI, 9592, .inl a3_table))] H := hP
  have hD : va_D A [(h_a0, .inr (6, [.ref q_a0_leasts, .ref q_a0_greatests, .ref q_a0_rests, .ref h_a0_squared, .long p1, .int a0_many, .int a0_primeCount, .int a0_gap, .int a0_twins, .int a0_squareFree])), (q_a0_leasts, .inl (cJ, 5000, .inr (.inl a0_leasts))), (q_a0_greatests, .inl (cJ, 5000, .inr (.inl a0_greatests))), (q_a0_rests, .inl (cJ, 5000, .inr (.inl a0_rests))), (h_a0_squared, .inr (0, [.ref q_a0_squared_words])), (q_a0_squared_words, .inl (cJ, 79, .inr (.inl a0_squared_words))), (h_a3, .inr (3, [.ref q_a3_table, .int a3_many])), (q_a3_table, .inl (cI, 9592, .inl a3_table))] := hD
  refine lv_aload_n hx hb dX6_sieve_5 rfl (lv_at hl 0 rfl) ?_
  refine lv_iconst (v := (0 : Int32)) hx hb dX6_sieve_6 (by decide) ?_
  refine lv_iload_n hx hb dX6_sieve_7 rfl (lv_at hl 2 rfl) ?_
  refine lv_sipush (v := (5000 : Int32)) hx hb dX6_sieve_8 (by decide) ?_
  refine va_mmin hx hb (by rw [hml]; exact hl.1.symm) hown hw_2 hw_3 hw_4 hw_5 (Nat.le_of_ble_eq_true rfl) (Nat.le_of_ble_eq_true rfl) (Nat.le_of_ble_eq_true rfl) (Nat.le_of_ble_eq_true rfl) dX6_sieve_11 ?_
  refine va_mmax hx hb (by rw [hml]; exact hl.1.symm) hown hw_6 hw_7 hw_4 hw_8 (Nat.le_of_ble_eq_true rfl) (Nat.le_of_ble_eq_true rfl) (Nat.le_of_ble_eq_true rfl) (Nat.le_of_ble_eq_true rfl) dX6_sieve_14 ?_
  refine lv_topi (fun y_1 e_y_1 => ?_)
  replace h := h y_1 e_y_1
  refine va_put (D := (dC, dI)) (ci := 6) (v := .int y_1) (ty := .int) (C := RX6) (T := TX6) (N := 10) hx hb hts hin_X6 tyX6 tyX6_ok nmX6 hown hK hP hD hS 0 rfl rfl 5 (by decide) hw_9 (fun _ h9 => h9) rfl (by decide +kernel) rfl rfl (Nat.le_of_ble_eq_true rfl) dX6_sieve_17 (fun H locs hP hD hS => ?_)
  have hP : va_P (dC, dI) vwCl [(h_a0, .inr (6, [.ref q_a0_leasts, .ref q_a0_greatests, .ref q_a0_rests, .ref h_a0_squared, .long p1, .int y_1, .int a0_primeCount, .int a0_gap, .int a0_twins, .int a0_squareFree])), (q_a0_leasts, .inl (cJ, 5000, .inr (.inl a0_leasts))), (q_a0_greatests, .inl (cJ, 5000, .inr (.inl a0_greatests))), (q_a0_rests, .inl (cJ, 5000, .inr (.inl a0_rests))), (h_a0_squared, .inr (0, [.ref q_a0_squared_words])), (q_a0_squared_words, .inl (cJ, 79, .inr (.inl a0_squared_words))), (h_a3, .inr (3, [.ref q_a3_table, .int a3_many])), (q_a3_table, .inl (cI, 9592, .inl a3_table))] H := hP
  have hD : va_D A [(h_a0, .inr (6, [.ref q_a0_leasts, .ref q_a0_greatests, .ref q_a0_rests, .ref h_a0_squared, .long p1, .int y_1, .int a0_primeCount, .int a0_gap, .int a0_twins, .int a0_squareFree])), (q_a0_leasts, .inl (cJ, 5000, .inr (.inl a0_leasts))), (q_a0_greatests, .inl (cJ, 5000, .inr (.inl a0_greatests))), (q_a0_rests, .inl (cJ, 5000, .inr (.inl a0_rests))), (h_a0_squared, .inr (0, [.ref q_a0_squared_words])), (q_a0_squared_words, .inl (cJ, 79, .inr (.inl a0_squared_words))), (h_a3, .inr (3, [.ref q_a3_table, .int a3_many])), (q_a3_table, .inl (cI, 9592, .inl a3_table))] := hD
  refine lv_aload_n hx hb dX6_sieve_20 rfl (lv_at hl 0 rfl) ?_
  refine va_get (D := (dC, dI)) (ci := 6) (v := .ref h_a0_squared) (C := RX6) (T := TX6) (N := 10) hx hb hts hin_X6 hown hK hP 0 rfl rfl 3 (by decide) hw_10 (fun _ h9 => h9) rfl dX6_sieve_21 ?_
  have hPc := hP.sub (ws' := [(h_a0_squared, .inr (0, [.ref q_a0_squared_words])), (q_a0_squared_words, .inl (cJ, 79, .inr (.inl a0_squared_words)))]) [4, 5] rfl
  have hDc := hD.sub (ws' := [(h_a0_squared, .inr (0, [.ref q_a0_squared_words])), (q_a0_squared_words, .inl (cJ, 79, .inr (.inl a0_squared_words)))]) [4, 5] (by decide) rfl
  have hFc := va_free (wc := [(h_a0_squared, .inr (0, [.ref q_a0_squared_words])), (q_a0_squared_words, .inl (cJ, 79, .inr (.inl a0_squared_words)))]) hD hS hA [4, 5] rfl
  refine va_callv (va_runV (As := []) (rest := []) ⟨hx, hb, hml, hown, hts⟩ (c_X0_wipe l dC dI cI cJ cZ _ h_a0_squared 79 a0_squared_words q_a0_squared_words _ h) (cwV 0 hts gX6_sieve_X0_wipe rfl rfl rfl (by decide +kernel) ⟨Nat.le_of_ble_eq_true rfl, Nat.le_of_ble_eq_true rfl⟩) ⟨pre_fb, va_recv hK hPc (ci := 0) (q0 := 0) rfl rfl, pre_of hPc hDc hK hN⟩ rfl rfl hl.1 rfl (lv_room (Nat.le_of_ble_eq_true rfl)) dX6_sieve_24 ⟨by first | exact Nat.le_of_ble_eq_true rfl | exact Nat.le_refl _, by first | exact Nat.le_of_ble_eq_true rfl | exact Nat.le_refl _⟩) hS (fun q _ h => hFc q h) hFc (fun u t H1 locs ht hvm h hB hz1 hk1 hS => ?_)
  obtain ⟨o_2, rfl⟩ : ∃ z, z = u := ⟨_, rfl⟩
  obtain ⟨hP1, hD1⟩ := hB
  rw [ht] at hP1
  try dsimp only at h
  obtain ⟨hP, hD⟩ := va_join (wr := [(h_a0, .inr (6, [.ref q_a0_leasts, .ref q_a0_greatests, .ref q_a0_rests, .ref h_a0_squared, .long p1, .int y_1, .int a0_primeCount, .int a0_gap, .int a0_twins, .int a0_squareFree])), (q_a0_leasts, .inl (cJ, 5000, .inr (.inl a0_leasts))), (q_a0_greatests, .inl (cJ, 5000, .inr (.inl a0_greatests))), (q_a0_rests, .inl (cJ, 5000, .inr (.inl a0_rests))), (h_a3, .inr (3, [.ref q_a3_table, .int a3_many])), (q_a3_table, .inl (cI, 9592, .inl a3_table))]) (w1 := [(h_a0_squared, .inr (0, [.ref q_a0_squared_words])), (q_a0_squared_words, .inl (cJ, 79, .inr (.inl o_2)))]) hP hD [4, 5] [0, 1, 2, 3, 6, 7] rfl rfl (by decide) (by decide) hk1 hFc hP1 hD1
  generalize H1 = H at hP hS ⊢
  have hP : va_P (dC, dI) vwCl [(h_a0, .inr (6, [.ref q_a0_leasts, .ref q_a0_greatests, .ref q_a0_rests, .ref h_a0_squared, .long p1, .int y_1, .int a0_primeCount, .int a0_gap, .int a0_twins, .int a0_squareFree])), (q_a0_leasts, .inl (cJ, 5000, .inr (.inl a0_leasts))), (q_a0_greatests, .inl (cJ, 5000, .inr (.inl a0_greatests))), (q_a0_rests, .inl (cJ, 5000, .inr (.inl a0_rests))), (h_a3, .inr (3, [.ref q_a3_table, .int a3_many])), (q_a3_table, .inl (cI, 9592, .inl a3_table)), (h_a0_squared, .inr (0, [.ref q_a0_squared_words])), (q_a0_squared_words, .inl (cJ, 79, .inr (.inl o_2)))] H := hP
  have hD : va_D A [(h_a0, .inr (6, [.ref q_a0_leasts, .ref q_a0_greatests, .ref q_a0_rests, .ref h_a0_squared, .long p1, .int y_1, .int a0_primeCount, .int a0_gap, .int a0_twins, .int a0_squareFree])), (q_a0_leasts, .inl (cJ, 5000, .inr (.inl a0_leasts))), (q_a0_greatests, .inl (cJ, 5000, .inr (.inl a0_greatests))), (q_a0_rests, .inl (cJ, 5000, .inr (.inl a0_rests))), (h_a3, .inr (3, [.ref q_a3_table, .int a3_many])), (q_a3_table, .inl (cI, 9592, .inl a3_table)), (h_a0_squared, .inr (0, [.ref q_a0_squared_words])), (q_a0_squared_words, .inl (cJ, 79, .inr (.inl o_2)))] := hD
  refine lv_iconst (v := (0 : Int32)) hx hb dX6_sieve_27 (by decide) ?_
  refine lv_istore (lv' := [(5, .int (0 : Int32)), (0, .ref h_a0), (1, .long p1), (3, .int p2), (4, .ref h_a3)]) hx hb dX6_sieve_28 hl (by decide) rfl (fun ls hl => ?_)
  obtain ⟨I_30_2, m_30_2, h0_30_2, hs_30_2⟩ := h
  have key_30_2 : ∀ (n : Nat) (l5_30_2 : Int32) (a0_leasts_30_2 : Nat → Int64) (a0_greatests_30_2 : Nat → Int64) (a0_rests_30_2 : Nat → Int64), m_30_2 l5_30_2 a0_leasts_30_2 a0_greatests_30_2 a0_rests_30_2 < n → I_30_2 l5_30_2 a0_leasts_30_2 a0_greatests_30_2 a0_rests_30_2 → ∀ (ls : Array Slot) (H : Heap) (locs : List Loc), lv_has ls 10 [(5, .int l5_30_2), (0, .ref h_a0), (4, .ref h_a3)] → va_P (dC, dI) vwCl [(h_a0, .inr (6, [.ref q_a0_leasts, .ref q_a0_greatests, .ref q_a0_rests, .ref h_a0_squared, .long p1, .int y_1, .int a0_primeCount, .int a0_gap, .int a0_twins, .int a0_squareFree])), (q_a0_leasts, .inl (cJ, 5000, .inr (.inl a0_leasts_30_2))), (q_a0_greatests, .inl (cJ, 5000, .inr (.inl a0_greatests_30_2))), (q_a0_rests, .inl (cJ, 5000, .inr (.inl a0_rests_30_2))), (h_a3, .inr (3, [.ref q_a3_table, .int a3_many])), (q_a3_table, .inl (cI, 9592, .inl a3_table)), (h_a0_squared, .inr (0, [.ref q_a0_squared_words])), (q_a0_squared_words, .inl (cJ, 79, .inr (.inl o_2)))] H → va_D A [(h_a0, .inr (6, [.ref q_a0_leasts, .ref q_a0_greatests, .ref q_a0_rests, .ref h_a0_squared, .long p1, .int y_1, .int a0_primeCount, .int a0_gap, .int a0_twins, .int a0_squareFree])), (q_a0_leasts, .inl (cJ, 5000, .inr (.inl a0_leasts_30_2))), (q_a0_greatests, .inl (cJ, 5000, .inr (.inl a0_greatests_30_2))), (q_a0_rests, .inl (cJ, 5000, .inr (.inl a0_rests_30_2))), (h_a3, .inr (3, [.ref q_a3_table, .int a3_many])), (q_a3_table, .inl (cI, 9592, .inl a3_table)), (h_a0_squared, .inr (0, [.ref q_a0_squared_words])), (q_a0_squared_words, .inl (cJ, 79, .inr (.inl o_2)))] → va_S A s.heap H locs → W p l e (headSpec wsX6_sieve rm_X6_sieve).room s m ([.ref h_a0, .long p1, .int p2, .ref h_a3] : List Value).toArray below meth c H locs 0 0 (MQ below (qc_X6_sieve dC dI cI cJ cZ h_a0 a0_leasts q_a0_leasts a0_greatests q_a0_greatests a0_rests q_a0_rests h_a0_squared a0_squared_words q_a0_squared_words a0_from a0_many a0_primeCount a0_gap a0_twins a0_squareFree h_a3 a3_table q_a3_table a3_many Q A) ([.ref h_a0, .long p1, .int p2, .ref h_a3] : List Value).toArray s 0 0 A) (F0 m 30 ls []) := by
    intro n
    induction n with
    | zero =>
      intro l5_30_2 a0_leasts_30_2 a0_greatests_30_2 a0_rests_30_2 hm
      exact absurd hm (Nat.not_lt_zero _)
    | succ n ih_30_2 =>
      intro l5_30_2 a0_leasts_30_2 a0_greatests_30_2 a0_rests_30_2 hm_30_2 hI ls H locs hl hP hD hS
      have h := hs_30_2 l5_30_2 a0_leasts_30_2 a0_greatests_30_2 a0_rests_30_2 hI
      refine lv_iload hx hb dX6_sieve_30 (lv_at hl 0 rfl) ?_
      refine lv_aload_n hx hb dX6_sieve_32 rfl (lv_at hl 1 rfl) ?_
      refine va_get (D := (dC, dI)) (ci := 6) (v := .int y_1) (C := RX6) (T := TX6) (N := 10) hx hb hts hin_X6 hown hK hP 0 rfl rfl 5 (by decide) hw_9 (fun _ h9 => h9) rfl dX6_sieve_33 ?_
      refine lv_icmp_ge (tgt := 76) hx hb dX6_sieve_36 (by decide) (fun c_4 => ?_) (fun c_4 => ?_)
      · replace h := h.1 c_4
        refine lv_aload_n hx hb dX6_sieve_76 rfl (lv_at hl 1 rfl) ?_
        refine va_get (D := (dC, dI)) (ci := 6) (v := .long p1) (C := RX6) (T := TX6) (N := 10) hx hb hts hin_X6 hown hK hP 0 rfl rfl 4 (by decide) hw_0 (fun _ h9 => h9) rfl dX6_sieve_77 ?_
        refine lv_aload_n hx hb dX6_sieve_80 rfl (lv_at hl 1 rfl) ?_
        refine va_get (D := (dC, dI)) (ci := 6) (v := .int y_1) (C := RX6) (T := TX6) (N := 10) hx hb hts hin_X6 hown hK hP 0 rfl rfl 5 (by decide) hw_9 (fun _ h9 => h9) rfl dX6_sieve_81 ?_
        refine lv_i2l hx hb dX6_sieve_84 rfl ?_
        refine lv_ladd hx hb dX6_sieve_85 ?_
        refine lv_lconst (v := (1 : Int64)) hx hb dX6_sieve_86 (by decide) ?_
        refine lv_lsub hx hb dX6_sieve_87 ?_
        refine lv_topl (fun x5_5 e_x5_5 => ?_)
        replace h := h x5_5 e_x5_5
        refine lv_lstore (lv' := [(5, .long x5_5), (0, .ref h_a0), (4, .ref h_a3)]) hx hb dX6_sieve_88 hl (by decide) rfl (fun ls hl => ?_)
        refine lv_iconst (v := (0 : Int32)) hx hb dX6_sieve_90 (by decide) ?_
        refine lv_istore (lv' := [(7, .int (0 : Int32)), (5, .long x5_5), (0, .ref h_a0), (4, .ref h_a3)]) hx hb dX6_sieve_91 hl (by decide) rfl (fun ls hl => ?_)
        obtain ⟨I_93_5, m_93_5, h0_93_5, hs_93_5⟩ := h
        have key_93_5 : ∀ (n : Nat) (l7_93_5 : Int32) (a0_leasts_93_5 : Nat → Int64) (a0_greatests_93_5 : Nat → Int64) (a0_rests_93_5 : Nat → Int64) (a0_squared_words_93_5 : Nat → Int64), m_93_5 l7_93_5 a0_leasts_93_5 a0_greatests_93_5 a0_rests_93_5 a0_squared_words_93_5 < n → I_93_5 l7_93_5 a0_leasts_93_5 a0_greatests_93_5 a0_rests_93_5 a0_squared_words_93_5 → ∀ (ls : Array Slot) (H : Heap) (locs : List Loc), lv_has ls 10 [(7, .int l7_93_5), (5, .long x5_5), (0, .ref h_a0), (4, .ref h_a3)] → va_P (dC, dI) vwCl [(h_a0, .inr (6, [.ref q_a0_leasts, .ref q_a0_greatests, .ref q_a0_rests, .ref h_a0_squared, .long p1, .int y_1, .int a0_primeCount, .int a0_gap, .int a0_twins, .int a0_squareFree])), (q_a0_leasts, .inl (cJ, 5000, .inr (.inl a0_leasts_93_5))), (q_a0_greatests, .inl (cJ, 5000, .inr (.inl a0_greatests_93_5))), (q_a0_rests, .inl (cJ, 5000, .inr (.inl a0_rests_93_5))), (h_a3, .inr (3, [.ref q_a3_table, .int a3_many])), (q_a3_table, .inl (cI, 9592, .inl a3_table)), (h_a0_squared, .inr (0, [.ref q_a0_squared_words])), (q_a0_squared_words, .inl (cJ, 79, .inr (.inl a0_squared_words_93_5)))] H → va_D A [(h_a0, .inr (6, [.ref q_a0_leasts, .ref q_a0_greatests, .ref q_a0_rests, .ref h_a0_squared, .long p1, .int y_1, .int a0_primeCount, .int a0_gap, .int a0_twins, .int a0_squareFree])), (q_a0_leasts, .inl (cJ, 5000, .inr (.inl a0_leasts_93_5))), (q_a0_greatests, .inl (cJ, 5000, .inr (.inl a0_greatests_93_5))), (q_a0_rests, .inl (cJ, 5000, .inr (.inl a0_rests_93_5))), (h_a3, .inr (3, [.ref q_a3_table, .int a3_many])), (q_a3_table, .inl (cI, 9592, .inl a3_table)), (h_a0_squared, .inr (0, [.ref q_a0_squared_words])), (q_a0_squared_words, .inl (cJ, 79, .inr (.inl a0_squared_words_93_5)))] → va_S A s.heap H locs → W p l e (headSpec wsX6_sieve rm_X6_sieve).room s m ([.ref h_a0, .long p1, .int p2, .ref h_a3] : List Value).toArray below meth c H locs 0 0 (MQ below (qc_X6_sieve dC dI cI cJ cZ h_a0 a0_leasts q_a0_leasts a0_greatests q_a0_greatests a0_rests q_a0_rests h_a0_squared a0_squared_words q_a0_squared_words a0_from a0_many a0_primeCount a0_gap a0_twins a0_squareFree h_a3 a3_table q_a3_table a3_many Q A) ([.ref h_a0, .long p1, .int p2, .ref h_a3] : List Value).toArray s 0 0 A) (F0 m 93 ls []) := by
          intro n
          induction n with
          | zero =>
            intro l7_93_5 a0_leasts_93_5 a0_greatests_93_5 a0_rests_93_5 a0_squared_words_93_5 hm
            exact absurd hm (Nat.not_lt_zero _)
          | succ n ih_93_5 =>
            intro l7_93_5 a0_leasts_93_5 a0_greatests_93_5 a0_rests_93_5 a0_squared_words_93_5 hm_93_5 hI ls H locs hl hP hD hS
            have h := hs_93_5 l7_93_5 a0_leasts_93_5 a0_greatests_93_5 a0_rests_93_5 a0_squared_words_93_5 hI
            refine lv_iload hx hb dX6_sieve_93 (lv_at hl 0 rfl) ?_
            refine lv_aload hx hb dX6_sieve_95 (lv_at hl 3 rfl) ?_
            refine va_getN (D := (dC, dI)) (ci := 3) (v := .int a3_many) (C := RX3) (T := TX3) (N := 2) hx hb hts hin_X3 hown hK hP 4 rfl rfl 1 (by decide) (nw_7 hN) (fun _ h9 => h9) rfl dX6_sieve_97 ?_
            refine lv_icmp_ge (tgt := 148) hx hb dX6_sieve_100 (by decide) (fun c_7 => ?_) (fun c_7 => ?_)
            · replace h := h.1 c_7
              refine lv_aload_n hx hb dX6_sieve_148 rfl (lv_at hl 2 rfl) ?_
              have hPc := hP.sub (ws' := [(h_a0, .inr (6, [.ref q_a0_leasts, .ref q_a0_greatests, .ref q_a0_rests, .ref h_a0_squared, .long p1, .int y_1, .int a0_primeCount, .int a0_gap, .int a0_twins, .int a0_squareFree])), (q_a0_leasts, .inl (cJ, 5000, .inr (.inl a0_leasts_93_5))), (q_a0_greatests, .inl (cJ, 5000, .inr (.inl a0_greatests_93_5))), (q_a0_rests, .inl (cJ, 5000, .inr (.inl a0_rests_93_5)))]) [0, 1, 2, 3] rfl
              have hDc := hD.sub (ws' := [(h_a0, .inr (6, [.ref q_a0_leasts, .ref q_a0_greatests, .ref q_a0_rests, .ref h_a0_squared, .long p1, .int y_1, .int a0_primeCount, .int a0_gap, .int a0_twins, .int a0_squareFree])), (q_a0_leasts, .inl (cJ, 5000, .inr (.inl a0_leasts_93_5))), (q_a0_greatests, .inl (cJ, 5000, .inr (.inl a0_greatests_93_5))), (q_a0_rests, .inl (cJ, 5000, .inr (.inl a0_rests_93_5)))]) [0, 1, 2, 3] (by decide) rfl
              have hFc := va_free (wc := [(h_a0, .inr (6, [.ref q_a0_leasts, .ref q_a0_greatests, .ref q_a0_rests, .ref h_a0_squared, .long p1, .int y_1, .int a0_primeCount, .int a0_gap, .int a0_twins, .int a0_squareFree])), (q_a0_leasts, .inl (cJ, 5000, .inr (.inl a0_leasts_93_5))), (q_a0_greatests, .inl (cJ, 5000, .inr (.inl a0_greatests_93_5))), (q_a0_rests, .inl (cJ, 5000, .inr (.inl a0_rests_93_5)))]) hD hS hA [0, 1, 2, 3] rfl
              refine va_callv (va_runV (As := []) (rest := []) ⟨hx, hb, hml, hown, hts⟩ (c_X6_takeRests l dC dI cI cJ cZ _ h_a0 a0_leasts_93_5 q_a0_leasts a0_greatests_93_5 q_a0_greatests a0_rests_93_5 q_a0_rests (.ref h_a0_squared) p1 y_1 a0_primeCount a0_gap a0_twins a0_squareFree _ h) (cwV 0 hts gX6_sieve_X6_takeRests rfl rfl rfl (by decide +kernel) ⟨Nat.le_of_ble_eq_true rfl, Nat.le_of_ble_eq_true rfl⟩) ⟨pre_fb, va_recv hK hPc (ci := 6) (q0 := 0) rfl rfl, pre_of hPc hDc hK hN⟩ rfl rfl hl.1 rfl (lv_room (Nat.le_of_ble_eq_true rfl)) dX6_sieve_149 ⟨by first | exact Nat.le_of_ble_eq_true rfl | exact Nat.le_refl _, by first | exact Nat.le_of_ble_eq_true rfl | exact Nat.le_refl _⟩) hS (fun q _ h => hFc q h) hFc (fun u t H1 locs ht hvm h hB hz1 hk1 hS => ?_)
              obtain ⟨o_8, o_9⟩ := u
              obtain ⟨hP1, hD1⟩ := hB
              rw [ht] at hP1
              try dsimp only at h
              obtain ⟨hP, hD⟩ := va_join (wr := [(h_a3, .inr (3, [.ref q_a3_table, .int a3_many])), (q_a3_table, .inl (cI, 9592, .inl a3_table)), (h_a0_squared, .inr (0, [.ref q_a0_squared_words])), (q_a0_squared_words, .inl (cJ, 79, .inr (.inl a0_squared_words_93_5)))]) (w1 := [(h_a0, .inr (6, [.ref q_a0_leasts, .ref q_a0_greatests, .ref q_a0_rests, .ref h_a0_squared, .long p1, .int y_1, .int a0_primeCount, .int a0_gap, .int a0_twins, .int a0_squareFree])), (q_a0_leasts, .inl (cJ, 5000, .inr (.inl o_8))), (q_a0_greatests, .inl (cJ, 5000, .inr (.inl o_9))), (q_a0_rests, .inl (cJ, 5000, .inr (.inl a0_rests_93_5)))]) hP hD [0, 1, 2, 3] [4, 5, 6, 7] rfl rfl (by decide) (by decide) hk1 hFc hP1 hD1
              generalize H1 = H at hP hS ⊢
              have hP : va_P (dC, dI) vwCl [(h_a3, .inr (3, [.ref q_a3_table, .int a3_many])), (q_a3_table, .inl (cI, 9592, .inl a3_table)), (h_a0_squared, .inr (0, [.ref q_a0_squared_words])), (q_a0_squared_words, .inl (cJ, 79, .inr (.inl a0_squared_words_93_5))), (h_a0, .inr (6, [.ref q_a0_leasts, .ref q_a0_greatests, .ref q_a0_rests, .ref h_a0_squared, .long p1, .int y_1, .int a0_primeCount, .int a0_gap, .int a0_twins, .int a0_squareFree])), (q_a0_leasts, .inl (cJ, 5000, .inr (.inl o_8))), (q_a0_greatests, .inl (cJ, 5000, .inr (.inl o_9))), (q_a0_rests, .inl (cJ, 5000, .inr (.inl a0_rests_93_5)))] H := hP
              have hD : va_D A [(h_a3, .inr (3, [.ref q_a3_table, .int a3_many])), (q_a3_table, .inl (cI, 9592, .inl a3_table)), (h_a0_squared, .inr (0, [.ref q_a0_squared_words])), (q_a0_squared_words, .inl (cJ, 79, .inr (.inl a0_squared_words_93_5))), (h_a0, .inr (6, [.ref q_a0_leasts, .ref q_a0_greatests, .ref q_a0_rests, .ref h_a0_squared, .long p1, .int y_1, .int a0_primeCount, .int a0_gap, .int a0_twins, .int a0_squareFree])), (q_a0_leasts, .inl (cJ, 5000, .inr (.inl o_8))), (q_a0_greatests, .inl (cJ, 5000, .inr (.inl o_9))), (q_a0_rests, .inl (cJ, 5000, .inr (.inl a0_rests_93_5)))] := hD
              refine lv_aload_n hx hb dX6_sieve_152 rfl (lv_at hl 2 rfl) ?_
              have hPc := hP.sub (ws' := [(h_a0, .inr (6, [.ref q_a0_leasts, .ref q_a0_greatests, .ref q_a0_rests, .ref h_a0_squared, .long p1, .int y_1, .int a0_primeCount, .int a0_gap, .int a0_twins, .int a0_squareFree])), (q_a0_leasts, .inl (cJ, 5000, .inr (.inl o_8))), (h_a0_squared, .inr (0, [.ref q_a0_squared_words])), (q_a0_squared_words, .inl (cJ, 79, .inr (.inl a0_squared_words_93_5)))]) [4, 5, 2, 3] rfl
              have hDc := hD.sub (ws' := [(h_a0, .inr (6, [.ref q_a0_leasts, .ref q_a0_greatests, .ref q_a0_rests, .ref h_a0_squared, .long p1, .int y_1, .int a0_primeCount, .int a0_gap, .int a0_twins, .int a0_squareFree])), (q_a0_leasts, .inl (cJ, 5000, .inr (.inl o_8))), (h_a0_squared, .inr (0, [.ref q_a0_squared_words])), (q_a0_squared_words, .inl (cJ, 79, .inr (.inl a0_squared_words_93_5)))]) [4, 5, 2, 3] (by decide) rfl
              have hFc := va_free (wc := [(h_a0, .inr (6, [.ref q_a0_leasts, .ref q_a0_greatests, .ref q_a0_rests, .ref h_a0_squared, .long p1, .int y_1, .int a0_primeCount, .int a0_gap, .int a0_twins, .int a0_squareFree])), (q_a0_leasts, .inl (cJ, 5000, .inr (.inl o_8))), (h_a0_squared, .inr (0, [.ref q_a0_squared_words])), (q_a0_squared_words, .inl (cJ, 79, .inr (.inl a0_squared_words_93_5)))]) hD hS hA [4, 5, 2, 3] rfl
              refine va_callv (va_runV (As := []) (rest := []) ⟨hx, hb, hml, hown, hts⟩ (c_X6_measure l dC dI cI cJ cZ _ h_a0 o_8 q_a0_leasts (.ref q_a0_greatests) (.ref q_a0_rests) h_a0_squared a0_squared_words_93_5 q_a0_squared_words p1 y_1 a0_primeCount a0_gap a0_twins a0_squareFree _ h) (cwV 0 hts gX6_sieve_X6_measure rfl rfl rfl (by decide +kernel) ⟨Nat.le_of_ble_eq_true rfl, Nat.le_of_ble_eq_true rfl⟩) ⟨pre_fb, va_recv hK hPc (ci := 6) (q0 := 0) rfl rfl, pre_of hPc hDc hK hN⟩ rfl rfl hl.1 rfl (lv_room (Nat.le_of_ble_eq_true rfl)) dX6_sieve_153 ⟨by first | exact Nat.le_of_ble_eq_true rfl | exact Nat.le_refl _, by first | exact Nat.le_of_ble_eq_true rfl | exact Nat.le_refl _⟩) hS (fun q _ h => hFc q h) hFc (fun u t H1 locs ht hvm h hB hz1 hk1 hS => ?_)
              obtain ⟨o_10, o_11, o_12, o_13⟩ := u
              obtain ⟨hP1, hD1⟩ := hB
              rw [ht] at hP1
              try dsimp only at h
              obtain ⟨hP, hD⟩ := va_join (wr := [(h_a3, .inr (3, [.ref q_a3_table, .int a3_many])), (q_a3_table, .inl (cI, 9592, .inl a3_table)), (q_a0_greatests, .inl (cJ, 5000, .inr (.inl o_9))), (q_a0_rests, .inl (cJ, 5000, .inr (.inl a0_rests_93_5)))]) (w1 := [(h_a0, .inr (6, [.ref q_a0_leasts, .ref q_a0_greatests, .ref q_a0_rests, .ref h_a0_squared, .long p1, .int y_1, .int o_10, .int o_11, .int o_12, .int o_13])), (q_a0_leasts, .inl (cJ, 5000, .inr (.inl o_8))), (h_a0_squared, .inr (0, [.ref q_a0_squared_words])), (q_a0_squared_words, .inl (cJ, 79, .inr (.inl a0_squared_words_93_5)))]) hP hD [4, 5, 2, 3] [0, 1, 6, 7] rfl rfl (by decide) (by decide) hk1 hFc hP1 hD1
              generalize H1 = H at hP hS ⊢
              have hP : va_P (dC, dI) vwCl [(h_a3, .inr (3, [.ref q_a3_table, .int a3_many])), (q_a3_table, .inl (cI, 9592, .inl a3_table)), (q_a0_greatests, .inl (cJ, 5000, .inr (.inl o_9))), (q_a0_rests, .inl (cJ, 5000, .inr (.inl a0_rests_93_5))), (h_a0, .inr (6, [.ref q_a0_leasts, .ref q_a0_greatests, .ref q_a0_rests, .ref h_a0_squared, .long p1, .int y_1, .int o_10, .int o_11, .int o_12, .int o_13])), (q_a0_leasts, .inl (cJ, 5000, .inr (.inl o_8))), (h_a0_squared, .inr (0, [.ref q_a0_squared_words])), (q_a0_squared_words, .inl (cJ, 79, .inr (.inl a0_squared_words_93_5)))] H := hP
              have hD : va_D A [(h_a3, .inr (3, [.ref q_a3_table, .int a3_many])), (q_a3_table, .inl (cI, 9592, .inl a3_table)), (q_a0_greatests, .inl (cJ, 5000, .inr (.inl o_9))), (q_a0_rests, .inl (cJ, 5000, .inr (.inl a0_rests_93_5))), (h_a0, .inr (6, [.ref q_a0_leasts, .ref q_a0_greatests, .ref q_a0_rests, .ref h_a0_squared, .long p1, .int y_1, .int o_10, .int o_11, .int o_12, .int o_13])), (q_a0_leasts, .inl (cJ, 5000, .inr (.inl o_8))), (h_a0_squared, .inr (0, [.ref q_a0_squared_words])), (q_a0_squared_words, .inl (cJ, 79, .inr (.inl a0_squared_words_93_5)))] := hD
              have hP9 := hP.sub (ws' := [(h_a0, .inr (6, [.ref q_a0_leasts, .ref q_a0_greatests, .ref q_a0_rests, .ref h_a0_squared, .long p1, .int y_1, .int o_10, .int o_11, .int o_12, .int o_13])), (q_a0_leasts, .inl (cJ, 5000, .inr (.inl o_8))), (q_a0_greatests, .inl (cJ, 5000, .inr (.inl o_9))), (q_a0_rests, .inl (cJ, 5000, .inr (.inl a0_rests_93_5))), (h_a0_squared, .inr (0, [.ref q_a0_squared_words])), (q_a0_squared_words, .inl (cJ, 79, .inr (.inl a0_squared_words_93_5))), (h_a3, .inr (3, [.ref q_a3_table, .int a3_many])), (q_a3_table, .inl (cI, 9592, .inl a3_table))]) [4, 5, 2, 3, 6, 7, 0, 1] rfl
              have hD9 := hD.sub (ws' := [(h_a0, .inr (6, [.ref q_a0_leasts, .ref q_a0_greatests, .ref q_a0_rests, .ref h_a0_squared, .long p1, .int y_1, .int o_10, .int o_11, .int o_12, .int o_13])), (q_a0_leasts, .inl (cJ, 5000, .inr (.inl o_8))), (q_a0_greatests, .inl (cJ, 5000, .inr (.inl o_9))), (q_a0_rests, .inl (cJ, 5000, .inr (.inl a0_rests_93_5))), (h_a0_squared, .inr (0, [.ref q_a0_squared_words])), (q_a0_squared_words, .inl (cJ, 79, .inr (.inl a0_squared_words_93_5))), (h_a3, .inr (3, [.ref q_a3_table, .int a3_many])), (q_a3_table, .inl (cI, 9592, .inl a3_table))]) [4, 5, 2, 3, 6, 7, 0, 1] (by decide) rfl
              exact W.vret hx hb hr (fun t ht hW => ⟨⟨(p1, y_1, o_10, o_11, o_12, o_13, o_8, o_9, a0_rests_93_5, a0_squared_words_93_5), rfl, h, by rw [ht]; exact hP9, hD9⟩, hS.F ht⟩) hS.2.2 dX6_sieve_156
            · replace h := h.2 c_7
              refine lv_aload hx hb dX6_sieve_103 (lv_at hl 3 rfl) ?_
              refine lv_iload hx hb dX6_sieve_105 (lv_at hl 0 rfl) ?_
              have hPc := hP.sub (ws' := [(h_a3, .inr (3, [.ref q_a3_table, .int a3_many])), (q_a3_table, .inl (cI, 9592, .inl a3_table))]) [4, 5] rfl
              have hDc := hD.sub (ws' := [(h_a3, .inr (3, [.ref q_a3_table, .int a3_many])), (q_a3_table, .inl (cI, 9592, .inl a3_table))]) [4, 5] (by decide) rfl
              have hFc := va_free (wc := [(h_a3, .inr (3, [.ref q_a3_table, .int a3_many])), (q_a3_table, .inl (cI, 9592, .inl a3_table))]) hD hS hA [4, 5] rfl
              refine va_calli (va_runV (As := [.int l7_93_5]) (rest := []) ⟨hx, hb, hml, hown, hts⟩ (c_X3_nth l dC dI cI cJ cZ _ h_a3 a3_table q_a3_table a3_many l7_93_5 _ h) (cwV 1 hts gX6_sieve_X3_nth rfl rfl rfl (by decide +kernel) ⟨Nat.le_of_ble_eq_true rfl, Nat.le_of_ble_eq_true rfl⟩) ⟨pre_fb, va_recv hK hPc (ci := 3) (q0 := 0) rfl rfl, pre_of hPc hDc hK hN⟩ rfl rfl hl.1 rfl (lv_room (Nat.le_of_ble_eq_true rfl)) dX6_sieve_107 ⟨by first | exact Nat.le_of_ble_eq_true rfl | exact Nat.le_refl _, by first | exact Nat.le_of_ble_eq_true rfl | exact Nat.le_refl _⟩) hS (fun q _ h => hFc q h) hFc (fun r_14 u t H1 locs ht hvm h hB hz1 hk1 hS => ?_)
              obtain ⟨hP1, hD1⟩ := hB
              rw [ht] at hP1
              try dsimp only at h
              obtain ⟨hP, hD⟩ := va_join (wr := [(h_a0, .inr (6, [.ref q_a0_leasts, .ref q_a0_greatests, .ref q_a0_rests, .ref h_a0_squared, .long p1, .int y_1, .int a0_primeCount, .int a0_gap, .int a0_twins, .int a0_squareFree])), (q_a0_leasts, .inl (cJ, 5000, .inr (.inl a0_leasts_93_5))), (q_a0_greatests, .inl (cJ, 5000, .inr (.inl a0_greatests_93_5))), (q_a0_rests, .inl (cJ, 5000, .inr (.inl a0_rests_93_5))), (h_a0_squared, .inr (0, [.ref q_a0_squared_words])), (q_a0_squared_words, .inl (cJ, 79, .inr (.inl a0_squared_words_93_5)))]) (w1 := [(h_a3, .inr (3, [.ref q_a3_table, .int a3_many])), (q_a3_table, .inl (cI, 9592, .inl a3_table))]) hP hD [4, 5] [0, 1, 2, 3, 6, 7] rfl rfl (by decide) (by decide) hk1 hFc hP1 hD1
              generalize H1 = H at hP hS ⊢
              have hP : va_P (dC, dI) vwCl [(h_a0, .inr (6, [.ref q_a0_leasts, .ref q_a0_greatests, .ref q_a0_rests, .ref h_a0_squared, .long p1, .int y_1, .int a0_primeCount, .int a0_gap, .int a0_twins, .int a0_squareFree])), (q_a0_leasts, .inl (cJ, 5000, .inr (.inl a0_leasts_93_5))), (q_a0_greatests, .inl (cJ, 5000, .inr (.inl a0_greatests_93_5))), (q_a0_rests, .inl (cJ, 5000, .inr (.inl a0_rests_93_5))), (h_a0_squared, .inr (0, [.ref q_a0_squared_words])), (q_a0_squared_words, .inl (cJ, 79, .inr (.inl a0_squared_words_93_5))), (h_a3, .inr (3, [.ref q_a3_table, .int a3_many])), (q_a3_table, .inl (cI, 9592, .inl a3_table))] H := hP
              have hD : va_D A [(h_a0, .inr (6, [.ref q_a0_leasts, .ref q_a0_greatests, .ref q_a0_rests, .ref h_a0_squared, .long p1, .int y_1, .int a0_primeCount, .int a0_gap, .int a0_twins, .int a0_squareFree])), (q_a0_leasts, .inl (cJ, 5000, .inr (.inl a0_leasts_93_5))), (q_a0_greatests, .inl (cJ, 5000, .inr (.inl a0_greatests_93_5))), (q_a0_rests, .inl (cJ, 5000, .inr (.inl a0_rests_93_5))), (h_a0_squared, .inr (0, [.ref q_a0_squared_words])), (q_a0_squared_words, .inl (cJ, 79, .inr (.inl a0_squared_words_93_5))), (h_a3, .inr (3, [.ref q_a3_table, .int a3_many])), (q_a3_table, .inl (cI, 9592, .inl a3_table))] := hD
              refine lv_i2l hx hb dX6_sieve_110 rfl ?_
              refine lv_topl (fun x8_15 e_x8_15 => ?_)
              replace h := h x8_15 e_x8_15
              refine lv_lstore (lv' := [(8, .long x8_15), (7, .int l7_93_5), (5, .long x5_5), (0, .ref h_a0), (4, .ref h_a3)]) hx hb dX6_sieve_111 hl (by decide) rfl (fun ls hl => ?_)
              refine lv_lload hx hb dX6_sieve_113 (lv_at hl 0 rfl) ?_
              refine lv_ldc2 hx hb hown hw_12 dX6_sieve_115 ?_
              refine W.lcmp hx hb dX6_sieve_118 ?_
              refine lv_if_lt (tgt := 148) hx hb dX6_sieve_119 (by decide) (fun c_16 => ?_) (fun c_16 => ?_)
              · replace c_16 := (lg_cmp_lt _ _).mp c_16
                replace h := h.1 c_16
                refine lv_aload_n hx hb dX6_sieve_148 rfl (lv_at hl 3 rfl) ?_
                have hPc := hP.sub (ws' := [(h_a0, .inr (6, [.ref q_a0_leasts, .ref q_a0_greatests, .ref q_a0_rests, .ref h_a0_squared, .long p1, .int y_1, .int a0_primeCount, .int a0_gap, .int a0_twins, .int a0_squareFree])), (q_a0_leasts, .inl (cJ, 5000, .inr (.inl a0_leasts_93_5))), (q_a0_greatests, .inl (cJ, 5000, .inr (.inl a0_greatests_93_5))), (q_a0_rests, .inl (cJ, 5000, .inr (.inl a0_rests_93_5)))]) [0, 1, 2, 3] rfl
                have hDc := hD.sub (ws' := [(h_a0, .inr (6, [.ref q_a0_leasts, .ref q_a0_greatests, .ref q_a0_rests, .ref h_a0_squared, .long p1, .int y_1, .int a0_primeCount, .int a0_gap, .int a0_twins, .int a0_squareFree])), (q_a0_leasts, .inl (cJ, 5000, .inr (.inl a0_leasts_93_5))), (q_a0_greatests, .inl (cJ, 5000, .inr (.inl a0_greatests_93_5))), (q_a0_rests, .inl (cJ, 5000, .inr (.inl a0_rests_93_5)))]) [0, 1, 2, 3] (by decide) rfl
                have hFc := va_free (wc := [(h_a0, .inr (6, [.ref q_a0_leasts, .ref q_a0_greatests, .ref q_a0_rests, .ref h_a0_squared, .long p1, .int y_1, .int a0_primeCount, .int a0_gap, .int a0_twins, .int a0_squareFree])), (q_a0_leasts, .inl (cJ, 5000, .inr (.inl a0_leasts_93_5))), (q_a0_greatests, .inl (cJ, 5000, .inr (.inl a0_greatests_93_5))), (q_a0_rests, .inl (cJ, 5000, .inr (.inl a0_rests_93_5)))]) hD hS hA [0, 1, 2, 3] rfl
                refine va_callv (va_runV (As := []) (rest := []) ⟨hx, hb, hml, hown, hts⟩ (c_X6_takeRests l dC dI cI cJ cZ _ h_a0 a0_leasts_93_5 q_a0_leasts a0_greatests_93_5 q_a0_greatests a0_rests_93_5 q_a0_rests (.ref h_a0_squared) p1 y_1 a0_primeCount a0_gap a0_twins a0_squareFree _ h) (cwV 0 hts gX6_sieve_X6_takeRests rfl rfl rfl (by decide +kernel) ⟨Nat.le_of_ble_eq_true rfl, Nat.le_of_ble_eq_true rfl⟩) ⟨pre_fb, va_recv hK hPc (ci := 6) (q0 := 0) rfl rfl, pre_of hPc hDc hK hN⟩ rfl rfl hl.1 rfl (lv_room (Nat.le_of_ble_eq_true rfl)) dX6_sieve_149 ⟨by first | exact Nat.le_of_ble_eq_true rfl | exact Nat.le_refl _, by first | exact Nat.le_of_ble_eq_true rfl | exact Nat.le_refl _⟩) hS (fun q _ h => hFc q h) hFc (fun u t H1 locs ht hvm h hB hz1 hk1 hS => ?_)
                obtain ⟨o_17, o_18⟩ := u
                obtain ⟨hP1, hD1⟩ := hB
                rw [ht] at hP1
                try dsimp only at h
                obtain ⟨hP, hD⟩ := va_join (wr := [(h_a0_squared, .inr (0, [.ref q_a0_squared_words])), (q_a0_squared_words, .inl (cJ, 79, .inr (.inl a0_squared_words_93_5))), (h_a3, .inr (3, [.ref q_a3_table, .int a3_many])), (q_a3_table, .inl (cI, 9592, .inl a3_table))]) (w1 := [(h_a0, .inr (6, [.ref q_a0_leasts, .ref q_a0_greatests, .ref q_a0_rests, .ref h_a0_squared, .long p1, .int y_1, .int a0_primeCount, .int a0_gap, .int a0_twins, .int a0_squareFree])), (q_a0_leasts, .inl (cJ, 5000, .inr (.inl o_17))), (q_a0_greatests, .inl (cJ, 5000, .inr (.inl o_18))), (q_a0_rests, .inl (cJ, 5000, .inr (.inl a0_rests_93_5)))]) hP hD [0, 1, 2, 3] [4, 5, 6, 7] rfl rfl (by decide) (by decide) hk1 hFc hP1 hD1
                generalize H1 = H at hP hS ⊢
                have hP : va_P (dC, dI) vwCl [(h_a0_squared, .inr (0, [.ref q_a0_squared_words])), (q_a0_squared_words, .inl (cJ, 79, .inr (.inl a0_squared_words_93_5))), (h_a3, .inr (3, [.ref q_a3_table, .int a3_many])), (q_a3_table, .inl (cI, 9592, .inl a3_table)), (h_a0, .inr (6, [.ref q_a0_leasts, .ref q_a0_greatests, .ref q_a0_rests, .ref h_a0_squared, .long p1, .int y_1, .int a0_primeCount, .int a0_gap, .int a0_twins, .int a0_squareFree])), (q_a0_leasts, .inl (cJ, 5000, .inr (.inl o_17))), (q_a0_greatests, .inl (cJ, 5000, .inr (.inl o_18))), (q_a0_rests, .inl (cJ, 5000, .inr (.inl a0_rests_93_5)))] H := hP
                have hD : va_D A [(h_a0_squared, .inr (0, [.ref q_a0_squared_words])), (q_a0_squared_words, .inl (cJ, 79, .inr (.inl a0_squared_words_93_5))), (h_a3, .inr (3, [.ref q_a3_table, .int a3_many])), (q_a3_table, .inl (cI, 9592, .inl a3_table)), (h_a0, .inr (6, [.ref q_a0_leasts, .ref q_a0_greatests, .ref q_a0_rests, .ref h_a0_squared, .long p1, .int y_1, .int a0_primeCount, .int a0_gap, .int a0_twins, .int a0_squareFree])), (q_a0_leasts, .inl (cJ, 5000, .inr (.inl o_17))), (q_a0_greatests, .inl (cJ, 5000, .inr (.inl o_18))), (q_a0_rests, .inl (cJ, 5000, .inr (.inl a0_rests_93_5)))] := hD
                refine lv_aload_n hx hb dX6_sieve_152 rfl (lv_at hl 3 rfl) ?_
                have hPc := hP.sub (ws' := [(h_a0, .inr (6, [.ref q_a0_leasts, .ref q_a0_greatests, .ref q_a0_rests, .ref h_a0_squared, .long p1, .int y_1, .int a0_primeCount, .int a0_gap, .int a0_twins, .int a0_squareFree])), (q_a0_leasts, .inl (cJ, 5000, .inr (.inl o_17))), (h_a0_squared, .inr (0, [.ref q_a0_squared_words])), (q_a0_squared_words, .inl (cJ, 79, .inr (.inl a0_squared_words_93_5)))]) [4, 5, 0, 1] rfl
                have hDc := hD.sub (ws' := [(h_a0, .inr (6, [.ref q_a0_leasts, .ref q_a0_greatests, .ref q_a0_rests, .ref h_a0_squared, .long p1, .int y_1, .int a0_primeCount, .int a0_gap, .int a0_twins, .int a0_squareFree])), (q_a0_leasts, .inl (cJ, 5000, .inr (.inl o_17))), (h_a0_squared, .inr (0, [.ref q_a0_squared_words])), (q_a0_squared_words, .inl (cJ, 79, .inr (.inl a0_squared_words_93_5)))]) [4, 5, 0, 1] (by decide) rfl
                have hFc := va_free (wc := [(h_a0, .inr (6, [.ref q_a0_leasts, .ref q_a0_greatests, .ref q_a0_rests, .ref h_a0_squared, .long p1, .int y_1, .int a0_primeCount, .int a0_gap, .int a0_twins, .int a0_squareFree])), (q_a0_leasts, .inl (cJ, 5000, .inr (.inl o_17))), (h_a0_squared, .inr (0, [.ref q_a0_squared_words])), (q_a0_squared_words, .inl (cJ, 79, .inr (.inl a0_squared_words_93_5)))]) hD hS hA [4, 5, 0, 1] rfl
                refine va_callv (va_runV (As := []) (rest := []) ⟨hx, hb, hml, hown, hts⟩ (c_X6_measure l dC dI cI cJ cZ _ h_a0 o_17 q_a0_leasts (.ref q_a0_greatests) (.ref q_a0_rests) h_a0_squared a0_squared_words_93_5 q_a0_squared_words p1 y_1 a0_primeCount a0_gap a0_twins a0_squareFree _ h) (cwV 0 hts gX6_sieve_X6_measure rfl rfl rfl (by decide +kernel) ⟨Nat.le_of_ble_eq_true rfl, Nat.le_of_ble_eq_true rfl⟩) ⟨pre_fb, va_recv hK hPc (ci := 6) (q0 := 0) rfl rfl, pre_of hPc hDc hK hN⟩ rfl rfl hl.1 rfl (lv_room (Nat.le_of_ble_eq_true rfl)) dX6_sieve_153 ⟨by first | exact Nat.le_of_ble_eq_true rfl | exact Nat.le_refl _, by first | exact Nat.le_of_ble_eq_true rfl | exact Nat.le_refl _⟩) hS (fun q _ h => hFc q h) hFc (fun u t H1 locs ht hvm h hB hz1 hk1 hS => ?_)
                obtain ⟨o_19, o_20, o_21, o_22⟩ := u
                obtain ⟨hP1, hD1⟩ := hB
                rw [ht] at hP1
                try dsimp only at h
                obtain ⟨hP, hD⟩ := va_join (wr := [(h_a3, .inr (3, [.ref q_a3_table, .int a3_many])), (q_a3_table, .inl (cI, 9592, .inl a3_table)), (q_a0_greatests, .inl (cJ, 5000, .inr (.inl o_18))), (q_a0_rests, .inl (cJ, 5000, .inr (.inl a0_rests_93_5)))]) (w1 := [(h_a0, .inr (6, [.ref q_a0_leasts, .ref q_a0_greatests, .ref q_a0_rests, .ref h_a0_squared, .long p1, .int y_1, .int o_19, .int o_20, .int o_21, .int o_22])), (q_a0_leasts, .inl (cJ, 5000, .inr (.inl o_17))), (h_a0_squared, .inr (0, [.ref q_a0_squared_words])), (q_a0_squared_words, .inl (cJ, 79, .inr (.inl a0_squared_words_93_5)))]) hP hD [4, 5, 0, 1] [2, 3, 6, 7] rfl rfl (by decide) (by decide) hk1 hFc hP1 hD1
                generalize H1 = H at hP hS ⊢
                have hP : va_P (dC, dI) vwCl [(h_a3, .inr (3, [.ref q_a3_table, .int a3_many])), (q_a3_table, .inl (cI, 9592, .inl a3_table)), (q_a0_greatests, .inl (cJ, 5000, .inr (.inl o_18))), (q_a0_rests, .inl (cJ, 5000, .inr (.inl a0_rests_93_5))), (h_a0, .inr (6, [.ref q_a0_leasts, .ref q_a0_greatests, .ref q_a0_rests, .ref h_a0_squared, .long p1, .int y_1, .int o_19, .int o_20, .int o_21, .int o_22])), (q_a0_leasts, .inl (cJ, 5000, .inr (.inl o_17))), (h_a0_squared, .inr (0, [.ref q_a0_squared_words])), (q_a0_squared_words, .inl (cJ, 79, .inr (.inl a0_squared_words_93_5)))] H := hP
                have hD : va_D A [(h_a3, .inr (3, [.ref q_a3_table, .int a3_many])), (q_a3_table, .inl (cI, 9592, .inl a3_table)), (q_a0_greatests, .inl (cJ, 5000, .inr (.inl o_18))), (q_a0_rests, .inl (cJ, 5000, .inr (.inl a0_rests_93_5))), (h_a0, .inr (6, [.ref q_a0_leasts, .ref q_a0_greatests, .ref q_a0_rests, .ref h_a0_squared, .long p1, .int y_1, .int o_19, .int o_20, .int o_21, .int o_22])), (q_a0_leasts, .inl (cJ, 5000, .inr (.inl o_17))), (h_a0_squared, .inr (0, [.ref q_a0_squared_words])), (q_a0_squared_words, .inl (cJ, 79, .inr (.inl a0_squared_words_93_5)))] := hD
                have hP9 := hP.sub (ws' := [(h_a0, .inr (6, [.ref q_a0_leasts, .ref q_a0_greatests, .ref q_a0_rests, .ref h_a0_squared, .long p1, .int y_1, .int o_19, .int o_20, .int o_21, .int o_22])), (q_a0_leasts, .inl (cJ, 5000, .inr (.inl o_17))), (q_a0_greatests, .inl (cJ, 5000, .inr (.inl o_18))), (q_a0_rests, .inl (cJ, 5000, .inr (.inl a0_rests_93_5))), (h_a0_squared, .inr (0, [.ref q_a0_squared_words])), (q_a0_squared_words, .inl (cJ, 79, .inr (.inl a0_squared_words_93_5))), (h_a3, .inr (3, [.ref q_a3_table, .int a3_many])), (q_a3_table, .inl (cI, 9592, .inl a3_table))]) [4, 5, 2, 3, 6, 7, 0, 1] rfl
                have hD9 := hD.sub (ws' := [(h_a0, .inr (6, [.ref q_a0_leasts, .ref q_a0_greatests, .ref q_a0_rests, .ref h_a0_squared, .long p1, .int y_1, .int o_19, .int o_20, .int o_21, .int o_22])), (q_a0_leasts, .inl (cJ, 5000, .inr (.inl o_17))), (q_a0_greatests, .inl (cJ, 5000, .inr (.inl o_18))), (q_a0_rests, .inl (cJ, 5000, .inr (.inl a0_rests_93_5))), (h_a0_squared, .inr (0, [.ref q_a0_squared_words])), (q_a0_squared_words, .inl (cJ, 79, .inr (.inl a0_squared_words_93_5))), (h_a3, .inr (3, [.ref q_a3_table, .int a3_many])), (q_a3_table, .inl (cI, 9592, .inl a3_table))]) [4, 5, 2, 3, 6, 7, 0, 1] (by decide) rfl
                exact W.vret hx hb hr (fun t ht hW => ⟨⟨(p1, y_1, o_19, o_20, o_21, o_22, o_17, o_18, a0_rests_93_5, a0_squared_words_93_5), rfl, h, by rw [ht]; exact hP9, hD9⟩, hS.F ht⟩) hS.2.2 dX6_sieve_156
              · replace c_16 := lc_nlt c_16
                replace h := h.2 c_16
                refine lv_lload hx hb dX6_sieve_122 (lv_at hl 0 rfl) ?_
                refine lv_lload hx hb dX6_sieve_124 (lv_at hl 0 rfl) ?_
                refine lv_lmul hx hb dX6_sieve_126 ?_
                refine lv_lload hx hb dX6_sieve_127 (lv_at hl 2 rfl) ?_
                refine W.lcmp hx hb dX6_sieve_129 ?_
                refine lv_if_le (tgt := 136) hx hb dX6_sieve_130 (by decide) (fun c_23 => ?_) (fun c_23 => ?_)
                · replace c_23 := (lg_cmp_le _ _).mp c_23
                  replace h := h.1 c_23
                  refine lv_aload_n hx hb dX6_sieve_136 rfl (lv_at hl 3 rfl) ?_
                  refine lv_lload hx hb dX6_sieve_137 (lv_at hl 0 rfl) ?_
                  have hPc := hP.sub (ws' := [(h_a0, .inr (6, [.ref q_a0_leasts, .ref q_a0_greatests, .ref q_a0_rests, .ref h_a0_squared, .long p1, .int y_1, .int a0_primeCount, .int a0_gap, .int a0_twins, .int a0_squareFree])), (q_a0_leasts, .inl (cJ, 5000, .inr (.inl a0_leasts_93_5))), (q_a0_greatests, .inl (cJ, 5000, .inr (.inl a0_greatests_93_5))), (q_a0_rests, .inl (cJ, 5000, .inr (.inl a0_rests_93_5))), (h_a0_squared, .inr (0, [.ref q_a0_squared_words])), (q_a0_squared_words, .inl (cJ, 79, .inr (.inl a0_squared_words_93_5)))]) [0, 1, 2, 3, 4, 5] rfl
                  have hDc := hD.sub (ws' := [(h_a0, .inr (6, [.ref q_a0_leasts, .ref q_a0_greatests, .ref q_a0_rests, .ref h_a0_squared, .long p1, .int y_1, .int a0_primeCount, .int a0_gap, .int a0_twins, .int a0_squareFree])), (q_a0_leasts, .inl (cJ, 5000, .inr (.inl a0_leasts_93_5))), (q_a0_greatests, .inl (cJ, 5000, .inr (.inl a0_greatests_93_5))), (q_a0_rests, .inl (cJ, 5000, .inr (.inl a0_rests_93_5))), (h_a0_squared, .inr (0, [.ref q_a0_squared_words])), (q_a0_squared_words, .inl (cJ, 79, .inr (.inl a0_squared_words_93_5)))]) [0, 1, 2, 3, 4, 5] (by decide) rfl
                  have hFc := va_free (wc := [(h_a0, .inr (6, [.ref q_a0_leasts, .ref q_a0_greatests, .ref q_a0_rests, .ref h_a0_squared, .long p1, .int y_1, .int a0_primeCount, .int a0_gap, .int a0_twins, .int a0_squareFree])), (q_a0_leasts, .inl (cJ, 5000, .inr (.inl a0_leasts_93_5))), (q_a0_greatests, .inl (cJ, 5000, .inr (.inl a0_greatests_93_5))), (q_a0_rests, .inl (cJ, 5000, .inr (.inl a0_rests_93_5))), (h_a0_squared, .inr (0, [.ref q_a0_squared_words])), (q_a0_squared_words, .inl (cJ, 79, .inr (.inl a0_squared_words_93_5)))]) hD hS hA [0, 1, 2, 3, 4, 5] rfl
                  refine va_callv (va_runV (As := [.long x8_15]) (rest := []) ⟨hx, hb, hml, hown, hts⟩ (c_X6_divideAll l dC dI cI cJ cZ _ h_a0 a0_leasts_93_5 q_a0_leasts a0_greatests_93_5 q_a0_greatests a0_rests_93_5 q_a0_rests h_a0_squared a0_squared_words_93_5 q_a0_squared_words p1 y_1 a0_primeCount a0_gap a0_twins a0_squareFree x8_15 _ h) (cwV 1 hts gX6_sieve_X6_divideAll rfl rfl rfl (by decide +kernel) ⟨Nat.le_of_ble_eq_true rfl, Nat.le_of_ble_eq_true rfl⟩) ⟨pre_fb, va_recv hK hPc (ci := 6) (q0 := 0) rfl rfl, pre_of hPc hDc hK hN⟩ rfl rfl hl.1 rfl (lv_room (Nat.le_of_ble_eq_true rfl)) dX6_sieve_139 ⟨by first | exact Nat.le_of_ble_eq_true rfl | exact Nat.le_refl _, by first | exact Nat.le_of_ble_eq_true rfl | exact Nat.le_refl _⟩) hS (fun q _ h => hFc q h) hFc (fun u t H1 locs ht hvm h hB hz1 hk1 hS => ?_)
                  obtain ⟨o_24, o_25, o_26, o_27⟩ := u
                  obtain ⟨hP1, hD1⟩ := hB
                  rw [ht] at hP1
                  try dsimp only at h
                  obtain ⟨hP, hD⟩ := va_join (wr := [(h_a3, .inr (3, [.ref q_a3_table, .int a3_many])), (q_a3_table, .inl (cI, 9592, .inl a3_table))]) (w1 := [(h_a0, .inr (6, [.ref q_a0_leasts, .ref q_a0_greatests, .ref q_a0_rests, .ref h_a0_squared, .long p1, .int y_1, .int a0_primeCount, .int a0_gap, .int a0_twins, .int a0_squareFree])), (q_a0_leasts, .inl (cJ, 5000, .inr (.inl o_24))), (q_a0_greatests, .inl (cJ, 5000, .inr (.inl o_25))), (q_a0_rests, .inl (cJ, 5000, .inr (.inl o_26))), (h_a0_squared, .inr (0, [.ref q_a0_squared_words])), (q_a0_squared_words, .inl (cJ, 79, .inr (.inl o_27)))]) hP hD [0, 1, 2, 3, 4, 5] [6, 7] rfl rfl (by decide) (by decide) hk1 hFc hP1 hD1
                  generalize H1 = H at hP hS ⊢
                  have hP : va_P (dC, dI) vwCl [(h_a3, .inr (3, [.ref q_a3_table, .int a3_many])), (q_a3_table, .inl (cI, 9592, .inl a3_table)), (h_a0, .inr (6, [.ref q_a0_leasts, .ref q_a0_greatests, .ref q_a0_rests, .ref h_a0_squared, .long p1, .int y_1, .int a0_primeCount, .int a0_gap, .int a0_twins, .int a0_squareFree])), (q_a0_leasts, .inl (cJ, 5000, .inr (.inl o_24))), (q_a0_greatests, .inl (cJ, 5000, .inr (.inl o_25))), (q_a0_rests, .inl (cJ, 5000, .inr (.inl o_26))), (h_a0_squared, .inr (0, [.ref q_a0_squared_words])), (q_a0_squared_words, .inl (cJ, 79, .inr (.inl o_27)))] H := hP
                  have hD : va_D A [(h_a3, .inr (3, [.ref q_a3_table, .int a3_many])), (q_a3_table, .inl (cI, 9592, .inl a3_table)), (h_a0, .inr (6, [.ref q_a0_leasts, .ref q_a0_greatests, .ref q_a0_rests, .ref h_a0_squared, .long p1, .int y_1, .int a0_primeCount, .int a0_gap, .int a0_twins, .int a0_squareFree])), (q_a0_leasts, .inl (cJ, 5000, .inr (.inl o_24))), (q_a0_greatests, .inl (cJ, 5000, .inr (.inl o_25))), (q_a0_rests, .inl (cJ, 5000, .inr (.inl o_26))), (h_a0_squared, .inr (0, [.ref q_a0_squared_words])), (q_a0_squared_words, .inl (cJ, 79, .inr (.inl o_27)))] := hD
                  obtain ⟨x7_28, e_x7_28⟩ : ∃ y : Int32, y = l7_93_5 + (1 : Int32) := ⟨_, rfl⟩
                  replace h := h x7_28 e_x7_28
                  refine lv_iinc (v := x7_28) (lv' := [(7, .int x7_28), (8, .long x8_15), (5, .long x5_5), (0, .ref h_a0), (4, .ref h_a3)]) hx hb dX6_sieve_142 hl (k := 1) rfl (by rw [e_x7_28]; rfl) (by decide) rfl (fun ls hl => ?_)
                  refine lv_goto (tgt := 93) hx hb dX6_sieve_145 (by decide) ?_
                  exact ih_93_5 x7_28 o_24 o_25 o_26 o_27 (Nat.lt_of_lt_of_le h.2 (Nat.le_of_lt_succ hm_93_5)) h.1 _ _ _ (lv_sub hl [0, 2, 3, 4] rfl) (hP.sub [2, 3, 4, 5, 0, 1, 6, 7] rfl) (hD.sub [2, 3, 4, 5, 0, 1, 6, 7] (by decide) rfl) hS
                · replace c_23 := lc_nle c_23
                  replace h := h.2 c_23
                  refine lv_goto (tgt := 148) hx hb dX6_sieve_133 (by decide) ?_
                  refine lv_aload_n hx hb dX6_sieve_148 rfl (lv_at hl 3 rfl) ?_
                  have hPc := hP.sub (ws' := [(h_a0, .inr (6, [.ref q_a0_leasts, .ref q_a0_greatests, .ref q_a0_rests, .ref h_a0_squared, .long p1, .int y_1, .int a0_primeCount, .int a0_gap, .int a0_twins, .int a0_squareFree])), (q_a0_leasts, .inl (cJ, 5000, .inr (.inl a0_leasts_93_5))), (q_a0_greatests, .inl (cJ, 5000, .inr (.inl a0_greatests_93_5))), (q_a0_rests, .inl (cJ, 5000, .inr (.inl a0_rests_93_5)))]) [0, 1, 2, 3] rfl
                  have hDc := hD.sub (ws' := [(h_a0, .inr (6, [.ref q_a0_leasts, .ref q_a0_greatests, .ref q_a0_rests, .ref h_a0_squared, .long p1, .int y_1, .int a0_primeCount, .int a0_gap, .int a0_twins, .int a0_squareFree])), (q_a0_leasts, .inl (cJ, 5000, .inr (.inl a0_leasts_93_5))), (q_a0_greatests, .inl (cJ, 5000, .inr (.inl a0_greatests_93_5))), (q_a0_rests, .inl (cJ, 5000, .inr (.inl a0_rests_93_5)))]) [0, 1, 2, 3] (by decide) rfl
                  have hFc := va_free (wc := [(h_a0, .inr (6, [.ref q_a0_leasts, .ref q_a0_greatests, .ref q_a0_rests, .ref h_a0_squared, .long p1, .int y_1, .int a0_primeCount, .int a0_gap, .int a0_twins, .int a0_squareFree])), (q_a0_leasts, .inl (cJ, 5000, .inr (.inl a0_leasts_93_5))), (q_a0_greatests, .inl (cJ, 5000, .inr (.inl a0_greatests_93_5))), (q_a0_rests, .inl (cJ, 5000, .inr (.inl a0_rests_93_5)))]) hD hS hA [0, 1, 2, 3] rfl
                  refine va_callv (va_runV (As := []) (rest := []) ⟨hx, hb, hml, hown, hts⟩ (c_X6_takeRests l dC dI cI cJ cZ _ h_a0 a0_leasts_93_5 q_a0_leasts a0_greatests_93_5 q_a0_greatests a0_rests_93_5 q_a0_rests (.ref h_a0_squared) p1 y_1 a0_primeCount a0_gap a0_twins a0_squareFree _ h) (cwV 0 hts gX6_sieve_X6_takeRests rfl rfl rfl (by decide +kernel) ⟨Nat.le_of_ble_eq_true rfl, Nat.le_of_ble_eq_true rfl⟩) ⟨pre_fb, va_recv hK hPc (ci := 6) (q0 := 0) rfl rfl, pre_of hPc hDc hK hN⟩ rfl rfl hl.1 rfl (lv_room (Nat.le_of_ble_eq_true rfl)) dX6_sieve_149 ⟨by first | exact Nat.le_of_ble_eq_true rfl | exact Nat.le_refl _, by first | exact Nat.le_of_ble_eq_true rfl | exact Nat.le_refl _⟩) hS (fun q _ h => hFc q h) hFc (fun u t H1 locs ht hvm h hB hz1 hk1 hS => ?_)
                  obtain ⟨o_29, o_30⟩ := u
                  obtain ⟨hP1, hD1⟩ := hB
                  rw [ht] at hP1
                  try dsimp only at h
                  obtain ⟨hP, hD⟩ := va_join (wr := [(h_a0_squared, .inr (0, [.ref q_a0_squared_words])), (q_a0_squared_words, .inl (cJ, 79, .inr (.inl a0_squared_words_93_5))), (h_a3, .inr (3, [.ref q_a3_table, .int a3_many])), (q_a3_table, .inl (cI, 9592, .inl a3_table))]) (w1 := [(h_a0, .inr (6, [.ref q_a0_leasts, .ref q_a0_greatests, .ref q_a0_rests, .ref h_a0_squared, .long p1, .int y_1, .int a0_primeCount, .int a0_gap, .int a0_twins, .int a0_squareFree])), (q_a0_leasts, .inl (cJ, 5000, .inr (.inl o_29))), (q_a0_greatests, .inl (cJ, 5000, .inr (.inl o_30))), (q_a0_rests, .inl (cJ, 5000, .inr (.inl a0_rests_93_5)))]) hP hD [0, 1, 2, 3] [4, 5, 6, 7] rfl rfl (by decide) (by decide) hk1 hFc hP1 hD1
                  generalize H1 = H at hP hS ⊢
                  have hP : va_P (dC, dI) vwCl [(h_a0_squared, .inr (0, [.ref q_a0_squared_words])), (q_a0_squared_words, .inl (cJ, 79, .inr (.inl a0_squared_words_93_5))), (h_a3, .inr (3, [.ref q_a3_table, .int a3_many])), (q_a3_table, .inl (cI, 9592, .inl a3_table)), (h_a0, .inr (6, [.ref q_a0_leasts, .ref q_a0_greatests, .ref q_a0_rests, .ref h_a0_squared, .long p1, .int y_1, .int a0_primeCount, .int a0_gap, .int a0_twins, .int a0_squareFree])), (q_a0_leasts, .inl (cJ, 5000, .inr (.inl o_29))), (q_a0_greatests, .inl (cJ, 5000, .inr (.inl o_30))), (q_a0_rests, .inl (cJ, 5000, .inr (.inl a0_rests_93_5)))] H := hP
                  have hD : va_D A [(h_a0_squared, .inr (0, [.ref q_a0_squared_words])), (q_a0_squared_words, .inl (cJ, 79, .inr (.inl a0_squared_words_93_5))), (h_a3, .inr (3, [.ref q_a3_table, .int a3_many])), (q_a3_table, .inl (cI, 9592, .inl a3_table)), (h_a0, .inr (6, [.ref q_a0_leasts, .ref q_a0_greatests, .ref q_a0_rests, .ref h_a0_squared, .long p1, .int y_1, .int a0_primeCount, .int a0_gap, .int a0_twins, .int a0_squareFree])), (q_a0_leasts, .inl (cJ, 5000, .inr (.inl o_29))), (q_a0_greatests, .inl (cJ, 5000, .inr (.inl o_30))), (q_a0_rests, .inl (cJ, 5000, .inr (.inl a0_rests_93_5)))] := hD
                  refine lv_aload_n hx hb dX6_sieve_152 rfl (lv_at hl 3 rfl) ?_
                  have hPc := hP.sub (ws' := [(h_a0, .inr (6, [.ref q_a0_leasts, .ref q_a0_greatests, .ref q_a0_rests, .ref h_a0_squared, .long p1, .int y_1, .int a0_primeCount, .int a0_gap, .int a0_twins, .int a0_squareFree])), (q_a0_leasts, .inl (cJ, 5000, .inr (.inl o_29))), (h_a0_squared, .inr (0, [.ref q_a0_squared_words])), (q_a0_squared_words, .inl (cJ, 79, .inr (.inl a0_squared_words_93_5)))]) [4, 5, 0, 1] rfl
                  have hDc := hD.sub (ws' := [(h_a0, .inr (6, [.ref q_a0_leasts, .ref q_a0_greatests, .ref q_a0_rests, .ref h_a0_squared, .long p1, .int y_1, .int a0_primeCount, .int a0_gap, .int a0_twins, .int a0_squareFree])), (q_a0_leasts, .inl (cJ, 5000, .inr (.inl o_29))), (h_a0_squared, .inr (0, [.ref q_a0_squared_words])), (q_a0_squared_words, .inl (cJ, 79, .inr (.inl a0_squared_words_93_5)))]) [4, 5, 0, 1] (by decide) rfl
                  have hFc := va_free (wc := [(h_a0, .inr (6, [.ref q_a0_leasts, .ref q_a0_greatests, .ref q_a0_rests, .ref h_a0_squared, .long p1, .int y_1, .int a0_primeCount, .int a0_gap, .int a0_twins, .int a0_squareFree])), (q_a0_leasts, .inl (cJ, 5000, .inr (.inl o_29))), (h_a0_squared, .inr (0, [.ref q_a0_squared_words])), (q_a0_squared_words, .inl (cJ, 79, .inr (.inl a0_squared_words_93_5)))]) hD hS hA [4, 5, 0, 1] rfl
                  refine va_callv (va_runV (As := []) (rest := []) ⟨hx, hb, hml, hown, hts⟩ (c_X6_measure l dC dI cI cJ cZ _ h_a0 o_29 q_a0_leasts (.ref q_a0_greatests) (.ref q_a0_rests) h_a0_squared a0_squared_words_93_5 q_a0_squared_words p1 y_1 a0_primeCount a0_gap a0_twins a0_squareFree _ h) (cwV 0 hts gX6_sieve_X6_measure rfl rfl rfl (by decide +kernel) ⟨Nat.le_of_ble_eq_true rfl, Nat.le_of_ble_eq_true rfl⟩) ⟨pre_fb, va_recv hK hPc (ci := 6) (q0 := 0) rfl rfl, pre_of hPc hDc hK hN⟩ rfl rfl hl.1 rfl (lv_room (Nat.le_of_ble_eq_true rfl)) dX6_sieve_153 ⟨by first | exact Nat.le_of_ble_eq_true rfl | exact Nat.le_refl _, by first | exact Nat.le_of_ble_eq_true rfl | exact Nat.le_refl _⟩) hS (fun q _ h => hFc q h) hFc (fun u t H1 locs ht hvm h hB hz1 hk1 hS => ?_)
                  obtain ⟨o_31, o_32, o_33, o_34⟩ := u
                  obtain ⟨hP1, hD1⟩ := hB
                  rw [ht] at hP1
                  try dsimp only at h
                  obtain ⟨hP, hD⟩ := va_join (wr := [(h_a3, .inr (3, [.ref q_a3_table, .int a3_many])), (q_a3_table, .inl (cI, 9592, .inl a3_table)), (q_a0_greatests, .inl (cJ, 5000, .inr (.inl o_30))), (q_a0_rests, .inl (cJ, 5000, .inr (.inl a0_rests_93_5)))]) (w1 := [(h_a0, .inr (6, [.ref q_a0_leasts, .ref q_a0_greatests, .ref q_a0_rests, .ref h_a0_squared, .long p1, .int y_1, .int o_31, .int o_32, .int o_33, .int o_34])), (q_a0_leasts, .inl (cJ, 5000, .inr (.inl o_29))), (h_a0_squared, .inr (0, [.ref q_a0_squared_words])), (q_a0_squared_words, .inl (cJ, 79, .inr (.inl a0_squared_words_93_5)))]) hP hD [4, 5, 0, 1] [2, 3, 6, 7] rfl rfl (by decide) (by decide) hk1 hFc hP1 hD1
                  generalize H1 = H at hP hS ⊢
                  have hP : va_P (dC, dI) vwCl [(h_a3, .inr (3, [.ref q_a3_table, .int a3_many])), (q_a3_table, .inl (cI, 9592, .inl a3_table)), (q_a0_greatests, .inl (cJ, 5000, .inr (.inl o_30))), (q_a0_rests, .inl (cJ, 5000, .inr (.inl a0_rests_93_5))), (h_a0, .inr (6, [.ref q_a0_leasts, .ref q_a0_greatests, .ref q_a0_rests, .ref h_a0_squared, .long p1, .int y_1, .int o_31, .int o_32, .int o_33, .int o_34])), (q_a0_leasts, .inl (cJ, 5000, .inr (.inl o_29))), (h_a0_squared, .inr (0, [.ref q_a0_squared_words])), (q_a0_squared_words, .inl (cJ, 79, .inr (.inl a0_squared_words_93_5)))] H := hP
                  have hD : va_D A [(h_a3, .inr (3, [.ref q_a3_table, .int a3_many])), (q_a3_table, .inl (cI, 9592, .inl a3_table)), (q_a0_greatests, .inl (cJ, 5000, .inr (.inl o_30))), (q_a0_rests, .inl (cJ, 5000, .inr (.inl a0_rests_93_5))), (h_a0, .inr (6, [.ref q_a0_leasts, .ref q_a0_greatests, .ref q_a0_rests, .ref h_a0_squared, .long p1, .int y_1, .int o_31, .int o_32, .int o_33, .int o_34])), (q_a0_leasts, .inl (cJ, 5000, .inr (.inl o_29))), (h_a0_squared, .inr (0, [.ref q_a0_squared_words])), (q_a0_squared_words, .inl (cJ, 79, .inr (.inl a0_squared_words_93_5)))] := hD
                  have hP9 := hP.sub (ws' := [(h_a0, .inr (6, [.ref q_a0_leasts, .ref q_a0_greatests, .ref q_a0_rests, .ref h_a0_squared, .long p1, .int y_1, .int o_31, .int o_32, .int o_33, .int o_34])), (q_a0_leasts, .inl (cJ, 5000, .inr (.inl o_29))), (q_a0_greatests, .inl (cJ, 5000, .inr (.inl o_30))), (q_a0_rests, .inl (cJ, 5000, .inr (.inl a0_rests_93_5))), (h_a0_squared, .inr (0, [.ref q_a0_squared_words])), (q_a0_squared_words, .inl (cJ, 79, .inr (.inl a0_squared_words_93_5))), (h_a3, .inr (3, [.ref q_a3_table, .int a3_many])), (q_a3_table, .inl (cI, 9592, .inl a3_table))]) [4, 5, 2, 3, 6, 7, 0, 1] rfl
                  have hD9 := hD.sub (ws' := [(h_a0, .inr (6, [.ref q_a0_leasts, .ref q_a0_greatests, .ref q_a0_rests, .ref h_a0_squared, .long p1, .int y_1, .int o_31, .int o_32, .int o_33, .int o_34])), (q_a0_leasts, .inl (cJ, 5000, .inr (.inl o_29))), (q_a0_greatests, .inl (cJ, 5000, .inr (.inl o_30))), (q_a0_rests, .inl (cJ, 5000, .inr (.inl a0_rests_93_5))), (h_a0_squared, .inr (0, [.ref q_a0_squared_words])), (q_a0_squared_words, .inl (cJ, 79, .inr (.inl a0_squared_words_93_5))), (h_a3, .inr (3, [.ref q_a3_table, .int a3_many])), (q_a3_table, .inl (cI, 9592, .inl a3_table))]) [4, 5, 2, 3, 6, 7, 0, 1] (by decide) rfl
                  exact W.vret hx hb hr (fun t ht hW => ⟨⟨(p1, y_1, o_31, o_32, o_33, o_34, o_29, o_30, a0_rests_93_5, a0_squared_words_93_5), rfl, h, by rw [ht]; exact hP9, hD9⟩, hS.F ht⟩) hS.2.2 dX6_sieve_156
        exact key_93_5 _ (0 : Int32) a0_leasts_30_2 a0_greatests_30_2 a0_rests_30_2 o_2 (Nat.lt_succ_self _) h0_93_5 _ _ _ (lv_sub hl [0, 1, 2, 3] rfl) (hP.sub [0, 1, 2, 3, 4, 5, 6, 7] rfl) (hD.sub [0, 1, 2, 3, 4, 5, 6, 7] (by decide) rfl) hS
      · replace h := h.2 c_4
        refine lv_aload_n hx hb dX6_sieve_39 rfl (lv_at hl 1 rfl) ?_
        refine va_get (D := (dC, dI)) (ci := 6) (v := .ref q_a0_leasts) (C := RX6) (T := TX6) (N := 10) hx hb hts hin_X6 hown hK hP 0 rfl rfl 0 (by decide) hw_13 (fun _ h9 => h9) rfl dX6_sieve_40 ?_
        refine lv_iload hx hb dX6_sieve_43 (lv_at hl 0 rfl) ?_
        refine lv_lconst (v := (0 : Int64)) hx hb dX6_sieve_45 (by decide) ?_
        obtain ⟨hin_35, h⟩ := h
        refine va_last hx hb hK hP hD hS 1 1 rfl rfl hin_35 dX6_sieve_46 (fun H locs hP hD hS => ?_)
        have hP : va_P (dC, dI) vwCl [(h_a0, .inr (6, [.ref q_a0_leasts, .ref q_a0_greatests, .ref q_a0_rests, .ref h_a0_squared, .long p1, .int y_1, .int a0_primeCount, .int a0_gap, .int a0_twins, .int a0_squareFree])), (q_a0_leasts, .inl (cJ, 5000, .inr (.inl (vp_updL a0_leasts_30_2 l5_30_2.toNatClampNeg (0 : Int64))))), (q_a0_greatests, .inl (cJ, 5000, .inr (.inl a0_greatests_30_2))), (q_a0_rests, .inl (cJ, 5000, .inr (.inl a0_rests_30_2))), (h_a3, .inr (3, [.ref q_a3_table, .int a3_many])), (q_a3_table, .inl (cI, 9592, .inl a3_table)), (h_a0_squared, .inr (0, [.ref q_a0_squared_words])), (q_a0_squared_words, .inl (cJ, 79, .inr (.inl o_2)))] H := hP
        have hD : va_D A [(h_a0, .inr (6, [.ref q_a0_leasts, .ref q_a0_greatests, .ref q_a0_rests, .ref h_a0_squared, .long p1, .int y_1, .int a0_primeCount, .int a0_gap, .int a0_twins, .int a0_squareFree])), (q_a0_leasts, .inl (cJ, 5000, .inr (.inl (vp_updL a0_leasts_30_2 l5_30_2.toNatClampNeg (0 : Int64))))), (q_a0_greatests, .inl (cJ, 5000, .inr (.inl a0_greatests_30_2))), (q_a0_rests, .inl (cJ, 5000, .inr (.inl a0_rests_30_2))), (h_a3, .inr (3, [.ref q_a3_table, .int a3_many])), (q_a3_table, .inl (cI, 9592, .inl a3_table)), (h_a0_squared, .inr (0, [.ref q_a0_squared_words])), (q_a0_squared_words, .inl (cJ, 79, .inr (.inl o_2)))] := hD
        refine lv_aload_n hx hb dX6_sieve_47 rfl (lv_at hl 1 rfl) ?_
        refine va_get (D := (dC, dI)) (ci := 6) (v := .ref q_a0_greatests) (C := RX6) (T := TX6) (N := 10) hx hb hts hin_X6 hown hK hP 0 rfl rfl 1 (by decide) hw_14 (fun _ h9 => h9) rfl dX6_sieve_48 ?_
        refine lv_iload hx hb dX6_sieve_51 (lv_at hl 0 rfl) ?_
        refine lv_lconst (v := (0 : Int64)) hx hb dX6_sieve_53 (by decide) ?_
        obtain ⟨hin_36, h⟩ := h
        refine va_last hx hb hK hP hD hS 2 1 rfl rfl hin_36 dX6_sieve_54 (fun H locs hP hD hS => ?_)
        have hP : va_P (dC, dI) vwCl [(h_a0, .inr (6, [.ref q_a0_leasts, .ref q_a0_greatests, .ref q_a0_rests, .ref h_a0_squared, .long p1, .int y_1, .int a0_primeCount, .int a0_gap, .int a0_twins, .int a0_squareFree])), (q_a0_leasts, .inl (cJ, 5000, .inr (.inl (vp_updL a0_leasts_30_2 l5_30_2.toNatClampNeg (0 : Int64))))), (q_a0_greatests, .inl (cJ, 5000, .inr (.inl (vp_updL a0_greatests_30_2 l5_30_2.toNatClampNeg (0 : Int64))))), (q_a0_rests, .inl (cJ, 5000, .inr (.inl a0_rests_30_2))), (h_a3, .inr (3, [.ref q_a3_table, .int a3_many])), (q_a3_table, .inl (cI, 9592, .inl a3_table)), (h_a0_squared, .inr (0, [.ref q_a0_squared_words])), (q_a0_squared_words, .inl (cJ, 79, .inr (.inl o_2)))] H := hP
        have hD : va_D A [(h_a0, .inr (6, [.ref q_a0_leasts, .ref q_a0_greatests, .ref q_a0_rests, .ref h_a0_squared, .long p1, .int y_1, .int a0_primeCount, .int a0_gap, .int a0_twins, .int a0_squareFree])), (q_a0_leasts, .inl (cJ, 5000, .inr (.inl (vp_updL a0_leasts_30_2 l5_30_2.toNatClampNeg (0 : Int64))))), (q_a0_greatests, .inl (cJ, 5000, .inr (.inl (vp_updL a0_greatests_30_2 l5_30_2.toNatClampNeg (0 : Int64))))), (q_a0_rests, .inl (cJ, 5000, .inr (.inl a0_rests_30_2))), (h_a3, .inr (3, [.ref q_a3_table, .int a3_many])), (q_a3_table, .inl (cI, 9592, .inl a3_table)), (h_a0_squared, .inr (0, [.ref q_a0_squared_words])), (q_a0_squared_words, .inl (cJ, 79, .inr (.inl o_2)))] := hD
        refine lv_aload_n hx hb dX6_sieve_55 rfl (lv_at hl 1 rfl) ?_
        refine va_get (D := (dC, dI)) (ci := 6) (v := .ref q_a0_rests) (C := RX6) (T := TX6) (N := 10) hx hb hts hin_X6 hown hK hP 0 rfl rfl 2 (by decide) hw_15 (fun _ h9 => h9) rfl dX6_sieve_56 ?_
        refine lv_iload hx hb dX6_sieve_59 (lv_at hl 0 rfl) ?_
        refine lv_aload_n hx hb dX6_sieve_61 rfl (lv_at hl 1 rfl) ?_
        refine va_get (D := (dC, dI)) (ci := 6) (v := .long p1) (C := RX6) (T := TX6) (N := 10) hx hb hts hin_X6 hown hK hP 0 rfl rfl 4 (by decide) hw_0 (fun _ h9 => h9) rfl dX6_sieve_62 ?_
        refine lv_iload hx hb dX6_sieve_65 (lv_at hl 0 rfl) ?_
        refine lv_i2l hx hb dX6_sieve_67 rfl ?_
        refine lv_ladd hx hb dX6_sieve_68 ?_
        refine lv_topl (fun y_37 e_y_37 => ?_)
        replace h := h y_37 e_y_37
        obtain ⟨hin_38, h⟩ := h
        refine va_last hx hb hK hP hD hS 3 1 rfl rfl hin_38 dX6_sieve_69 (fun H locs hP hD hS => ?_)
        have hP : va_P (dC, dI) vwCl [(h_a0, .inr (6, [.ref q_a0_leasts, .ref q_a0_greatests, .ref q_a0_rests, .ref h_a0_squared, .long p1, .int y_1, .int a0_primeCount, .int a0_gap, .int a0_twins, .int a0_squareFree])), (q_a0_leasts, .inl (cJ, 5000, .inr (.inl (vp_updL a0_leasts_30_2 l5_30_2.toNatClampNeg (0 : Int64))))), (q_a0_greatests, .inl (cJ, 5000, .inr (.inl (vp_updL a0_greatests_30_2 l5_30_2.toNatClampNeg (0 : Int64))))), (q_a0_rests, .inl (cJ, 5000, .inr (.inl (vp_updL a0_rests_30_2 l5_30_2.toNatClampNeg y_37)))), (h_a3, .inr (3, [.ref q_a3_table, .int a3_many])), (q_a3_table, .inl (cI, 9592, .inl a3_table)), (h_a0_squared, .inr (0, [.ref q_a0_squared_words])), (q_a0_squared_words, .inl (cJ, 79, .inr (.inl o_2)))] H := hP
        have hD : va_D A [(h_a0, .inr (6, [.ref q_a0_leasts, .ref q_a0_greatests, .ref q_a0_rests, .ref h_a0_squared, .long p1, .int y_1, .int a0_primeCount, .int a0_gap, .int a0_twins, .int a0_squareFree])), (q_a0_leasts, .inl (cJ, 5000, .inr (.inl (vp_updL a0_leasts_30_2 l5_30_2.toNatClampNeg (0 : Int64))))), (q_a0_greatests, .inl (cJ, 5000, .inr (.inl (vp_updL a0_greatests_30_2 l5_30_2.toNatClampNeg (0 : Int64))))), (q_a0_rests, .inl (cJ, 5000, .inr (.inl (vp_updL a0_rests_30_2 l5_30_2.toNatClampNeg y_37)))), (h_a3, .inr (3, [.ref q_a3_table, .int a3_many])), (q_a3_table, .inl (cI, 9592, .inl a3_table)), (h_a0_squared, .inr (0, [.ref q_a0_squared_words])), (q_a0_squared_words, .inl (cJ, 79, .inr (.inl o_2)))] := hD
        obtain ⟨x5_39, e_x5_39⟩ : ∃ y : Int32, y = l5_30_2 + (1 : Int32) := ⟨_, rfl⟩
        replace h := h x5_39 e_x5_39
        refine lv_iinc (v := x5_39) (lv' := [(5, .int x5_39), (0, .ref h_a0), (4, .ref h_a3)]) hx hb dX6_sieve_70 hl (k := 0) rfl (by rw [e_x5_39]; rfl) (by decide) rfl (fun ls hl => ?_)
        refine lv_goto (tgt := 30) hx hb dX6_sieve_73 (by decide) ?_
        exact ih_30_2 x5_39 (vp_updL a0_leasts_30_2 l5_30_2.toNatClampNeg (0 : Int64)) (vp_updL a0_greatests_30_2 l5_30_2.toNatClampNeg (0 : Int64)) (vp_updL a0_rests_30_2 l5_30_2.toNatClampNeg y_37) (Nat.lt_of_lt_of_le h.2 (Nat.le_of_lt_succ hm_30_2)) h.1 _ _ _ (lv_sub hl [0, 1, 2] rfl) (hP.sub [0, 1, 2, 3, 4, 5, 6, 7] rfl) (hD.sub [0, 1, 2, 3, 4, 5, 6, 7] (by decide) rfl) hS
  exact key_30_2 _ (0 : Int32) a0_leasts a0_greatests a0_rests (Nat.lt_succ_self _) h0_30_2 _ _ _ (lv_sub hl [0, 1, 4] rfl) (hP.sub [0, 1, 2, 3, 4, 5, 6, 7] rfl) (hD.sub [0, 1, 2, 3, 4, 5, 6, 7] (by decide) rfl) hS
def wp_X6_leastOf (a0_leasts : Nat → Int64) (a0_many : Int32) (p1 : Int32) (Q : Int64 → Prop) : Prop :=
  ((p1 < (0 : Int32) → Q (0 : Int64)) ∧ (¬ p1 < (0 : Int32) → ((a0_many ≤ p1 → Q (0 : Int64)) ∧ (¬ a0_many ≤ p1 → (vp_in p1 5000 ∧ Q (a0_leasts p1.toNatClampNeg))))))
abbrev rm_X6_leastOf : Room := { frames := 0, cells := 0, slots := 0, locals := 0 }
abbrev qc_X6_leastOf (dC : Nat → ClassId) (dI : Nat → Nat → Nat) (cI cJ cZ : ClassId) (h_a0 : Nat) (a0_leasts : Nat → Int64) (q_a0_leasts : Nat) (w_a0_greatests : Value) (w_a0_rests : Value) (w_a0_squared : Value) (a0_from : Int64) (a0_many : Int32) (a0_primeCount : Int32) (a0_gap : Int32) (a0_twins : Int32) (a0_squareFree : Int32) (Q : Int64 → Prop) (A : Nat → Prop) : Array Value → State → Outcome → State → Prop := va_Ql (fun (r : Int64) (_ : Unit) => Q r) (post_ dC dI A (fun (u : Unit) => [(h_a0, .inr (6, [.ref q_a0_leasts, w_a0_greatests, w_a0_rests, w_a0_squared, .long a0_from, .int a0_many, .int a0_primeCount, .int a0_gap, .int a0_twins, .int a0_squareFree])), (q_a0_leasts, .inl (cJ, 5000, .inr (.inl a0_leasts)))])) A
set_option maxHeartbeats 4000000 in
set_option maxRecDepth 100000 in
theorem c_X6_leastOf (l : Launch) (dC : Nat → ClassId) (dI : Nat → Nat → Nat) (cI cJ cZ : ClassId) (sz : Nat) (h_a0 : Nat) (a0_leasts : Nat → Int64) (q_a0_leasts : Nat) (w_a0_greatests : Value) (w_a0_rests : Value) (w_a0_squared : Value) (a0_from : Int64) (a0_many : Int32) (a0_primeCount : Int32) (a0_gap : Int32) (a0_twins : Int32) (a0_squareFree : Int32) (p1 : Int32) (Q : Int64 → Prop) (hQ : wp_X6_leastOf a0_leasts a0_many p1 Q) : Met l yX6_leastOf wsX6_leastOf rm_X6_leastOf (pre_ dC dI cI cJ cZ [.ref h_a0, .int p1] [(h_a0, .inr (6, [.ref q_a0_leasts, w_a0_greatests, w_a0_rests, w_a0_squared, .long a0_from, .int a0_many, .int a0_primeCount, .int a0_gap, .int a0_twins, .int a0_squareFree])), (q_a0_leasts, .inl (cJ, 5000, .inr (.inl a0_leasts)))] sz) (qc_X6_leastOf dC dI cI cJ cZ h_a0 a0_leasts q_a0_leasts w_a0_greatests w_a0_rests w_a0_squared a0_from a0_many a0_primeCount a0_gap a0_twins a0_squareFree Q (va_A [(h_a0, .inr (6, [.ref q_a0_leasts, w_a0_greatests, w_a0_rests, w_a0_squared, .long a0_from, .int a0_many, .int a0_primeCount, .int a0_gap, .int a0_twins, .int a0_squareFree])), (q_a0_leasts, .inl (cJ, 5000, .inr (.inl a0_leasts)))] sz)) 0 0 (va_A [(h_a0, .inr (6, [.ref q_a0_leasts, w_a0_greatests, w_a0_rests, w_a0_squared, .long a0_from, .int a0_many, .int a0_primeCount, .int a0_gap, .int a0_twins, .int a0_squareFree])), (q_a0_leasts, .inl (cJ, 5000, .inr (.inl a0_leasts)))] sz) := by
  refine Met.ofW (cc := cX6_leastOf) (maxL := 2) (ret := (some .long)) (by decide) rfl ?_
  intro p e s m args below meth c s₁ B hml hv
  obtain ⟨rfl, hsz, hP, hK, hN, hD0⟩ := hv
  have hx := B.exec
  have hb := B.bytes
  have hr := B.returns
  have hts := atoms_spec (ws := wsX6_leastOf) B.pre
  have hown : s.vm.findClass RX6 = some m.cls := findClass_of_methodNamed B.named
  subst hsz
  have hD := hD0.self (sz := s.heap.size)
  generalize hAe : va_A [(h_a0, .inr (6, [.ref q_a0_leasts, w_a0_greatests, w_a0_rests, w_a0_squared, .long a0_from, .int a0_many, .int a0_primeCount, .int a0_gap, .int a0_twins, .int a0_squareFree])), (q_a0_leasts, .inl (cJ, 5000, .inr (.inl a0_leasts)))] s.heap.size = A at hD ⊢
  have hA : ∀ q : Nat, s.heap.size ≤ q → A q := fun q h => by rw [← hAe]; exact Or.inr h
  have hS : va_S A s.heap s.heap [] := va_S.rf
  have hl := lv_entry ([.ref h_a0, .int p1]) (n := 2) (Nat.le_of_ble_eq_true rfl)
  rw [lg_entry_eq]
  generalize (lg_sl ([.ref h_a0, .int p1]) ++ List.replicate (2 - (lg_sl ([.ref h_a0, .int p1])).length) Slot.unset).toArray = ls at hl ⊢
  have hl : lv_has ls 2 [(0, .ref h_a0), (1, .int p1)] := hl
  have h := hQ
  unfold wp_X6_leastOf at h
  have hw_0 := hts (.fieldLink RX6 34 "NumberSieves$Span" "many" "I") (by decide +kernel)
  have hin_X6 : ∀ w ∈ wsX60, w ∈ wsX6_leastOf := by decide +kernel
  have hw_2 := hts (.fieldLink RX6 9 "NumberSieves$Span" "leasts" "[J") (by decide +kernel)
  refine lv_iload_n hx hb dX6_leastOf_0 rfl (lv_at hl 1 rfl) ?_
  refine lv_if_lt (tgt := 21) hx hb dX6_leastOf_1 (by decide) (fun c_1 => ?_) (fun c_1 => ?_)
  · replace h := h.1 c_1
    refine lv_lconst (v := (0 : Int64)) hx hb dX6_leastOf_21 (by decide) ?_
    have hP9 := hP.sub (ws' := [(h_a0, .inr (6, [.ref q_a0_leasts, w_a0_greatests, w_a0_rests, w_a0_squared, .long a0_from, .int a0_many, .int a0_primeCount, .int a0_gap, .int a0_twins, .int a0_squareFree])), (q_a0_leasts, .inl (cJ, 5000, .inr (.inl a0_leasts)))]) [0, 1] rfl
    have hD9 := hD.sub (ws' := [(h_a0, .inr (6, [.ref q_a0_leasts, w_a0_greatests, w_a0_rests, w_a0_squared, .long a0_from, .int a0_many, .int a0_primeCount, .int a0_gap, .int a0_twins, .int a0_squareFree])), (q_a0_leasts, .inl (cJ, 5000, .inr (.inl a0_leasts)))]) [0, 1] (by decide) rfl
    exact W.lret (v := (0 : Int64)) hx hb hr (fun t ht hW => ⟨⟨_, (), rfl, h, by rw [ht]; exact hP9, hD9⟩, hS.F ht⟩) hS.2.2 dX6_leastOf_22
  · replace h := h.2 c_1
    refine lv_iload_n hx hb dX6_leastOf_4 rfl (lv_at hl 1 rfl) ?_
    refine lv_aload_n hx hb dX6_leastOf_5 rfl (lv_at hl 0 rfl) ?_
    refine va_get (D := (dC, dI)) (ci := 6) (v := .int a0_many) (C := RX6) (T := TX6) (N := 10) hx hb hts hin_X6 hown hK hP 0 rfl rfl 5 (by decide) hw_0 (fun _ h9 => h9) rfl dX6_leastOf_6 ?_
    refine lv_icmp_ge (tgt := 21) hx hb dX6_leastOf_9 (by decide) (fun c_2 => ?_) (fun c_2 => ?_)
    · replace h := h.1 c_2
      refine lv_lconst (v := (0 : Int64)) hx hb dX6_leastOf_21 (by decide) ?_
      have hP9 := hP.sub (ws' := [(h_a0, .inr (6, [.ref q_a0_leasts, w_a0_greatests, w_a0_rests, w_a0_squared, .long a0_from, .int a0_many, .int a0_primeCount, .int a0_gap, .int a0_twins, .int a0_squareFree])), (q_a0_leasts, .inl (cJ, 5000, .inr (.inl a0_leasts)))]) [0, 1] rfl
      have hD9 := hD.sub (ws' := [(h_a0, .inr (6, [.ref q_a0_leasts, w_a0_greatests, w_a0_rests, w_a0_squared, .long a0_from, .int a0_many, .int a0_primeCount, .int a0_gap, .int a0_twins, .int a0_squareFree])), (q_a0_leasts, .inl (cJ, 5000, .inr (.inl a0_leasts)))]) [0, 1] (by decide) rfl
      exact W.lret (v := (0 : Int64)) hx hb hr (fun t ht hW => ⟨⟨_, (), rfl, h, by rw [ht]; exact hP9, hD9⟩, hS.F ht⟩) hS.2.2 dX6_leastOf_22
    · replace h := h.2 c_2
      refine lv_aload_n hx hb dX6_leastOf_12 rfl (lv_at hl 0 rfl) ?_
      refine va_get (D := (dC, dI)) (ci := 6) (v := .ref q_a0_leasts) (C := RX6) (T := TX6) (N := 10) hx hb hts hin_X6 hown hK hP 0 rfl rfl 0 (by decide) hw_2 (fun _ h9 => h9) rfl dX6_leastOf_13 ?_
      refine lv_iload_n hx hb dX6_leastOf_16 rfl (lv_at hl 1 rfl) ?_
      obtain ⟨hin_3, h⟩ := h
      refine va_lald hx hb hK hP 1 1 rfl rfl hin_3 dX6_leastOf_17 ?_
      refine lv_goto (tgt := 22) hx hb dX6_leastOf_18 (by decide) ?_
      have hP9 := hP.sub (ws' := [(h_a0, .inr (6, [.ref q_a0_leasts, w_a0_greatests, w_a0_rests, w_a0_squared, .long a0_from, .int a0_many, .int a0_primeCount, .int a0_gap, .int a0_twins, .int a0_squareFree])), (q_a0_leasts, .inl (cJ, 5000, .inr (.inl a0_leasts)))]) [0, 1] rfl
      have hD9 := hD.sub (ws' := [(h_a0, .inr (6, [.ref q_a0_leasts, w_a0_greatests, w_a0_rests, w_a0_squared, .long a0_from, .int a0_many, .int a0_primeCount, .int a0_gap, .int a0_twins, .int a0_squareFree])), (q_a0_leasts, .inl (cJ, 5000, .inr (.inl a0_leasts)))]) [0, 1] (by decide) rfl
      exact W.lret (v := (a0_leasts p1.toNatClampNeg)) hx hb hr (fun t ht hW => ⟨⟨_, (), rfl, h, by rw [ht]; exact hP9, hD9⟩, hS.F ht⟩) hS.2.2 dX6_leastOf_22
def wp_X6_smoothBy (a0_greatests : Nat → Int64) (a0_many : Int32) (p1 : Int64) (Q : Int32 → Prop) : Prop :=
  (∃ (I_5_0 : Int32 → Int32 → Prop) (m_5_0 : Int32 → Int32 → Nat), I_5_0 (0 : Int32) (0 : Int32) ∧ ∀ (l4_5_0 : Int32) (l3_5_0 : Int32), I_5_0 l4_5_0 l3_5_0 → ((a0_many ≤ l4_5_0 → Q l3_5_0) ∧ (¬ a0_many ≤ l4_5_0 → (vp_in l4_5_0 5000 ∧ ((p1 < (a0_greatests l4_5_0.toNatClampNeg) → (∀ x3_5 : Int32, x3_5 = (l3_5_0 + (0 : Int32)) → (∀ x4_6 : Int32, x4_6 = l4_5_0 + (1 : Int32) → (I_5_0 x4_6 x3_5 ∧ m_5_0 x4_6 x3_5 < m_5_0 l4_5_0 l3_5_0)))) ∧ (¬ p1 < (a0_greatests l4_5_0.toNatClampNeg) → (∀ x3_7 : Int32, x3_7 = (l3_5_0 + (1 : Int32)) → (∀ x4_8 : Int32, x4_8 = l4_5_0 + (1 : Int32) → (I_5_0 x4_8 x3_7 ∧ m_5_0 x4_8 x3_7 < m_5_0 l4_5_0 l3_5_0)))))))))
abbrev rm_X6_smoothBy : Room := { frames := 0, cells := 0, slots := 0, locals := 0 }
abbrev qc_X6_smoothBy (dC : Nat → ClassId) (dI : Nat → Nat → Nat) (cI cJ cZ : ClassId) (h_a0 : Nat) (w_a0_leasts : Value) (a0_greatests : Nat → Int64) (q_a0_greatests : Nat) (w_a0_rests : Value) (w_a0_squared : Value) (a0_from : Int64) (a0_many : Int32) (a0_primeCount : Int32) (a0_gap : Int32) (a0_twins : Int32) (a0_squareFree : Int32) (Q : Int32 → Prop) (A : Nat → Prop) : Array Value → State → Outcome → State → Prop := va_Qi (fun (r : Int32) (_ : Unit) => Q r) (post_ dC dI A (fun (u : Unit) => [(h_a0, .inr (6, [w_a0_leasts, .ref q_a0_greatests, w_a0_rests, w_a0_squared, .long a0_from, .int a0_many, .int a0_primeCount, .int a0_gap, .int a0_twins, .int a0_squareFree])), (q_a0_greatests, .inl (cJ, 5000, .inr (.inl a0_greatests)))])) A
set_option maxHeartbeats 4000000 in
set_option maxRecDepth 100000 in
theorem c_X6_smoothBy (l : Launch) (dC : Nat → ClassId) (dI : Nat → Nat → Nat) (cI cJ cZ : ClassId) (sz : Nat) (h_a0 : Nat) (w_a0_leasts : Value) (a0_greatests : Nat → Int64) (q_a0_greatests : Nat) (w_a0_rests : Value) (w_a0_squared : Value) (a0_from : Int64) (a0_many : Int32) (a0_primeCount : Int32) (a0_gap : Int32) (a0_twins : Int32) (a0_squareFree : Int32) (p1 : Int64) (Q : Int32 → Prop) (hQ : wp_X6_smoothBy a0_greatests a0_many p1 Q) : Met l yX6_smoothBy wsX6_smoothBy rm_X6_smoothBy (pre_ dC dI cI cJ cZ [.ref h_a0, .long p1] [(h_a0, .inr (6, [w_a0_leasts, .ref q_a0_greatests, w_a0_rests, w_a0_squared, .long a0_from, .int a0_many, .int a0_primeCount, .int a0_gap, .int a0_twins, .int a0_squareFree])), (q_a0_greatests, .inl (cJ, 5000, .inr (.inl a0_greatests)))] sz) (qc_X6_smoothBy dC dI cI cJ cZ h_a0 w_a0_leasts a0_greatests q_a0_greatests w_a0_rests w_a0_squared a0_from a0_many a0_primeCount a0_gap a0_twins a0_squareFree Q (va_A [(h_a0, .inr (6, [w_a0_leasts, .ref q_a0_greatests, w_a0_rests, w_a0_squared, .long a0_from, .int a0_many, .int a0_primeCount, .int a0_gap, .int a0_twins, .int a0_squareFree])), (q_a0_greatests, .inl (cJ, 5000, .inr (.inl a0_greatests)))] sz)) 0 0 (va_A [(h_a0, .inr (6, [w_a0_leasts, .ref q_a0_greatests, w_a0_rests, w_a0_squared, .long a0_from, .int a0_many, .int a0_primeCount, .int a0_gap, .int a0_twins, .int a0_squareFree])), (q_a0_greatests, .inl (cJ, 5000, .inr (.inl a0_greatests)))] sz) := by
  refine Met.ofW (cc := cX6_smoothBy) (maxL := 5) (ret := (some .int)) (by decide) rfl ?_
  intro p e s m args below meth c s₁ B hml hv
  obtain ⟨rfl, hsz, hP, hK, hN, hD0⟩ := hv
  have hx := B.exec
  have hb := B.bytes
  have hr := B.returns
  have hts := atoms_spec (ws := wsX6_smoothBy) B.pre
  have hown : s.vm.findClass RX6 = some m.cls := findClass_of_methodNamed B.named
  subst hsz
  have hD := hD0.self (sz := s.heap.size)
  generalize hAe : va_A [(h_a0, .inr (6, [w_a0_leasts, .ref q_a0_greatests, w_a0_rests, w_a0_squared, .long a0_from, .int a0_many, .int a0_primeCount, .int a0_gap, .int a0_twins, .int a0_squareFree])), (q_a0_greatests, .inl (cJ, 5000, .inr (.inl a0_greatests)))] s.heap.size = A at hD ⊢
  have hA : ∀ q : Nat, s.heap.size ≤ q → A q := fun q h => by rw [← hAe]; exact Or.inr h
  have hS : va_S A s.heap s.heap [] := va_S.rf
  have hl := lv_entry ([.ref h_a0, .long p1]) (n := 5) (Nat.le_of_ble_eq_true rfl)
  rw [lg_entry_eq]
  generalize (lg_sl ([.ref h_a0, .long p1]) ++ List.replicate (5 - (lg_sl ([.ref h_a0, .long p1])).length) Slot.unset).toArray = ls at hl ⊢
  have hl : lv_has ls 5 [(0, .ref h_a0), (1, .long p1)] := hl
  have h := hQ
  unfold wp_X6_smoothBy at h
  have hw_0 := hts (.fieldLink RX6 34 "NumberSieves$Span" "many" "I") (by decide +kernel)
  have hin_X6 : ∀ w ∈ wsX60, w ∈ wsX6_smoothBy := by decide +kernel
  have hw_2 := hts (.fieldLink RX6 15 "NumberSieves$Span" "greatests" "[J") (by decide +kernel)
  refine lv_iconst (v := (0 : Int32)) hx hb dX6_smoothBy_0 (by decide) ?_
  refine lv_istore_n (lv' := [(3, .int (0 : Int32)), (0, .ref h_a0), (1, .long p1)]) hx hb dX6_smoothBy_1 rfl hl (by decide) rfl (fun ls hl => ?_)
  refine lv_iconst (v := (0 : Int32)) hx hb dX6_smoothBy_2 (by decide) ?_
  refine lv_istore (lv' := [(4, .int (0 : Int32)), (3, .int (0 : Int32)), (0, .ref h_a0), (1, .long p1)]) hx hb dX6_smoothBy_3 hl (by decide) rfl (fun ls hl => ?_)
  obtain ⟨I_5_0, m_5_0, h0_5_0, hs_5_0⟩ := h
  have key_5_0 : ∀ (n : Nat) (l4_5_0 : Int32) (l3_5_0 : Int32), m_5_0 l4_5_0 l3_5_0 < n → I_5_0 l4_5_0 l3_5_0 → ∀ (ls : Array Slot) (H : Heap) (locs : List Loc), lv_has ls 5 [(4, .int l4_5_0), (3, .int l3_5_0), (0, .ref h_a0), (1, .long p1)] → va_P (dC, dI) vwCl [(h_a0, .inr (6, [w_a0_leasts, .ref q_a0_greatests, w_a0_rests, w_a0_squared, .long a0_from, .int a0_many, .int a0_primeCount, .int a0_gap, .int a0_twins, .int a0_squareFree])), (q_a0_greatests, .inl (cJ, 5000, .inr (.inl a0_greatests)))] H → va_D A [(h_a0, .inr (6, [w_a0_leasts, .ref q_a0_greatests, w_a0_rests, w_a0_squared, .long a0_from, .int a0_many, .int a0_primeCount, .int a0_gap, .int a0_twins, .int a0_squareFree])), (q_a0_greatests, .inl (cJ, 5000, .inr (.inl a0_greatests)))] → va_S A s.heap H locs → W p l e (headSpec wsX6_smoothBy rm_X6_smoothBy).room s m ([.ref h_a0, .long p1] : List Value).toArray below meth c H locs 0 0 (MQ below (qc_X6_smoothBy dC dI cI cJ cZ h_a0 w_a0_leasts a0_greatests q_a0_greatests w_a0_rests w_a0_squared a0_from a0_many a0_primeCount a0_gap a0_twins a0_squareFree Q A) ([.ref h_a0, .long p1] : List Value).toArray s 0 0 A) (F0 m 5 ls []) := by
    intro n
    induction n with
    | zero =>
      intro l4_5_0 l3_5_0 hm
      exact absurd hm (Nat.not_lt_zero _)
    | succ n ih_5_0 =>
      intro l4_5_0 l3_5_0 hm_5_0 hI ls H locs hl hP hD hS
      have h := hs_5_0 l4_5_0 l3_5_0 hI
      refine lv_iload hx hb dX6_smoothBy_5 (lv_at hl 0 rfl) ?_
      refine lv_aload_n hx hb dX6_smoothBy_7 rfl (lv_at hl 2 rfl) ?_
      refine va_get (D := (dC, dI)) (ci := 6) (v := .int a0_many) (C := RX6) (T := TX6) (N := 10) hx hb hts hin_X6 hown hK hP 0 rfl rfl 5 (by decide) hw_0 (fun _ h9 => h9) rfl dX6_smoothBy_8 ?_
      refine lv_icmp_ge (tgt := 40) hx hb dX6_smoothBy_11 (by decide) (fun c_2 => ?_) (fun c_2 => ?_)
      · replace h := h.1 c_2
        refine lv_iload_n hx hb dX6_smoothBy_40 rfl (lv_at hl 1 rfl) ?_
        have hP9 := hP.sub (ws' := [(h_a0, .inr (6, [w_a0_leasts, .ref q_a0_greatests, w_a0_rests, w_a0_squared, .long a0_from, .int a0_many, .int a0_primeCount, .int a0_gap, .int a0_twins, .int a0_squareFree])), (q_a0_greatests, .inl (cJ, 5000, .inr (.inl a0_greatests)))]) [0, 1] rfl
        have hD9 := hD.sub (ws' := [(h_a0, .inr (6, [w_a0_leasts, .ref q_a0_greatests, w_a0_rests, w_a0_squared, .long a0_from, .int a0_many, .int a0_primeCount, .int a0_gap, .int a0_twins, .int a0_squareFree])), (q_a0_greatests, .inl (cJ, 5000, .inr (.inl a0_greatests)))]) [0, 1] (by decide) rfl
        exact W.iret (v := l3_5_0) hx hb hr (fun t ht hW => ⟨⟨_, (), rfl, h, by rw [ht]; exact hP9, hD9⟩, hS.F ht⟩) hS.2.2 dX6_smoothBy_41
      · replace h := h.2 c_2
        refine lv_iload_n hx hb dX6_smoothBy_14 rfl (lv_at hl 1 rfl) ?_
        refine lv_aload_n hx hb dX6_smoothBy_15 rfl (lv_at hl 2 rfl) ?_
        refine va_get (D := (dC, dI)) (ci := 6) (v := .ref q_a0_greatests) (C := RX6) (T := TX6) (N := 10) hx hb hts hin_X6 hown hK hP 0 rfl rfl 1 (by decide) hw_2 (fun _ h9 => h9) rfl dX6_smoothBy_16 ?_
        refine lv_iload hx hb dX6_smoothBy_19 (lv_at hl 0 rfl) ?_
        obtain ⟨hin_3, h⟩ := h
        refine va_lald hx hb hK hP 1 1 rfl rfl hin_3 dX6_smoothBy_21 ?_
        refine lv_lload_n hx hb dX6_smoothBy_22 rfl (lv_at hl 3 rfl) ?_
        refine W.lcmp hx hb dX6_smoothBy_23 ?_
        refine lv_if_gt (tgt := 31) hx hb dX6_smoothBy_24 (by decide) (fun c_4 => ?_) (fun c_4 => ?_)
        · replace c_4 := (lg_cmp_gt _ _).mp c_4
          replace h := h.1 c_4
          refine lv_iconst (v := (0 : Int32)) hx hb dX6_smoothBy_31 (by decide) ?_
          refine lv_iadd hx hb dX6_smoothBy_32 ?_
          refine lv_topi (fun x3_5 e_x3_5 => ?_)
          replace h := h x3_5 e_x3_5
          refine lv_istore_n (lv' := [(3, .int x3_5), (4, .int l4_5_0), (0, .ref h_a0), (1, .long p1)]) hx hb dX6_smoothBy_33 rfl hl (by decide) rfl (fun ls hl => ?_)
          obtain ⟨x4_6, e_x4_6⟩ : ∃ y : Int32, y = l4_5_0 + (1 : Int32) := ⟨_, rfl⟩
          replace h := h x4_6 e_x4_6
          refine lv_iinc (v := x4_6) (lv' := [(4, .int x4_6), (3, .int x3_5), (0, .ref h_a0), (1, .long p1)]) hx hb dX6_smoothBy_34 hl (k := 1) rfl (by rw [e_x4_6]; rfl) (by decide) rfl (fun ls hl => ?_)
          refine lv_goto (tgt := 5) hx hb dX6_smoothBy_37 (by decide) ?_
          exact ih_5_0 x4_6 x3_5 (Nat.lt_of_lt_of_le h.2 (Nat.le_of_lt_succ hm_5_0)) h.1 _ _ _ (lv_sub hl [0, 1, 2, 3] rfl) (hP.sub [0, 1] rfl) (hD.sub [0, 1] (by decide) rfl) hS
        · replace c_4 := lc_ngt c_4
          replace h := h.2 c_4
          refine lv_iconst (v := (1 : Int32)) hx hb dX6_smoothBy_27 (by decide) ?_
          refine lv_goto (tgt := 32) hx hb dX6_smoothBy_28 (by decide) ?_
          refine lv_iadd hx hb dX6_smoothBy_32 ?_
          refine lv_topi (fun x3_7 e_x3_7 => ?_)
          replace h := h x3_7 e_x3_7
          refine lv_istore_n (lv' := [(3, .int x3_7), (4, .int l4_5_0), (0, .ref h_a0), (1, .long p1)]) hx hb dX6_smoothBy_33 rfl hl (by decide) rfl (fun ls hl => ?_)
          obtain ⟨x4_8, e_x4_8⟩ : ∃ y : Int32, y = l4_5_0 + (1 : Int32) := ⟨_, rfl⟩
          replace h := h x4_8 e_x4_8
          refine lv_iinc (v := x4_8) (lv' := [(4, .int x4_8), (3, .int x3_7), (0, .ref h_a0), (1, .long p1)]) hx hb dX6_smoothBy_34 hl (k := 1) rfl (by rw [e_x4_8]; rfl) (by decide) rfl (fun ls hl => ?_)
          refine lv_goto (tgt := 5) hx hb dX6_smoothBy_37 (by decide) ?_
          exact ih_5_0 x4_8 x3_7 (Nat.lt_of_lt_of_le h.2 (Nat.le_of_lt_succ hm_5_0)) h.1 _ _ _ (lv_sub hl [0, 1, 2, 3] rfl) (hP.sub [0, 1] rfl) (hD.sub [0, 1] (by decide) rfl) hS
  exact key_5_0 _ (0 : Int32) (0 : Int32) (Nat.lt_succ_self _) h0_5_0 _ _ _ (lv_sub hl [0, 1, 2, 3] rfl) (hP.sub [0, 1] rfl) (hD.sub [0, 1] (by decide) rfl) hS
def wp_X6_roughBy (a0_leasts : Nat → Int64) (a0_from : Int64) (a0_many : Int32) (p1 : Int64) (Q : Int32 → Prop) : Prop :=
  (∃ (I_5_0 : Int32 → Int32 → Prop) (m_5_0 : Int32 → Int32 → Nat), I_5_0 (0 : Int32) (0 : Int32) ∧ ∀ (l4_5_0 : Int32) (l3_5_0 : Int32), I_5_0 l4_5_0 l3_5_0 → ((a0_many ≤ l4_5_0 → Q l3_5_0) ∧ (¬ a0_many ≤ l4_5_0 → (((a0_from + l4_5_0.toInt64) = (1 : Int64) → (∀ x3_4 : Int32, x3_4 = (l3_5_0 + (1 : Int32)) → (∀ x4_5 : Int32, x4_5 = l4_5_0 + (1 : Int32) → (I_5_0 x4_5 x3_4 ∧ m_5_0 x4_5 x3_4 < m_5_0 l4_5_0 l3_5_0)))) ∧ (¬ (a0_from + l4_5_0.toInt64) = (1 : Int64) → (vp_in l4_5_0 5000 ∧ (((a0_leasts l4_5_0.toNatClampNeg) ≤ p1 → (∀ x3_8 : Int32, x3_8 = (l3_5_0 + (0 : Int32)) → (∀ x4_9 : Int32, x4_9 = l4_5_0 + (1 : Int32) → (I_5_0 x4_9 x3_8 ∧ m_5_0 x4_9 x3_8 < m_5_0 l4_5_0 l3_5_0)))) ∧ (¬ (a0_leasts l4_5_0.toNatClampNeg) ≤ p1 → (∀ x3_10 : Int32, x3_10 = (l3_5_0 + (1 : Int32)) → (∀ x4_11 : Int32, x4_11 = l4_5_0 + (1 : Int32) → (I_5_0 x4_11 x3_10 ∧ m_5_0 x4_11 x3_10 < m_5_0 l4_5_0 l3_5_0)))))))))))
abbrev rm_X6_roughBy : Room := { frames := 0, cells := 0, slots := 0, locals := 0 }
abbrev qc_X6_roughBy (dC : Nat → ClassId) (dI : Nat → Nat → Nat) (cI cJ cZ : ClassId) (h_a0 : Nat) (a0_leasts : Nat → Int64) (q_a0_leasts : Nat) (w_a0_greatests : Value) (w_a0_rests : Value) (w_a0_squared : Value) (a0_from : Int64) (a0_many : Int32) (a0_primeCount : Int32) (a0_gap : Int32) (a0_twins : Int32) (a0_squareFree : Int32) (Q : Int32 → Prop) (A : Nat → Prop) : Array Value → State → Outcome → State → Prop := va_Qi (fun (r : Int32) (_ : Unit) => Q r) (post_ dC dI A (fun (u : Unit) => [(h_a0, .inr (6, [.ref q_a0_leasts, w_a0_greatests, w_a0_rests, w_a0_squared, .long a0_from, .int a0_many, .int a0_primeCount, .int a0_gap, .int a0_twins, .int a0_squareFree])), (q_a0_leasts, .inl (cJ, 5000, .inr (.inl a0_leasts)))])) A
set_option maxHeartbeats 4000000 in
set_option maxRecDepth 100000 in
theorem c_X6_roughBy (l : Launch) (dC : Nat → ClassId) (dI : Nat → Nat → Nat) (cI cJ cZ : ClassId) (sz : Nat) (h_a0 : Nat) (a0_leasts : Nat → Int64) (q_a0_leasts : Nat) (w_a0_greatests : Value) (w_a0_rests : Value) (w_a0_squared : Value) (a0_from : Int64) (a0_many : Int32) (a0_primeCount : Int32) (a0_gap : Int32) (a0_twins : Int32) (a0_squareFree : Int32) (p1 : Int64) (Q : Int32 → Prop) (hQ : wp_X6_roughBy a0_leasts a0_from a0_many p1 Q) : Met l yX6_roughBy wsX6_roughBy rm_X6_roughBy (pre_ dC dI cI cJ cZ [.ref h_a0, .long p1] [(h_a0, .inr (6, [.ref q_a0_leasts, w_a0_greatests, w_a0_rests, w_a0_squared, .long a0_from, .int a0_many, .int a0_primeCount, .int a0_gap, .int a0_twins, .int a0_squareFree])), (q_a0_leasts, .inl (cJ, 5000, .inr (.inl a0_leasts)))] sz) (qc_X6_roughBy dC dI cI cJ cZ h_a0 a0_leasts q_a0_leasts w_a0_greatests w_a0_rests w_a0_squared a0_from a0_many a0_primeCount a0_gap a0_twins a0_squareFree Q (va_A [(h_a0, .inr (6, [.ref q_a0_leasts, w_a0_greatests, w_a0_rests, w_a0_squared, .long a0_from, .int a0_many, .int a0_primeCount, .int a0_gap, .int a0_twins, .int a0_squareFree])), (q_a0_leasts, .inl (cJ, 5000, .inr (.inl a0_leasts)))] sz)) 0 0 (va_A [(h_a0, .inr (6, [.ref q_a0_leasts, w_a0_greatests, w_a0_rests, w_a0_squared, .long a0_from, .int a0_many, .int a0_primeCount, .int a0_gap, .int a0_twins, .int a0_squareFree])), (q_a0_leasts, .inl (cJ, 5000, .inr (.inl a0_leasts)))] sz) := by
  refine Met.ofW (cc := cX6_roughBy) (maxL := 5) (ret := (some .int)) (by decide) rfl ?_
  intro p e s m args below meth c s₁ B hml hv
  obtain ⟨rfl, hsz, hP, hK, hN, hD0⟩ := hv
  have hx := B.exec
  have hb := B.bytes
  have hr := B.returns
  have hts := atoms_spec (ws := wsX6_roughBy) B.pre
  have hown : s.vm.findClass RX6 = some m.cls := findClass_of_methodNamed B.named
  subst hsz
  have hD := hD0.self (sz := s.heap.size)
  generalize hAe : va_A [(h_a0, .inr (6, [.ref q_a0_leasts, w_a0_greatests, w_a0_rests, w_a0_squared, .long a0_from, .int a0_many, .int a0_primeCount, .int a0_gap, .int a0_twins, .int a0_squareFree])), (q_a0_leasts, .inl (cJ, 5000, .inr (.inl a0_leasts)))] s.heap.size = A at hD ⊢
  have hA : ∀ q : Nat, s.heap.size ≤ q → A q := fun q h => by rw [← hAe]; exact Or.inr h
  have hS : va_S A s.heap s.heap [] := va_S.rf
  have hl := lv_entry ([.ref h_a0, .long p1]) (n := 5) (Nat.le_of_ble_eq_true rfl)
  rw [lg_entry_eq]
  generalize (lg_sl ([.ref h_a0, .long p1]) ++ List.replicate (5 - (lg_sl ([.ref h_a0, .long p1])).length) Slot.unset).toArray = ls at hl ⊢
  have hl : lv_has ls 5 [(0, .ref h_a0), (1, .long p1)] := hl
  have h := hQ
  unfold wp_X6_roughBy at h
  have hw_0 := hts (.fieldLink RX6 34 "NumberSieves$Span" "many" "I") (by decide +kernel)
  have hin_X6 : ∀ w ∈ wsX60, w ∈ wsX6_roughBy := by decide +kernel
  have hw_2 := hts (.fieldLink RX6 30 "NumberSieves$Span" "from" "J") (by decide +kernel)
  have hw_3 := hts (.fieldLink RX6 9 "NumberSieves$Span" "leasts" "[J") (by decide +kernel)
  refine lv_iconst (v := (0 : Int32)) hx hb dX6_roughBy_0 (by decide) ?_
  refine lv_istore_n (lv' := [(3, .int (0 : Int32)), (0, .ref h_a0), (1, .long p1)]) hx hb dX6_roughBy_1 rfl hl (by decide) rfl (fun ls hl => ?_)
  refine lv_iconst (v := (0 : Int32)) hx hb dX6_roughBy_2 (by decide) ?_
  refine lv_istore (lv' := [(4, .int (0 : Int32)), (3, .int (0 : Int32)), (0, .ref h_a0), (1, .long p1)]) hx hb dX6_roughBy_3 hl (by decide) rfl (fun ls hl => ?_)
  obtain ⟨I_5_0, m_5_0, h0_5_0, hs_5_0⟩ := h
  have key_5_0 : ∀ (n : Nat) (l4_5_0 : Int32) (l3_5_0 : Int32), m_5_0 l4_5_0 l3_5_0 < n → I_5_0 l4_5_0 l3_5_0 → ∀ (ls : Array Slot) (H : Heap) (locs : List Loc), lv_has ls 5 [(4, .int l4_5_0), (3, .int l3_5_0), (0, .ref h_a0), (1, .long p1)] → va_P (dC, dI) vwCl [(h_a0, .inr (6, [.ref q_a0_leasts, w_a0_greatests, w_a0_rests, w_a0_squared, .long a0_from, .int a0_many, .int a0_primeCount, .int a0_gap, .int a0_twins, .int a0_squareFree])), (q_a0_leasts, .inl (cJ, 5000, .inr (.inl a0_leasts)))] H → va_D A [(h_a0, .inr (6, [.ref q_a0_leasts, w_a0_greatests, w_a0_rests, w_a0_squared, .long a0_from, .int a0_many, .int a0_primeCount, .int a0_gap, .int a0_twins, .int a0_squareFree])), (q_a0_leasts, .inl (cJ, 5000, .inr (.inl a0_leasts)))] → va_S A s.heap H locs → W p l e (headSpec wsX6_roughBy rm_X6_roughBy).room s m ([.ref h_a0, .long p1] : List Value).toArray below meth c H locs 0 0 (MQ below (qc_X6_roughBy dC dI cI cJ cZ h_a0 a0_leasts q_a0_leasts w_a0_greatests w_a0_rests w_a0_squared a0_from a0_many a0_primeCount a0_gap a0_twins a0_squareFree Q A) ([.ref h_a0, .long p1] : List Value).toArray s 0 0 A) (F0 m 5 ls []) := by
    intro n
    induction n with
    | zero =>
      intro l4_5_0 l3_5_0 hm
      exact absurd hm (Nat.not_lt_zero _)
    | succ n ih_5_0 =>
      intro l4_5_0 l3_5_0 hm_5_0 hI ls H locs hl hP hD hS
      have h := hs_5_0 l4_5_0 l3_5_0 hI
      refine lv_iload hx hb dX6_roughBy_5 (lv_at hl 0 rfl) ?_
      refine lv_aload_n hx hb dX6_roughBy_7 rfl (lv_at hl 2 rfl) ?_
      refine va_get (D := (dC, dI)) (ci := 6) (v := .int a0_many) (C := RX6) (T := TX6) (N := 10) hx hb hts hin_X6 hown hK hP 0 rfl rfl 5 (by decide) hw_0 (fun _ h9 => h9) rfl dX6_roughBy_8 ?_
      refine lv_icmp_ge (tgt := 53) hx hb dX6_roughBy_11 (by decide) (fun c_2 => ?_) (fun c_2 => ?_)
      · replace h := h.1 c_2
        refine lv_iload_n hx hb dX6_roughBy_53 rfl (lv_at hl 1 rfl) ?_
        have hP9 := hP.sub (ws' := [(h_a0, .inr (6, [.ref q_a0_leasts, w_a0_greatests, w_a0_rests, w_a0_squared, .long a0_from, .int a0_many, .int a0_primeCount, .int a0_gap, .int a0_twins, .int a0_squareFree])), (q_a0_leasts, .inl (cJ, 5000, .inr (.inl a0_leasts)))]) [0, 1] rfl
        have hD9 := hD.sub (ws' := [(h_a0, .inr (6, [.ref q_a0_leasts, w_a0_greatests, w_a0_rests, w_a0_squared, .long a0_from, .int a0_many, .int a0_primeCount, .int a0_gap, .int a0_twins, .int a0_squareFree])), (q_a0_leasts, .inl (cJ, 5000, .inr (.inl a0_leasts)))]) [0, 1] (by decide) rfl
        exact W.iret (v := l3_5_0) hx hb hr (fun t ht hW => ⟨⟨_, (), rfl, h, by rw [ht]; exact hP9, hD9⟩, hS.F ht⟩) hS.2.2 dX6_roughBy_54
      · replace h := h.2 c_2
        refine lv_iload_n hx hb dX6_roughBy_14 rfl (lv_at hl 1 rfl) ?_
        refine lv_aload_n hx hb dX6_roughBy_15 rfl (lv_at hl 2 rfl) ?_
        refine va_get (D := (dC, dI)) (ci := 6) (v := .long a0_from) (C := RX6) (T := TX6) (N := 10) hx hb hts hin_X6 hown hK hP 0 rfl rfl 4 (by decide) hw_2 (fun _ h9 => h9) rfl dX6_roughBy_16 ?_
        refine lv_iload hx hb dX6_roughBy_19 (lv_at hl 0 rfl) ?_
        refine lv_i2l hx hb dX6_roughBy_21 rfl ?_
        refine lv_ladd hx hb dX6_roughBy_22 ?_
        refine lv_lconst (v := (1 : Int64)) hx hb dX6_roughBy_23 (by decide) ?_
        refine W.lcmp hx hb dX6_roughBy_24 ?_
        refine lv_if_eq (tgt := 40) hx hb dX6_roughBy_25 (by decide) (fun c_3 => ?_) (fun c_3 => ?_)
        · replace c_3 := (lg_cmp_eq _ _).mp c_3
          replace h := h.1 c_3
          refine lv_iconst (v := (1 : Int32)) hx hb dX6_roughBy_40 (by decide) ?_
          refine lv_goto (tgt := 45) hx hb dX6_roughBy_41 (by decide) ?_
          refine lv_iadd hx hb dX6_roughBy_45 ?_
          refine lv_topi (fun x3_4 e_x3_4 => ?_)
          replace h := h x3_4 e_x3_4
          refine lv_istore_n (lv' := [(3, .int x3_4), (4, .int l4_5_0), (0, .ref h_a0), (1, .long p1)]) hx hb dX6_roughBy_46 rfl hl (by decide) rfl (fun ls hl => ?_)
          obtain ⟨x4_5, e_x4_5⟩ : ∃ y : Int32, y = l4_5_0 + (1 : Int32) := ⟨_, rfl⟩
          replace h := h x4_5 e_x4_5
          refine lv_iinc (v := x4_5) (lv' := [(4, .int x4_5), (3, .int x3_4), (0, .ref h_a0), (1, .long p1)]) hx hb dX6_roughBy_47 hl (k := 1) rfl (by rw [e_x4_5]; rfl) (by decide) rfl (fun ls hl => ?_)
          refine lv_goto (tgt := 5) hx hb dX6_roughBy_50 (by decide) ?_
          exact ih_5_0 x4_5 x3_4 (Nat.lt_of_lt_of_le h.2 (Nat.le_of_lt_succ hm_5_0)) h.1 _ _ _ (lv_sub hl [0, 1, 2, 3] rfl) (hP.sub [0, 1] rfl) (hD.sub [0, 1] (by decide) rfl) hS
        · replace c_3 := lc_neq c_3
          replace h := h.2 c_3
          refine lv_aload_n hx hb dX6_roughBy_28 rfl (lv_at hl 2 rfl) ?_
          refine va_get (D := (dC, dI)) (ci := 6) (v := .ref q_a0_leasts) (C := RX6) (T := TX6) (N := 10) hx hb hts hin_X6 hown hK hP 0 rfl rfl 0 (by decide) hw_3 (fun _ h9 => h9) rfl dX6_roughBy_29 ?_
          refine lv_iload hx hb dX6_roughBy_32 (lv_at hl 0 rfl) ?_
          obtain ⟨hin_6, h⟩ := h
          refine va_lald hx hb hK hP 1 1 rfl rfl hin_6 dX6_roughBy_34 ?_
          refine lv_lload_n hx hb dX6_roughBy_35 rfl (lv_at hl 3 rfl) ?_
          refine W.lcmp hx hb dX6_roughBy_36 ?_
          refine lv_if_le (tgt := 44) hx hb dX6_roughBy_37 (by decide) (fun c_7 => ?_) (fun c_7 => ?_)
          · replace c_7 := (lg_cmp_le _ _).mp c_7
            replace h := h.1 c_7
            refine lv_iconst (v := (0 : Int32)) hx hb dX6_roughBy_44 (by decide) ?_
            refine lv_iadd hx hb dX6_roughBy_45 ?_
            refine lv_topi (fun x3_8 e_x3_8 => ?_)
            replace h := h x3_8 e_x3_8
            refine lv_istore_n (lv' := [(3, .int x3_8), (4, .int l4_5_0), (0, .ref h_a0), (1, .long p1)]) hx hb dX6_roughBy_46 rfl hl (by decide) rfl (fun ls hl => ?_)
            obtain ⟨x4_9, e_x4_9⟩ : ∃ y : Int32, y = l4_5_0 + (1 : Int32) := ⟨_, rfl⟩
            replace h := h x4_9 e_x4_9
            refine lv_iinc (v := x4_9) (lv' := [(4, .int x4_9), (3, .int x3_8), (0, .ref h_a0), (1, .long p1)]) hx hb dX6_roughBy_47 hl (k := 1) rfl (by rw [e_x4_9]; rfl) (by decide) rfl (fun ls hl => ?_)
            refine lv_goto (tgt := 5) hx hb dX6_roughBy_50 (by decide) ?_
            exact ih_5_0 x4_9 x3_8 (Nat.lt_of_lt_of_le h.2 (Nat.le_of_lt_succ hm_5_0)) h.1 _ _ _ (lv_sub hl [0, 1, 2, 3] rfl) (hP.sub [0, 1] rfl) (hD.sub [0, 1] (by decide) rfl) hS
          · replace c_7 := lc_nle c_7
            replace h := h.2 c_7
            refine lv_iconst (v := (1 : Int32)) hx hb dX6_roughBy_40 (by decide) ?_
            refine lv_goto (tgt := 45) hx hb dX6_roughBy_41 (by decide) ?_
            refine lv_iadd hx hb dX6_roughBy_45 ?_
            refine lv_topi (fun x3_10 e_x3_10 => ?_)
            replace h := h x3_10 e_x3_10
            refine lv_istore_n (lv' := [(3, .int x3_10), (4, .int l4_5_0), (0, .ref h_a0), (1, .long p1)]) hx hb dX6_roughBy_46 rfl hl (by decide) rfl (fun ls hl => ?_)
            obtain ⟨x4_11, e_x4_11⟩ : ∃ y : Int32, y = l4_5_0 + (1 : Int32) := ⟨_, rfl⟩
            replace h := h x4_11 e_x4_11
            refine lv_iinc (v := x4_11) (lv' := [(4, .int x4_11), (3, .int x3_10), (0, .ref h_a0), (1, .long p1)]) hx hb dX6_roughBy_47 hl (k := 1) rfl (by rw [e_x4_11]; rfl) (by decide) rfl (fun ls hl => ?_)
            refine lv_goto (tgt := 5) hx hb dX6_roughBy_50 (by decide) ?_
            exact ih_5_0 x4_11 x3_10 (Nat.lt_of_lt_of_le h.2 (Nat.le_of_lt_succ hm_5_0)) h.1 _ _ _ (lv_sub hl [0, 1, 2, 3] rfl) (hP.sub [0, 1] rfl) (hD.sub [0, 1] (by decide) rfl) hS
  exact key_5_0 _ (0 : Int32) (0 : Int32) (Nat.lt_succ_self _) h0_5_0 _ _ _ (lv_sub hl [0, 1, 2, 3] rfl) (hP.sub [0, 1] rfl) (hD.sub [0, 1] (by decide) rfl) hS

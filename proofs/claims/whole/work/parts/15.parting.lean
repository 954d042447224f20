def wp_X1_init   (Q : (Nat → Int64) → (Nat → Int32) → Int64 → Int32 → Prop) : Prop :=
  Q (fun _ => 0) (fun _ => 0) (1 : Int64) (0 : Int32)
abbrev rm_X1_init : Room := { frames := 1, cells := 2, slots := 20, locals := 20 }
abbrev qc_X1_init (dC : Nat → ClassId) (dI : Nat → Nat → Nat) (cI cJ cZ : ClassId) (h_a0 : Nat) (Q : (Nat → Int64) → (Nat → Int32) → Int64 → Int32 → Prop) (A : Nat → Prop) : Array Value → State → Outcome → State → Prop := va_Qv (fun (u : Nat × Nat × (Nat → Int64) × (Nat → Int32) × Int64 × Int32) => Q u.2.2.1 u.2.2.2.1 u.2.2.2.2.1 u.2.2.2.2.2) (post_ dC dI A (fun (u : Nat × Nat × (Nat → Int64) × (Nat → Int32) × Int64 × Int32) => [(h_a0, .inr (1, [.ref u.1, .ref u.2.1, .long u.2.2.2.2.1, .int u.2.2.2.2.2])), (u.1, .inl (cJ, 10, .inr (.inl (u.2.2.1)))), (u.2.1, .inl (cI, 10, .inl (u.2.2.2.1)))])) A
set_option maxHeartbeats 4000000 in
set_option maxRecDepth 100000 in
theorem c_X1_init (l : Launch) (dC : Nat → ClassId) (dI : Nat → Nat → Nat) (cI cJ cZ : ClassId) (sz : Nat) (h_a0 : Nat)  (Q : (Nat → Int64) → (Nat → Int32) → Int64 → Int32 → Prop) (hQ : wp_X1_init  Q) : Met l yX1_init wsX1_init rm_X1_init (pre_ dC dI cI cJ cZ [.ref h_a0] [(h_a0, .inr (1, [.null, .null, .long (0 : Int64), .int (0 : Int32)]))] sz) (qc_X1_init dC dI cI cJ cZ h_a0 Q (va_A [(h_a0, .inr (1, [.null, .null, .long (0 : Int64), .int (0 : Int32)]))] sz)) 2 20 (va_A [(h_a0, .inr (1, [.null, .null, .long (0 : Int64), .int (0 : Int32)]))] sz) := by
  refine Met.ofW (cc := cX1_init) (maxL := 1) (ret := none) (by decide) rfl ?_
  intro p e s m args below meth c s₁ B hml hv
  obtain ⟨rfl, hsz, hP, hK, hN, hD0⟩ := hv
  have hx := B.exec
  have hb := B.bytes
  have hr := B.returns
  have hts := atoms_spec (ws := wsX1_init) B.pre
  have hown : s.vm.findClass RX1 = some m.cls := findClass_of_methodNamed B.named
  have hin0 : meth.name = "<init>" := (name_of_methodNamed B.named B.method).1
  subst hsz
  have hD := hD0.self (sz := s.heap.size)
  generalize hAe : va_A [(h_a0, .inr (1, [.null, .null, .long (0 : Int64), .int (0 : Int32)]))] s.heap.size = A at hD ⊢
  have hA : ∀ q : Nat, s.heap.size ≤ q → A q := fun q h => by rw [← hAe]; exact Or.inr h
  have hS : va_S A s.heap s.heap [] := va_S.rf
  have hl := lv_entry ([.ref h_a0]) (n := 1) (Nat.le_of_ble_eq_true rfl)
  rw [lg_entry_eq]
  generalize (lg_sl ([.ref h_a0]) ++ List.replicate (1 - (lg_sl ([.ref h_a0])).length) Slot.unset).toArray = ls at hl ⊢
  have hl : lv_has ls 1 [(0, .ref h_a0)] := hl
  have h := hQ
  unfold wp_X1_init at h
  have hw_0 := hts (.methodLink RX1 1 objectInit) (by decide +kernel)
  have hw_1 := hts (.instanceMethod objectInit) (by decide +kernel)
  have hw_2 := hts (.code objectInit ⟨#[0xb1]⟩ 1 none) (by decide +kernel)
  have hw_3 := hts (.arrayClass .long) (by decide +kernel)
  have hw_4 := hts (.fieldLink RX1 9 "NumberSieves$Parting" "factors" "[J") (by decide +kernel)
  have hin_X1 : ∀ w ∈ wsX10, w ∈ wsX1_init := by decide +kernel
  have hw_6 := hts (.arrayClass .int) (by decide +kernel)
  have hw_7 := hts (.fieldLink RX1 13 "NumberSieves$Parting" "powers" "[I") (by decide +kernel)
  have hw_8 := hts (.fieldLink RX1 17 "NumberSieves$Parting" "number" "J") (by decide +kernel)
  have hw_9 := hts (.fieldLink RX1 21 "NumberSieves$Parting" "many" "I") (by decide +kernel)
  refine lv_aload_n hx hb dX1_init_0 rfl (lv_at hl 0 rfl) ?_
  refine W.objInit hx hb hown hw_0 hw_1 hw_2 rfl (by rw [hml]; exact hl.1) rfl dX1_init_1 (Nat.le_of_ble_eq_true rfl) (Nat.le_of_ble_eq_true rfl) ?_
  refine W.eq (g2 := F0 m 4 ls []) rfl ?_
  refine lv_aload_n hx hb dX1_init_4 rfl (lv_at hl 0 rfl) ?_
  refine lv_bipush (v := (10 : Int32)) hx hb dX1_init_5 (by decide) ?_
  refine va_newa (atype := .long) (ty := .long) (a0 := (10, .inr (.inl (fun _ => 0)))) (N' := 10) hx hb hw_3 rfl hK hP hD hS hA (fun _ => rfl) (by decide) (by decide) (by decide) (by first | exact Nat.le_refl _ | exact Nat.le_of_ble_eq_true rfl) (by first | exact Nat.le_refl _ | exact Nat.le_of_ble_eq_true rfl | exact Nat.le_of_eq (Nat.zero_add _)) dX1_init_7 (fun q_1 cA H hK9 hP hD hS => ?_)
  rw [cls_J hK9] at hP hD
  have hP : va_P (dC, dI) vwCl [(h_a0, .inr (1, [.null, .null, .long (0 : Int64), .int (0 : Int32)])), (q_1, .inl (cJ, 10, .inr (.inl (fun _ => 0))))] H := hP
  have hD : va_D A [(h_a0, .inr (1, [.null, .null, .long (0 : Int64), .int (0 : Int32)])), (q_1, .inl (cJ, 10, .inr (.inl (fun _ => 0))))] := hD
  refine W.widen (k := 1) (n := 10) (by omega) (by omega) ?_
  refine va_putF (D := (dC, dI)) (ci := 1) (v := .ref q_1) (ty := .array .long) (C := RX1) (T := TX1) (N := 4) hx hb hts hin_X1 tyX1 tyX1_ok nmX1 hown hK hP hD hS 0 rfl rfl 0 (by decide) hw_4 (fun _ h9 => h9) rfl hin0 rfl (by decide +kernel) rfl rfl (Nat.le_of_ble_eq_true rfl) dX1_init_9 (fun H locs hP hD hS => ?_)
  have hP : va_P (dC, dI) vwCl [(h_a0, .inr (1, [.ref q_1, .null, .long (0 : Int64), .int (0 : Int32)])), (q_1, .inl (cJ, 10, .inr (.inl (fun _ => 0))))] H := hP
  have hD : va_D A [(h_a0, .inr (1, [.ref q_1, .null, .long (0 : Int64), .int (0 : Int32)])), (q_1, .inl (cJ, 10, .inr (.inl (fun _ => 0))))] := hD
  refine lv_aload_n hx hb dX1_init_12 rfl (lv_at hl 0 rfl) ?_
  refine lv_bipush (v := (10 : Int32)) hx hb dX1_init_13 (by decide) ?_
  refine va_newa (atype := .int) (ty := .int) (a0 := (10, .inl (fun _ => 0))) (N' := 10) hx hb hw_6 rfl hK hP hD hS hA (fun _ => rfl) (by decide) (by decide) (by decide) (by first | exact Nat.le_refl _ | exact Nat.le_of_ble_eq_true rfl) (by first | exact Nat.le_refl _ | exact Nat.le_of_ble_eq_true rfl | exact Nat.le_of_eq (Nat.zero_add _)) dX1_init_15 (fun q_2 cA H hK9 hP hD hS => ?_)
  rw [cls_I hK9] at hP hD
  have hP : va_P (dC, dI) vwCl [(h_a0, .inr (1, [.ref q_1, .null, .long (0 : Int64), .int (0 : Int32)])), (q_1, .inl (cJ, 10, .inr (.inl (fun _ => 0)))), (q_2, .inl (cI, 10, .inl (fun _ => 0)))] H := hP
  have hD : va_D A [(h_a0, .inr (1, [.ref q_1, .null, .long (0 : Int64), .int (0 : Int32)])), (q_1, .inl (cJ, 10, .inr (.inl (fun _ => 0)))), (q_2, .inl (cI, 10, .inl (fun _ => 0)))] := hD
  refine W.widen (k := 2) (n := 20) (by omega) (by omega) ?_
  refine va_putF (D := (dC, dI)) (ci := 1) (v := .ref q_2) (ty := .array .int) (C := RX1) (T := TX1) (N := 4) hx hb hts hin_X1 tyX1 tyX1_ok nmX1 hown hK hP hD hS 0 rfl rfl 1 (by decide) hw_7 (fun _ h9 => h9) rfl hin0 rfl (by decide +kernel) rfl rfl (Nat.le_of_ble_eq_true rfl) dX1_init_17 (fun H locs hP hD hS => ?_)
  have hP : va_P (dC, dI) vwCl [(h_a0, .inr (1, [.ref q_1, .ref q_2, .long (0 : Int64), .int (0 : Int32)])), (q_1, .inl (cJ, 10, .inr (.inl (fun _ => 0)))), (q_2, .inl (cI, 10, .inl (fun _ => 0)))] H := hP
  have hD : va_D A [(h_a0, .inr (1, [.ref q_1, .ref q_2, .long (0 : Int64), .int (0 : Int32)])), (q_1, .inl (cJ, 10, .inr (.inl (fun _ => 0)))), (q_2, .inl (cI, 10, .inl (fun _ => 0)))] := hD
  refine lv_aload_n hx hb dX1_init_20 rfl (lv_at hl 0 rfl) ?_
  refine lv_lconst (v := (1 : Int64)) hx hb dX1_init_21 (by decide) ?_
  refine va_put (D := (dC, dI)) (ci := 1) (v := .long (1 : Int64)) (ty := .long) (C := RX1) (T := TX1) (N := 4) hx hb hts hin_X1 tyX1 tyX1_ok nmX1 hown hK hP hD hS 0 rfl rfl 2 (by decide) hw_8 (fun _ h9 => h9) rfl (by decide +kernel) rfl rfl (Nat.le_of_ble_eq_true rfl) dX1_init_22 (fun H locs hP hD hS => ?_)
  have hP : va_P (dC, dI) vwCl [(h_a0, .inr (1, [.ref q_1, .ref q_2, .long (1 : Int64), .int (0 : Int32)])), (q_1, .inl (cJ, 10, .inr (.inl (fun _ => 0)))), (q_2, .inl (cI, 10, .inl (fun _ => 0)))] H := hP
  have hD : va_D A [(h_a0, .inr (1, [.ref q_1, .ref q_2, .long (1 : Int64), .int (0 : Int32)])), (q_1, .inl (cJ, 10, .inr (.inl (fun _ => 0)))), (q_2, .inl (cI, 10, .inl (fun _ => 0)))] := hD
  refine lv_aload_n hx hb dX1_init_25 rfl (lv_at hl 0 rfl) ?_
  refine lv_iconst (v := (0 : Int32)) hx hb dX1_init_26 (by decide) ?_
  refine va_put (D := (dC, dI)) (ci := 1) (v := .int (0 : Int32)) (ty := .int) (C := RX1) (T := TX1) (N := 4) hx hb hts hin_X1 tyX1 tyX1_ok nmX1 hown hK hP hD hS 0 rfl rfl 3 (by decide) hw_9 (fun _ h9 => h9) rfl (by decide +kernel) rfl rfl (Nat.le_of_ble_eq_true rfl) dX1_init_27 (fun H locs hP hD hS => ?_)
  have hP : va_P (dC, dI) vwCl [(h_a0, .inr (1, [.ref q_1, .ref q_2, .long (1 : Int64), .int (0 : Int32)])), (q_1, .inl (cJ, 10, .inr (.inl (fun _ => 0)))), (q_2, .inl (cI, 10, .inl (fun _ => 0)))] H := hP
  have hD : va_D A [(h_a0, .inr (1, [.ref q_1, .ref q_2, .long (1 : Int64), .int (0 : Int32)])), (q_1, .inl (cJ, 10, .inr (.inl (fun _ => 0)))), (q_2, .inl (cI, 10, .inl (fun _ => 0)))] := hD
  have hP9 := hP.sub (ws' := [(h_a0, .inr (1, [.ref q_1, .ref q_2, .long (1 : Int64), .int (0 : Int32)])), (q_1, .inl (cJ, 10, .inr (.inl (fun _ => 0)))), (q_2, .inl (cI, 10, .inl (fun _ => 0)))]) [0, 1, 2] rfl
  have hD9 := hD.sub (ws' := [(h_a0, .inr (1, [.ref q_1, .ref q_2, .long (1 : Int64), .int (0 : Int32)])), (q_1, .inl (cJ, 10, .inr (.inl (fun _ => 0)))), (q_2, .inl (cI, 10, .inl (fun _ => 0)))]) [0, 1, 2] (by decide) rfl
  exact W.vret hx hb hr (fun t ht hW => ⟨⟨(q_1, q_2, (fun _ => 0), (fun _ => 0), (1 : Int64), (0 : Int32)), rfl, h, by rw [ht]; exact hP9, hD9⟩, hS.F ht⟩) hS.2.2 dX1_init_30
def wp_X1_keep (a0_factors : Nat → Int64) (a0_powers : Nat → Int32) (a0_many : Int32) (p1 : Int64) (p2 : Int32) (Q : Int32 → (Nat → Int64) → (Nat → Int32) → Prop) : Prop :=
  ((a0_many < (0 : Int32) → Q a0_many a0_factors a0_powers) ∧ (¬ a0_many < (0 : Int32) → (((10 : Int32) ≤ a0_many → Q a0_many a0_factors a0_powers) ∧ (¬ (10 : Int32) ≤ a0_many → (vp_in a0_many 10 ∧ (vp_in a0_many 10 ∧ (∀ y_5 : Int32, y_5 = (a0_many + (1 : Int32)) → Q y_5 (vp_updL a0_factors a0_many.toNatClampNeg p1) (upd a0_powers a0_many.toNatClampNeg p2))))))))
abbrev rm_X1_keep : Room := { frames := 0, cells := 0, slots := 0, locals := 0 }
abbrev qc_X1_keep (dC : Nat → ClassId) (dI : Nat → Nat → Nat) (cI cJ cZ : ClassId) (h_a0 : Nat) (a0_factors : Nat → Int64) (q_a0_factors : Nat) (a0_powers : Nat → Int32) (q_a0_powers : Nat) (a0_number : Int64) (a0_many : Int32) (Q : Int32 → (Nat → Int64) → (Nat → Int32) → Prop) (A : Nat → Prop) : Array Value → State → Outcome → State → Prop := va_Qv (fun (u : Int32 × (Nat → Int64) × (Nat → Int32)) => Q u.1 u.2.1 u.2.2) (post_ dC dI A (fun (u : Int32 × (Nat → Int64) × (Nat → Int32)) => [(h_a0, .inr (1, [.ref q_a0_factors, .ref q_a0_powers, .long a0_number, .int u.1])), (q_a0_factors, .inl (cJ, 10, .inr (.inl (u.2.1)))), (q_a0_powers, .inl (cI, 10, .inl (u.2.2)))])) A
set_option maxHeartbeats 4000000 in
set_option maxRecDepth 100000 in
theorem c_X1_keep (l : Launch) (dC : Nat → ClassId) (dI : Nat → Nat → Nat) (cI cJ cZ : ClassId) (sz : Nat) (h_a0 : Nat) (a0_factors : Nat → Int64) (q_a0_factors : Nat) (a0_powers : Nat → Int32) (q_a0_powers : Nat) (a0_number : Int64) (a0_many : Int32) (p1 : Int64) (p2 : Int32) (Q : Int32 → (Nat → Int64) → (Nat → Int32) → Prop) (hQ : wp_X1_keep a0_factors a0_powers a0_many p1 p2 Q) : Met l yX1_keep wsX1_keep rm_X1_keep (pre_ dC dI cI cJ cZ [.ref h_a0, .long p1, .int p2] [(h_a0, .inr (1, [.ref q_a0_factors, .ref q_a0_powers, .long a0_number, .int a0_many])), (q_a0_factors, .inl (cJ, 10, .inr (.inl a0_factors))), (q_a0_powers, .inl (cI, 10, .inl a0_powers))] sz) (qc_X1_keep dC dI cI cJ cZ h_a0 a0_factors q_a0_factors a0_powers q_a0_powers a0_number a0_many Q (va_A [(h_a0, .inr (1, [.ref q_a0_factors, .ref q_a0_powers, .long a0_number, .int a0_many])), (q_a0_factors, .inl (cJ, 10, .inr (.inl a0_factors))), (q_a0_powers, .inl (cI, 10, .inl a0_powers))] sz)) 0 0 (va_A [(h_a0, .inr (1, [.ref q_a0_factors, .ref q_a0_powers, .long a0_number, .int a0_many])), (q_a0_factors, .inl (cJ, 10, .inr (.inl a0_factors))), (q_a0_powers, .inl (cI, 10, .inl a0_powers))] sz) := by
  refine Met.ofW (cc := cX1_keep) (maxL := 4) (ret := none) (by decide) rfl ?_
  intro p e s m args below meth c s₁ B hml hv
  obtain ⟨rfl, hsz, hP, hK, hN, hD0⟩ := hv
  have hx := B.exec
  have hb := B.bytes
  have hr := B.returns
  have hts := atoms_spec (ws := wsX1_keep) B.pre
  have hown : s.vm.findClass RX1 = some m.cls := findClass_of_methodNamed B.named
  subst hsz
  have hD := hD0.self (sz := s.heap.size)
  generalize hAe : va_A [(h_a0, .inr (1, [.ref q_a0_factors, .ref q_a0_powers, .long a0_number, .int a0_many])), (q_a0_factors, .inl (cJ, 10, .inr (.inl a0_factors))), (q_a0_powers, .inl (cI, 10, .inl a0_powers))] s.heap.size = A at hD ⊢
  have hA : ∀ q : Nat, s.heap.size ≤ q → A q := fun q h => by rw [← hAe]; exact Or.inr h
  have hS : va_S A s.heap s.heap [] := va_S.rf
  have hl := lv_entry ([.ref h_a0, .long p1, .int p2]) (n := 4) (Nat.le_of_ble_eq_true rfl)
  rw [lg_entry_eq]
  generalize (lg_sl ([.ref h_a0, .long p1, .int p2]) ++ List.replicate (4 - (lg_sl ([.ref h_a0, .long p1, .int p2])).length) Slot.unset).toArray = ls at hl ⊢
  have hl : lv_has ls 4 [(0, .ref h_a0), (1, .long p1), (3, .int p2)] := hl
  have h := hQ
  unfold wp_X1_keep at h
  have hw_0 := hts (.fieldLink RX1 21 "NumberSieves$Parting" "many" "I") (by decide +kernel)
  have hin_X1 : ∀ w ∈ wsX10, w ∈ wsX1_keep := by decide +kernel
  have hw_2 := hts (.fieldLink RX1 9 "NumberSieves$Parting" "factors" "[J") (by decide +kernel)
  have hw_3 := hts (.fieldLink RX1 13 "NumberSieves$Parting" "powers" "[I") (by decide +kernel)
  refine lv_aload_n hx hb dX1_keep_0 rfl (lv_at hl 0 rfl) ?_
  refine va_get (D := (dC, dI)) (ci := 1) (v := .int a0_many) (C := RX1) (T := TX1) (N := 4) hx hb hts hin_X1 hown hK hP 0 rfl rfl 3 (by decide) hw_0 (fun _ h9 => h9) rfl dX1_keep_1 ?_
  refine lv_if_lt (tgt := 46) hx hb dX1_keep_4 (by decide) (fun c_1 => ?_) (fun c_1 => ?_)
  · replace h := h.1 c_1
    have hP9 := hP.sub (ws' := [(h_a0, .inr (1, [.ref q_a0_factors, .ref q_a0_powers, .long a0_number, .int a0_many])), (q_a0_factors, .inl (cJ, 10, .inr (.inl a0_factors))), (q_a0_powers, .inl (cI, 10, .inl a0_powers))]) [0, 1, 2] rfl
    have hD9 := hD.sub (ws' := [(h_a0, .inr (1, [.ref q_a0_factors, .ref q_a0_powers, .long a0_number, .int a0_many])), (q_a0_factors, .inl (cJ, 10, .inr (.inl a0_factors))), (q_a0_powers, .inl (cI, 10, .inl a0_powers))]) [0, 1, 2] (by decide) rfl
    exact W.vret hx hb hr (fun t ht hW => ⟨⟨(a0_many, a0_factors, a0_powers), rfl, h, by rw [ht]; exact hP9, hD9⟩, hS.F ht⟩) hS.2.2 dX1_keep_46
  · replace h := h.2 c_1
    refine lv_aload_n hx hb dX1_keep_7 rfl (lv_at hl 0 rfl) ?_
    refine va_get (D := (dC, dI)) (ci := 1) (v := .int a0_many) (C := RX1) (T := TX1) (N := 4) hx hb hts hin_X1 hown hK hP 0 rfl rfl 3 (by decide) hw_0 (fun _ h9 => h9) rfl dX1_keep_8 ?_
    refine lv_bipush (v := (10 : Int32)) hx hb dX1_keep_11 (by decide) ?_
    refine lv_icmp_ge (tgt := 46) hx hb dX1_keep_13 (by decide) (fun c_2 => ?_) (fun c_2 => ?_)
    · replace h := h.1 c_2
      have hP9 := hP.sub (ws' := [(h_a0, .inr (1, [.ref q_a0_factors, .ref q_a0_powers, .long a0_number, .int a0_many])), (q_a0_factors, .inl (cJ, 10, .inr (.inl a0_factors))), (q_a0_powers, .inl (cI, 10, .inl a0_powers))]) [0, 1, 2] rfl
      have hD9 := hD.sub (ws' := [(h_a0, .inr (1, [.ref q_a0_factors, .ref q_a0_powers, .long a0_number, .int a0_many])), (q_a0_factors, .inl (cJ, 10, .inr (.inl a0_factors))), (q_a0_powers, .inl (cI, 10, .inl a0_powers))]) [0, 1, 2] (by decide) rfl
      exact W.vret hx hb hr (fun t ht hW => ⟨⟨(a0_many, a0_factors, a0_powers), rfl, h, by rw [ht]; exact hP9, hD9⟩, hS.F ht⟩) hS.2.2 dX1_keep_46
    · replace h := h.2 c_2
      refine lv_aload_n hx hb dX1_keep_16 rfl (lv_at hl 0 rfl) ?_
      refine va_get (D := (dC, dI)) (ci := 1) (v := .ref q_a0_factors) (C := RX1) (T := TX1) (N := 4) hx hb hts hin_X1 hown hK hP 0 rfl rfl 0 (by decide) hw_2 (fun _ h9 => h9) rfl dX1_keep_17 ?_
      refine lv_aload_n hx hb dX1_keep_20 rfl (lv_at hl 0 rfl) ?_
      refine va_get (D := (dC, dI)) (ci := 1) (v := .int a0_many) (C := RX1) (T := TX1) (N := 4) hx hb hts hin_X1 hown hK hP 0 rfl rfl 3 (by decide) hw_0 (fun _ h9 => h9) rfl dX1_keep_21 ?_
      refine lv_lload_n hx hb dX1_keep_24 rfl (lv_at hl 1 rfl) ?_
      obtain ⟨hin_3, h⟩ := h
      refine va_last hx hb hK hP hD hS 1 1 rfl rfl hin_3 dX1_keep_25 (fun H locs hP hD hS => ?_)
      have hP : va_P (dC, dI) vwCl [(h_a0, .inr (1, [.ref q_a0_factors, .ref q_a0_powers, .long a0_number, .int a0_many])), (q_a0_factors, .inl (cJ, 10, .inr (.inl (vp_updL a0_factors a0_many.toNatClampNeg p1)))), (q_a0_powers, .inl (cI, 10, .inl a0_powers))] H := hP
      have hD : va_D A [(h_a0, .inr (1, [.ref q_a0_factors, .ref q_a0_powers, .long a0_number, .int a0_many])), (q_a0_factors, .inl (cJ, 10, .inr (.inl (vp_updL a0_factors a0_many.toNatClampNeg p1)))), (q_a0_powers, .inl (cI, 10, .inl a0_powers))] := hD
      refine lv_aload_n hx hb dX1_keep_26 rfl (lv_at hl 0 rfl) ?_
      refine va_get (D := (dC, dI)) (ci := 1) (v := .ref q_a0_powers) (C := RX1) (T := TX1) (N := 4) hx hb hts hin_X1 hown hK hP 0 rfl rfl 1 (by decide) hw_3 (fun _ h9 => h9) rfl dX1_keep_27 ?_
      refine lv_aload_n hx hb dX1_keep_30 rfl (lv_at hl 0 rfl) ?_
      refine va_get (D := (dC, dI)) (ci := 1) (v := .int a0_many) (C := RX1) (T := TX1) (N := 4) hx hb hts hin_X1 hown hK hP 0 rfl rfl 3 (by decide) hw_0 (fun _ h9 => h9) rfl dX1_keep_31 ?_
      refine lv_iload_n hx hb dX1_keep_34 rfl (lv_at hl 2 rfl) ?_
      obtain ⟨hin_4, h⟩ := h
      refine va_iast hx hb hK hP hD hS 2 0 rfl rfl hin_4 dX1_keep_35 (fun H locs hP hD hS => ?_)
      have hP : va_P (dC, dI) vwCl [(h_a0, .inr (1, [.ref q_a0_factors, .ref q_a0_powers, .long a0_number, .int a0_many])), (q_a0_factors, .inl (cJ, 10, .inr (.inl (vp_updL a0_factors a0_many.toNatClampNeg p1)))), (q_a0_powers, .inl (cI, 10, .inl (upd a0_powers a0_many.toNatClampNeg p2)))] H := hP
      have hD : va_D A [(h_a0, .inr (1, [.ref q_a0_factors, .ref q_a0_powers, .long a0_number, .int a0_many])), (q_a0_factors, .inl (cJ, 10, .inr (.inl (vp_updL a0_factors a0_many.toNatClampNeg p1)))), (q_a0_powers, .inl (cI, 10, .inl (upd a0_powers a0_many.toNatClampNeg p2)))] := hD
      refine lv_aload_n hx hb dX1_keep_36 rfl (lv_at hl 0 rfl) ?_
      refine lv_dup hx hb dX1_keep_37 rfl ?_
      refine va_get (D := (dC, dI)) (ci := 1) (v := .int a0_many) (C := RX1) (T := TX1) (N := 4) hx hb hts hin_X1 hown hK hP 0 rfl rfl 3 (by decide) hw_0 (fun _ h9 => h9) rfl dX1_keep_38 ?_
      refine lv_iconst (v := (1 : Int32)) hx hb dX1_keep_41 (by decide) ?_
      refine lv_iadd hx hb dX1_keep_42 ?_
      refine lv_topi (fun y_5 e_y_5 => ?_)
      replace h := h y_5 e_y_5
      refine va_put (D := (dC, dI)) (ci := 1) (v := .int y_5) (ty := .int) (C := RX1) (T := TX1) (N := 4) hx hb hts hin_X1 tyX1 tyX1_ok nmX1 hown hK hP hD hS 0 rfl rfl 3 (by decide) hw_0 (fun _ h9 => h9) rfl (by decide +kernel) rfl rfl (Nat.le_of_ble_eq_true rfl) dX1_keep_43 (fun H locs hP hD hS => ?_)
      have hP : va_P (dC, dI) vwCl [(h_a0, .inr (1, [.ref q_a0_factors, .ref q_a0_powers, .long a0_number, .int y_5])), (q_a0_factors, .inl (cJ, 10, .inr (.inl (vp_updL a0_factors a0_many.toNatClampNeg p1)))), (q_a0_powers, .inl (cI, 10, .inl (upd a0_powers a0_many.toNatClampNeg p2)))] H := hP
      have hD : va_D A [(h_a0, .inr (1, [.ref q_a0_factors, .ref q_a0_powers, .long a0_number, .int y_5])), (q_a0_factors, .inl (cJ, 10, .inr (.inl (vp_updL a0_factors a0_many.toNatClampNeg p1)))), (q_a0_powers, .inl (cI, 10, .inl (upd a0_powers a0_many.toNatClampNeg p2)))] := hD
      have hP9 := hP.sub (ws' := [(h_a0, .inr (1, [.ref q_a0_factors, .ref q_a0_powers, .long a0_number, .int y_5])), (q_a0_factors, .inl (cJ, 10, .inr (.inl (vp_updL a0_factors a0_many.toNatClampNeg p1)))), (q_a0_powers, .inl (cI, 10, .inl (upd a0_powers a0_many.toNatClampNeg p2)))]) [0, 1, 2] rfl
      have hD9 := hD.sub (ws' := [(h_a0, .inr (1, [.ref q_a0_factors, .ref q_a0_powers, .long a0_number, .int y_5])), (q_a0_factors, .inl (cJ, 10, .inr (.inl (vp_updL a0_factors a0_many.toNatClampNeg p1)))), (q_a0_powers, .inl (cI, 10, .inl (upd a0_powers a0_many.toNatClampNeg p2)))]) [0, 1, 2] (by decide) rfl
      exact W.vret hx hb hr (fun t ht hW => ⟨⟨(y_5, (vp_updL a0_factors a0_many.toNatClampNeg p1), (upd a0_powers a0_many.toNatClampNeg p2)), rfl, h, by rw [ht]; exact hP9, hD9⟩, hS.F ht⟩) hS.2.2 dX1_keep_46
def wp_X1_take (a0_factors : Nat → Int64) (a0_powers : Nat → Int32) (a0_number : Int64) (a0_many : Int32) (a2_table : Nat → Int32) (a2_many : Int32) (p1 : Int64) (Q : Int64 → Int32 → (Nat → Int64) → (Nat → Int32) → Prop) : Prop :=
  (∃ (I_16_0 : Int32 → Int64 → Int32 → (Nat → Int64) → (Nat → Int32) → Prop) (m_16_0 : Int32 → Int64 → Int32 → (Nat → Int64) → (Nat → Int32) → Nat), I_16_0 (0 : Int32) p1 (0 : Int32) a0_factors a0_powers ∧ ∀ (l6_16_0 : Int32) (l4_16_0 : Int64) (a0_many_16_0 : Int32) (a0_factors_16_0 : Nat → Int64) (a0_powers_16_0 : Nat → Int32), I_16_0 l6_16_0 l4_16_0 a0_many_16_0 a0_factors_16_0 a0_powers_16_0 → ((a2_many ≤ l6_16_0 → ((l4_16_0 ≤ (1 : Int64) → Q p1 a0_many_16_0 a0_factors_16_0 a0_powers_16_0) ∧ (¬ l4_16_0 ≤ (1 : Int64) → wp_X1_keep a0_factors_16_0 a0_powers_16_0 a0_many_16_0 l4_16_0 (1 : Int32) (fun o_4 o_5 o_6 => Q p1 o_4 o_5 o_6)))) ∧ (¬ a2_many ≤ l6_16_0 → wp_X3_nth a2_table a2_many l6_16_0 (fun r_7 => (∀ x7_8 : Int64, x7_8 = r_7.toInt64 → ((x7_8 < (2 : Int64) → ((l4_16_0 ≤ (1 : Int64) → Q p1 a0_many_16_0 a0_factors_16_0 a0_powers_16_0) ∧ (¬ l4_16_0 ≤ (1 : Int64) → wp_X1_keep a0_factors_16_0 a0_powers_16_0 a0_many_16_0 l4_16_0 (1 : Int32) (fun o_11 o_12 o_13 => Q p1 o_11 o_12 o_13)))) ∧ (¬ x7_8 < (2 : Int64) → (((x7_8 * x7_8) ≤ l4_16_0 → (∃ (I_63_14 : Int32 → Int32 → Int64 → Prop) (m_63_14 : Int32 → Int32 → Int64 → Nat), I_63_14 (0 : Int32) (0 : Int32) l4_16_0 ∧ ∀ (l10_63_14 : Int32) (l9_63_14 : Int32) (l4_63_14 : Int64), I_63_14 l10_63_14 l9_63_14 l4_63_14 → (((34 : Int32) ≤ l10_63_14 → ((l9_63_14 ≤ (0 : Int32) → (∀ x6_18 : Int32, x6_18 = l6_16_0 + (1 : Int32) → (I_16_0 x6_18 l4_63_14 a0_many_16_0 a0_factors_16_0 a0_powers_16_0 ∧ m_16_0 x6_18 l4_63_14 a0_many_16_0 a0_factors_16_0 a0_powers_16_0 < m_16_0 l6_16_0 l4_16_0 a0_many_16_0 a0_factors_16_0 a0_powers_16_0))) ∧ (¬ l9_63_14 ≤ (0 : Int32) → wp_X1_keep a0_factors_16_0 a0_powers_16_0 a0_many_16_0 x7_8 l9_63_14 (fun o_19 o_20 o_21 => (∀ x6_22 : Int32, x6_22 = l6_16_0 + (1 : Int32) → (I_16_0 x6_22 l4_63_14 o_19 o_20 o_21 ∧ m_16_0 x6_22 l4_63_14 o_19 o_20 o_21 < m_16_0 l6_16_0 l4_16_0 a0_many_16_0 a0_factors_16_0 a0_powers_16_0)))))) ∧ (¬ (34 : Int32) ≤ l10_63_14 → (¬ x7_8 = 0 ∧ (((l4_63_14 - l4_63_14 / x7_8 * x7_8) = (0 : Int64) → (¬ x7_8 = 0 ∧ (∀ x4_32 : Int64, x4_32 = (l4_63_14 / x7_8) → (∀ x9_33 : Int32, x9_33 = l9_63_14 + (1 : Int32) → (∀ x10_34 : Int32, x10_34 = l10_63_14 + (1 : Int32) → (I_63_14 x10_34 x9_33 x4_32 ∧ m_63_14 x10_34 x9_33 x4_32 < m_63_14 l10_63_14 l9_63_14 l4_63_14)))))) ∧ (¬ (l4_63_14 - l4_63_14 / x7_8 * x7_8) = (0 : Int64) → ((l9_63_14 ≤ (0 : Int32) → (∀ x6_26 : Int32, x6_26 = l6_16_0 + (1 : Int32) → (I_16_0 x6_26 l4_63_14 a0_many_16_0 a0_factors_16_0 a0_powers_16_0 ∧ m_16_0 x6_26 l4_63_14 a0_many_16_0 a0_factors_16_0 a0_powers_16_0 < m_16_0 l6_16_0 l4_16_0 a0_many_16_0 a0_factors_16_0 a0_powers_16_0))) ∧ (¬ l9_63_14 ≤ (0 : Int32) → wp_X1_keep a0_factors_16_0 a0_powers_16_0 a0_many_16_0 x7_8 l9_63_14 (fun o_27 o_28 o_29 => (∀ x6_30 : Int32, x6_30 = l6_16_0 + (1 : Int32) → (I_16_0 x6_30 l4_63_14 o_27 o_28 o_29 ∧ m_16_0 x6_30 l4_63_14 o_27 o_28 o_29 < m_16_0 l6_16_0 l4_16_0 a0_many_16_0 a0_factors_16_0 a0_powers_16_0)))))))))))) ∧ (¬ (x7_8 * x7_8) ≤ l4_16_0 → ((l4_16_0 ≤ (1 : Int64) → Q p1 a0_many_16_0 a0_factors_16_0 a0_powers_16_0) ∧ (¬ l4_16_0 ≤ (1 : Int64) → wp_X1_keep a0_factors_16_0 a0_powers_16_0 a0_many_16_0 l4_16_0 (1 : Int32) (fun o_36 o_37 o_38 => Q p1 o_36 o_37 o_38))))))))))))
abbrev rm_X1_take : Room := { frames := 1, cells := 0, slots := 0, locals := 23 }
abbrev qc_X1_take (dC : Nat → ClassId) (dI : Nat → Nat → Nat) (cI cJ cZ : ClassId) (h_a0 : Nat) (a0_factors : Nat → Int64) (q_a0_factors : Nat) (a0_powers : Nat → Int32) (q_a0_powers : Nat) (a0_number : Int64) (a0_many : Int32) (h_a2 : Nat) (a2_table : Nat → Int32) (q_a2_table : Nat) (a2_many : Int32) (Q : Int64 → Int32 → (Nat → Int64) → (Nat → Int32) → Prop) (A : Nat → Prop) : Array Value → State → Outcome → State → Prop := va_Qv (fun (u : Int64 × Int32 × (Nat → Int64) × (Nat → Int32)) => Q u.1 u.2.1 u.2.2.1 u.2.2.2) (post_ dC dI A (fun (u : Int64 × Int32 × (Nat → Int64) × (Nat → Int32)) => [(h_a0, .inr (1, [.ref q_a0_factors, .ref q_a0_powers, .long u.1, .int u.2.1])), (q_a0_factors, .inl (cJ, 10, .inr (.inl (u.2.2.1)))), (q_a0_powers, .inl (cI, 10, .inl (u.2.2.2))), (h_a2, .inr (3, [.ref q_a2_table, .int a2_many])), (q_a2_table, .inl (cI, 9592, .inl a2_table))])) A
set_option maxHeartbeats 4000000 in
set_option maxRecDepth 100000 in
theorem c_X1_take (l : Launch) (dC : Nat → ClassId) (dI : Nat → Nat → Nat) (cI cJ cZ : ClassId) (sz : Nat) (h_a0 : Nat) (a0_factors : Nat → Int64) (q_a0_factors : Nat) (a0_powers : Nat → Int32) (q_a0_powers : Nat) (a0_number : Int64) (a0_many : Int32) (h_a2 : Nat) (a2_table : Nat → Int32) (q_a2_table : Nat) (a2_many : Int32) (p1 : Int64) (Q : Int64 → Int32 → (Nat → Int64) → (Nat → Int32) → Prop) (hQ : wp_X1_take a0_factors a0_powers a0_number a0_many a2_table a2_many p1 Q) : Met l yX1_take wsX1_take rm_X1_take (pre_ dC dI cI cJ cZ [.ref h_a0, .long p1, .ref h_a2] [(h_a0, .inr (1, [.ref q_a0_factors, .ref q_a0_powers, .long a0_number, .int a0_many])), (q_a0_factors, .inl (cJ, 10, .inr (.inl a0_factors))), (q_a0_powers, .inl (cI, 10, .inl a0_powers)), (h_a2, .inr (3, [.ref q_a2_table, .int a2_many])), (q_a2_table, .inl (cI, 9592, .inl a2_table))] sz) (qc_X1_take dC dI cI cJ cZ h_a0 a0_factors q_a0_factors a0_powers q_a0_powers a0_number a0_many h_a2 a2_table q_a2_table a2_many Q (va_A [(h_a0, .inr (1, [.ref q_a0_factors, .ref q_a0_powers, .long a0_number, .int a0_many])), (q_a0_factors, .inl (cJ, 10, .inr (.inl a0_factors))), (q_a0_powers, .inl (cI, 10, .inl a0_powers)), (h_a2, .inr (3, [.ref q_a2_table, .int a2_many])), (q_a2_table, .inl (cI, 9592, .inl a2_table))] sz)) 0 0 (va_A [(h_a0, .inr (1, [.ref q_a0_factors, .ref q_a0_powers, .long a0_number, .int a0_many])), (q_a0_factors, .inl (cJ, 10, .inr (.inl a0_factors))), (q_a0_powers, .inl (cI, 10, .inl a0_powers)), (h_a2, .inr (3, [.ref q_a2_table, .int a2_many])), (q_a2_table, .inl (cI, 9592, .inl a2_table))] sz) := by
  refine Met.ofW (cc := cX1_take) (maxL := 11) (ret := none) (by decide) rfl ?_
  intro p e s m args below meth c s₁ B hml hv
  obtain ⟨rfl, hsz, hP, hK, hN, hD0⟩ := hv
  have hx := B.exec
  have hb := B.bytes
  have hr := B.returns
  have hts := atoms_spec (ws := wsX1_take) B.pre
  have hown : s.vm.findClass RX1 = some m.cls := findClass_of_methodNamed B.named
  subst hsz
  have hD := hD0.self (sz := s.heap.size)
  generalize hAe : va_A [(h_a0, .inr (1, [.ref q_a0_factors, .ref q_a0_powers, .long a0_number, .int a0_many])), (q_a0_factors, .inl (cJ, 10, .inr (.inl a0_factors))), (q_a0_powers, .inl (cI, 10, .inl a0_powers)), (h_a2, .inr (3, [.ref q_a2_table, .int a2_many])), (q_a2_table, .inl (cI, 9592, .inl a2_table))] s.heap.size = A at hD ⊢
  have hA : ∀ q : Nat, s.heap.size ≤ q → A q := fun q h => by rw [← hAe]; exact Or.inr h
  have hS : va_S A s.heap s.heap [] := va_S.rf
  have hl := lv_entry ([.ref h_a0, .long p1, .ref h_a2]) (n := 11) (Nat.le_of_ble_eq_true rfl)
  rw [lg_entry_eq]
  generalize (lg_sl ([.ref h_a0, .long p1, .ref h_a2]) ++ List.replicate (11 - (lg_sl ([.ref h_a0, .long p1, .ref h_a2])).length) Slot.unset).toArray = ls at hl ⊢
  have hl : lv_has ls 11 [(0, .ref h_a0), (1, .long p1), (3, .ref h_a2)] := hl
  have h := hQ
  unfold wp_X1_take at h
  have hw_0 := hts (.fieldLink RX1 17 "NumberSieves$Parting" "number" "J") (by decide +kernel)
  have hin_X1 : ∀ w ∈ wsX10, w ∈ wsX1_take := by decide +kernel
  have hw_2 := hts (.fieldLink RX1 21 "NumberSieves$Parting" "many" "I") (by decide +kernel)
  have hin_X3 : ∀ w ∈ wsX30, w ∈ wsX1_take := by decide +kernel
  have hw_4 := hts (.constantLong RX1 32 (2)) (by decide +kernel)
  refine lv_aload_n hx hb dX1_take_0 rfl (lv_at hl 0 rfl) ?_
  refine lv_lload_n hx hb dX1_take_1 rfl (lv_at hl 1 rfl) ?_
  refine va_put (D := (dC, dI)) (ci := 1) (v := .long p1) (ty := .long) (C := RX1) (T := TX1) (N := 4) hx hb hts hin_X1 tyX1 tyX1_ok nmX1 hown hK hP hD hS 0 rfl rfl 2 (by decide) hw_0 (fun _ h9 => h9) rfl (by decide +kernel) rfl rfl (Nat.le_of_ble_eq_true rfl) dX1_take_2 (fun H locs hP hD hS => ?_)
  have hP : va_P (dC, dI) vwCl [(h_a0, .inr (1, [.ref q_a0_factors, .ref q_a0_powers, .long p1, .int a0_many])), (q_a0_factors, .inl (cJ, 10, .inr (.inl a0_factors))), (q_a0_powers, .inl (cI, 10, .inl a0_powers)), (h_a2, .inr (3, [.ref q_a2_table, .int a2_many])), (q_a2_table, .inl (cI, 9592, .inl a2_table))] H := hP
  have hD : va_D A [(h_a0, .inr (1, [.ref q_a0_factors, .ref q_a0_powers, .long p1, .int a0_many])), (q_a0_factors, .inl (cJ, 10, .inr (.inl a0_factors))), (q_a0_powers, .inl (cI, 10, .inl a0_powers)), (h_a2, .inr (3, [.ref q_a2_table, .int a2_many])), (q_a2_table, .inl (cI, 9592, .inl a2_table))] := hD
  refine lv_aload_n hx hb dX1_take_5 rfl (lv_at hl 0 rfl) ?_
  refine lv_iconst (v := (0 : Int32)) hx hb dX1_take_6 (by decide) ?_
  refine va_put (D := (dC, dI)) (ci := 1) (v := .int (0 : Int32)) (ty := .int) (C := RX1) (T := TX1) (N := 4) hx hb hts hin_X1 tyX1 tyX1_ok nmX1 hown hK hP hD hS 0 rfl rfl 3 (by decide) hw_2 (fun _ h9 => h9) rfl (by decide +kernel) rfl rfl (Nat.le_of_ble_eq_true rfl) dX1_take_7 (fun H locs hP hD hS => ?_)
  have hP : va_P (dC, dI) vwCl [(h_a0, .inr (1, [.ref q_a0_factors, .ref q_a0_powers, .long p1, .int (0 : Int32)])), (q_a0_factors, .inl (cJ, 10, .inr (.inl a0_factors))), (q_a0_powers, .inl (cI, 10, .inl a0_powers)), (h_a2, .inr (3, [.ref q_a2_table, .int a2_many])), (q_a2_table, .inl (cI, 9592, .inl a2_table))] H := hP
  have hD : va_D A [(h_a0, .inr (1, [.ref q_a0_factors, .ref q_a0_powers, .long p1, .int (0 : Int32)])), (q_a0_factors, .inl (cJ, 10, .inr (.inl a0_factors))), (q_a0_powers, .inl (cI, 10, .inl a0_powers)), (h_a2, .inr (3, [.ref q_a2_table, .int a2_many])), (q_a2_table, .inl (cI, 9592, .inl a2_table))] := hD
  refine lv_lload_n hx hb dX1_take_10 rfl (lv_at hl 1 rfl) ?_
  refine lv_lstore (lv' := [(4, .long p1), (0, .ref h_a0), (1, .long p1), (3, .ref h_a2)]) hx hb dX1_take_11 hl (by decide) rfl (fun ls hl => ?_)
  refine lv_iconst (v := (0 : Int32)) hx hb dX1_take_13 (by decide) ?_
  refine lv_istore (lv' := [(6, .int (0 : Int32)), (4, .long p1), (0, .ref h_a0), (1, .long p1), (3, .ref h_a2)]) hx hb dX1_take_14 hl (by decide) rfl (fun ls hl => ?_)
  obtain ⟨I_16_0, m_16_0, h0_16_0, hs_16_0⟩ := h
  have key_16_0 : ∀ (n : Nat) (l6_16_0 : Int32) (l4_16_0 : Int64) (a0_many_16_0 : Int32) (a0_factors_16_0 : Nat → Int64) (a0_powers_16_0 : Nat → Int32), m_16_0 l6_16_0 l4_16_0 a0_many_16_0 a0_factors_16_0 a0_powers_16_0 < n → I_16_0 l6_16_0 l4_16_0 a0_many_16_0 a0_factors_16_0 a0_powers_16_0 → ∀ (ls : Array Slot) (H : Heap) (locs : List Loc), lv_has ls 11 [(6, .int l6_16_0), (4, .long l4_16_0), (0, .ref h_a0), (3, .ref h_a2)] → va_P (dC, dI) vwCl [(h_a0, .inr (1, [.ref q_a0_factors, .ref q_a0_powers, .long p1, .int a0_many_16_0])), (q_a0_factors, .inl (cJ, 10, .inr (.inl a0_factors_16_0))), (q_a0_powers, .inl (cI, 10, .inl a0_powers_16_0)), (h_a2, .inr (3, [.ref q_a2_table, .int a2_many])), (q_a2_table, .inl (cI, 9592, .inl a2_table))] H → va_D A [(h_a0, .inr (1, [.ref q_a0_factors, .ref q_a0_powers, .long p1, .int a0_many_16_0])), (q_a0_factors, .inl (cJ, 10, .inr (.inl a0_factors_16_0))), (q_a0_powers, .inl (cI, 10, .inl a0_powers_16_0)), (h_a2, .inr (3, [.ref q_a2_table, .int a2_many])), (q_a2_table, .inl (cI, 9592, .inl a2_table))] → va_S A s.heap H locs → W p l e (headSpec wsX1_take rm_X1_take).room s m ([.ref h_a0, .long p1, .ref h_a2] : List Value).toArray below meth c H locs 0 0 (MQ below (qc_X1_take dC dI cI cJ cZ h_a0 a0_factors q_a0_factors a0_powers q_a0_powers a0_number a0_many h_a2 a2_table q_a2_table a2_many Q A) ([.ref h_a0, .long p1, .ref h_a2] : List Value).toArray s 0 0 A) (F0 m 16 ls []) := by
    intro n
    induction n with
    | zero =>
      intro l6_16_0 l4_16_0 a0_many_16_0 a0_factors_16_0 a0_powers_16_0 hm
      exact absurd hm (Nat.not_lt_zero _)
    | succ n ih_16_0 =>
      intro l6_16_0 l4_16_0 a0_many_16_0 a0_factors_16_0 a0_powers_16_0 hm_16_0 hI ls H locs hl hP hD hS
      have h := hs_16_0 l6_16_0 l4_16_0 a0_many_16_0 a0_factors_16_0 a0_powers_16_0 hI
      refine lv_iload hx hb dX1_take_16 (lv_at hl 0 rfl) ?_
      refine lv_aload_n hx hb dX1_take_18 rfl (lv_at hl 3 rfl) ?_
      refine va_getN (D := (dC, dI)) (ci := 3) (v := .int a2_many) (C := RX3) (T := TX3) (N := 2) hx hb hts hin_X3 hown hK hP 3 rfl rfl 1 (by decide) (nw_5 hN) (fun _ h9 => h9) rfl dX1_take_19 ?_
      refine lv_icmp_ge (tgt := 115) hx hb dX1_take_22 (by decide) (fun c_2 => ?_) (fun c_2 => ?_)
      · replace h := h.1 c_2
        refine lv_lload hx hb dX1_take_115 (lv_at hl 1 rfl) ?_
        refine lv_lconst (v := (1 : Int64)) hx hb dX1_take_117 (by decide) ?_
        refine W.lcmp hx hb dX1_take_118 ?_
        refine lv_if_le (tgt := 129) hx hb dX1_take_119 (by decide) (fun c_3 => ?_) (fun c_3 => ?_)
        · replace c_3 := (lg_cmp_le _ _).mp c_3
          replace h := h.1 c_3
          have hP9 := hP.sub (ws' := [(h_a0, .inr (1, [.ref q_a0_factors, .ref q_a0_powers, .long p1, .int a0_many_16_0])), (q_a0_factors, .inl (cJ, 10, .inr (.inl a0_factors_16_0))), (q_a0_powers, .inl (cI, 10, .inl a0_powers_16_0)), (h_a2, .inr (3, [.ref q_a2_table, .int a2_many])), (q_a2_table, .inl (cI, 9592, .inl a2_table))]) [0, 1, 2, 3, 4] rfl
          have hD9 := hD.sub (ws' := [(h_a0, .inr (1, [.ref q_a0_factors, .ref q_a0_powers, .long p1, .int a0_many_16_0])), (q_a0_factors, .inl (cJ, 10, .inr (.inl a0_factors_16_0))), (q_a0_powers, .inl (cI, 10, .inl a0_powers_16_0)), (h_a2, .inr (3, [.ref q_a2_table, .int a2_many])), (q_a2_table, .inl (cI, 9592, .inl a2_table))]) [0, 1, 2, 3, 4] (by decide) rfl
          exact W.vret hx hb hr (fun t ht hW => ⟨⟨(p1, a0_many_16_0, a0_factors_16_0, a0_powers_16_0), rfl, h, by rw [ht]; exact hP9, hD9⟩, hS.F ht⟩) hS.2.2 dX1_take_129
        · replace c_3 := lc_nle c_3
          replace h := h.2 c_3
          refine lv_aload_n hx hb dX1_take_122 rfl (lv_at hl 2 rfl) ?_
          refine lv_lload hx hb dX1_take_123 (lv_at hl 1 rfl) ?_
          refine lv_iconst (v := (1 : Int32)) hx hb dX1_take_125 (by decide) ?_
          have hPc := hP.sub (ws' := [(h_a0, .inr (1, [.ref q_a0_factors, .ref q_a0_powers, .long p1, .int a0_many_16_0])), (q_a0_factors, .inl (cJ, 10, .inr (.inl a0_factors_16_0))), (q_a0_powers, .inl (cI, 10, .inl a0_powers_16_0))]) [0, 1, 2] rfl
          have hDc := hD.sub (ws' := [(h_a0, .inr (1, [.ref q_a0_factors, .ref q_a0_powers, .long p1, .int a0_many_16_0])), (q_a0_factors, .inl (cJ, 10, .inr (.inl a0_factors_16_0))), (q_a0_powers, .inl (cI, 10, .inl a0_powers_16_0))]) [0, 1, 2] (by decide) rfl
          have hFc := va_free (wc := [(h_a0, .inr (1, [.ref q_a0_factors, .ref q_a0_powers, .long p1, .int a0_many_16_0])), (q_a0_factors, .inl (cJ, 10, .inr (.inl a0_factors_16_0))), (q_a0_powers, .inl (cI, 10, .inl a0_powers_16_0))]) hD hS hA [0, 1, 2] rfl
          refine va_callv (va_runV (As := [.long l4_16_0, .int (1 : Int32)]) (rest := []) ⟨hx, hb, hml, hown, hts⟩ (c_X1_keep l dC dI cI cJ cZ _ h_a0 a0_factors_16_0 q_a0_factors a0_powers_16_0 q_a0_powers p1 a0_many_16_0 l4_16_0 (1 : Int32) _ h) (cwV 2 hts gX1_take_X1_keep rfl rfl rfl (by decide +kernel) ⟨Nat.le_of_ble_eq_true rfl, Nat.le_of_ble_eq_true rfl⟩) ⟨pre_fb, va_recv hK hPc (ci := 1) (q0 := 0) rfl rfl, pre_of hPc hDc hK hN⟩ rfl rfl hl.1 rfl (lv_room (Nat.le_of_ble_eq_true rfl)) dX1_take_126 ⟨by first | exact Nat.le_of_ble_eq_true rfl | exact Nat.le_refl _, by first | exact Nat.le_of_ble_eq_true rfl | exact Nat.le_refl _⟩) hS (fun q _ h => hFc q h) hFc (fun u t H1 locs ht hvm h hB hz1 hk1 hS => ?_)
          obtain ⟨o_4, o_5, o_6⟩ := u
          obtain ⟨hP1, hD1⟩ := hB
          rw [ht] at hP1
          try dsimp only at h
          obtain ⟨hP, hD⟩ := va_join (wr := [(h_a2, .inr (3, [.ref q_a2_table, .int a2_many])), (q_a2_table, .inl (cI, 9592, .inl a2_table))]) (w1 := [(h_a0, .inr (1, [.ref q_a0_factors, .ref q_a0_powers, .long p1, .int o_4])), (q_a0_factors, .inl (cJ, 10, .inr (.inl o_5))), (q_a0_powers, .inl (cI, 10, .inl o_6))]) hP hD [0, 1, 2] [3, 4] rfl rfl (by decide) (by decide) hk1 hFc hP1 hD1
          generalize H1 = H at hP hS ⊢
          have hP : va_P (dC, dI) vwCl [(h_a2, .inr (3, [.ref q_a2_table, .int a2_many])), (q_a2_table, .inl (cI, 9592, .inl a2_table)), (h_a0, .inr (1, [.ref q_a0_factors, .ref q_a0_powers, .long p1, .int o_4])), (q_a0_factors, .inl (cJ, 10, .inr (.inl o_5))), (q_a0_powers, .inl (cI, 10, .inl o_6))] H := hP
          have hD : va_D A [(h_a2, .inr (3, [.ref q_a2_table, .int a2_many])), (q_a2_table, .inl (cI, 9592, .inl a2_table)), (h_a0, .inr (1, [.ref q_a0_factors, .ref q_a0_powers, .long p1, .int o_4])), (q_a0_factors, .inl (cJ, 10, .inr (.inl o_5))), (q_a0_powers, .inl (cI, 10, .inl o_6))] := hD
          have hP9 := hP.sub (ws' := [(h_a0, .inr (1, [.ref q_a0_factors, .ref q_a0_powers, .long p1, .int o_4])), (q_a0_factors, .inl (cJ, 10, .inr (.inl o_5))), (q_a0_powers, .inl (cI, 10, .inl o_6)), (h_a2, .inr (3, [.ref q_a2_table, .int a2_many])), (q_a2_table, .inl (cI, 9592, .inl a2_table))]) [2, 3, 4, 0, 1] rfl
          have hD9 := hD.sub (ws' := [(h_a0, .inr (1, [.ref q_a0_factors, .ref q_a0_powers, .long p1, .int o_4])), (q_a0_factors, .inl (cJ, 10, .inr (.inl o_5))), (q_a0_powers, .inl (cI, 10, .inl o_6)), (h_a2, .inr (3, [.ref q_a2_table, .int a2_many])), (q_a2_table, .inl (cI, 9592, .inl a2_table))]) [2, 3, 4, 0, 1] (by decide) rfl
          exact W.vret hx hb hr (fun t ht hW => ⟨⟨(p1, o_4, o_5, o_6), rfl, h, by rw [ht]; exact hP9, hD9⟩, hS.F ht⟩) hS.2.2 dX1_take_129
      · replace h := h.2 c_2
        refine lv_aload_n hx hb dX1_take_25 rfl (lv_at hl 3 rfl) ?_
        refine lv_iload hx hb dX1_take_26 (lv_at hl 0 rfl) ?_
        have hPc := hP.sub (ws' := [(h_a2, .inr (3, [.ref q_a2_table, .int a2_many])), (q_a2_table, .inl (cI, 9592, .inl a2_table))]) [3, 4] rfl
        have hDc := hD.sub (ws' := [(h_a2, .inr (3, [.ref q_a2_table, .int a2_many])), (q_a2_table, .inl (cI, 9592, .inl a2_table))]) [3, 4] (by decide) rfl
        have hFc := va_free (wc := [(h_a2, .inr (3, [.ref q_a2_table, .int a2_many])), (q_a2_table, .inl (cI, 9592, .inl a2_table))]) hD hS hA [3, 4] rfl
        refine va_calli (va_runV (As := [.int l6_16_0]) (rest := []) ⟨hx, hb, hml, hown, hts⟩ (c_X3_nth l dC dI cI cJ cZ _ h_a2 a2_table q_a2_table a2_many l6_16_0 _ h) (cwV 1 hts gX1_take_X3_nth rfl rfl rfl (by decide +kernel) ⟨Nat.le_of_ble_eq_true rfl, Nat.le_of_ble_eq_true rfl⟩) ⟨pre_fb, va_recv hK hPc (ci := 3) (q0 := 0) rfl rfl, pre_of hPc hDc hK hN⟩ rfl rfl hl.1 rfl (lv_room (Nat.le_of_ble_eq_true rfl)) dX1_take_28 ⟨by first | exact Nat.le_of_ble_eq_true rfl | exact Nat.le_refl _, by first | exact Nat.le_of_ble_eq_true rfl | exact Nat.le_refl _⟩) hS (fun q _ h => hFc q h) hFc (fun r_7 u t H1 locs ht hvm h hB hz1 hk1 hS => ?_)
        obtain ⟨hP1, hD1⟩ := hB
        rw [ht] at hP1
        try dsimp only at h
        obtain ⟨hP, hD⟩ := va_join (wr := [(h_a0, .inr (1, [.ref q_a0_factors, .ref q_a0_powers, .long p1, .int a0_many_16_0])), (q_a0_factors, .inl (cJ, 10, .inr (.inl a0_factors_16_0))), (q_a0_powers, .inl (cI, 10, .inl a0_powers_16_0))]) (w1 := [(h_a2, .inr (3, [.ref q_a2_table, .int a2_many])), (q_a2_table, .inl (cI, 9592, .inl a2_table))]) hP hD [3, 4] [0, 1, 2] rfl rfl (by decide) (by decide) hk1 hFc hP1 hD1
        generalize H1 = H at hP hS ⊢
        have hP : va_P (dC, dI) vwCl [(h_a0, .inr (1, [.ref q_a0_factors, .ref q_a0_powers, .long p1, .int a0_many_16_0])), (q_a0_factors, .inl (cJ, 10, .inr (.inl a0_factors_16_0))), (q_a0_powers, .inl (cI, 10, .inl a0_powers_16_0)), (h_a2, .inr (3, [.ref q_a2_table, .int a2_many])), (q_a2_table, .inl (cI, 9592, .inl a2_table))] H := hP
        have hD : va_D A [(h_a0, .inr (1, [.ref q_a0_factors, .ref q_a0_powers, .long p1, .int a0_many_16_0])), (q_a0_factors, .inl (cJ, 10, .inr (.inl a0_factors_16_0))), (q_a0_powers, .inl (cI, 10, .inl a0_powers_16_0)), (h_a2, .inr (3, [.ref q_a2_table, .int a2_many])), (q_a2_table, .inl (cI, 9592, .inl a2_table))] := hD
        refine lv_i2l hx hb dX1_take_31 rfl ?_
        refine lv_topl (fun x7_8 e_x7_8 => ?_)
        replace h := h x7_8 e_x7_8
        refine lv_lstore (lv' := [(7, .long x7_8), (6, .int l6_16_0), (4, .long l4_16_0), (0, .ref h_a0), (3, .ref h_a2)]) hx hb dX1_take_32 hl (by decide) rfl (fun ls hl => ?_)
        refine lv_lload hx hb dX1_take_34 (lv_at hl 0 rfl) ?_
        refine lv_ldc2 hx hb hown hw_4 dX1_take_36 ?_
        refine W.lcmp hx hb dX1_take_39 ?_
        refine lv_if_lt (tgt := 115) hx hb dX1_take_40 (by decide) (fun c_9 => ?_) (fun c_9 => ?_)
        · replace c_9 := (lg_cmp_lt _ _).mp c_9
          replace h := h.1 c_9
          refine lv_lload hx hb dX1_take_115 (lv_at hl 2 rfl) ?_
          refine lv_lconst (v := (1 : Int64)) hx hb dX1_take_117 (by decide) ?_
          refine W.lcmp hx hb dX1_take_118 ?_
          refine lv_if_le (tgt := 129) hx hb dX1_take_119 (by decide) (fun c_10 => ?_) (fun c_10 => ?_)
          · replace c_10 := (lg_cmp_le _ _).mp c_10
            replace h := h.1 c_10
            have hP9 := hP.sub (ws' := [(h_a0, .inr (1, [.ref q_a0_factors, .ref q_a0_powers, .long p1, .int a0_many_16_0])), (q_a0_factors, .inl (cJ, 10, .inr (.inl a0_factors_16_0))), (q_a0_powers, .inl (cI, 10, .inl a0_powers_16_0)), (h_a2, .inr (3, [.ref q_a2_table, .int a2_many])), (q_a2_table, .inl (cI, 9592, .inl a2_table))]) [0, 1, 2, 3, 4] rfl
            have hD9 := hD.sub (ws' := [(h_a0, .inr (1, [.ref q_a0_factors, .ref q_a0_powers, .long p1, .int a0_many_16_0])), (q_a0_factors, .inl (cJ, 10, .inr (.inl a0_factors_16_0))), (q_a0_powers, .inl (cI, 10, .inl a0_powers_16_0)), (h_a2, .inr (3, [.ref q_a2_table, .int a2_many])), (q_a2_table, .inl (cI, 9592, .inl a2_table))]) [0, 1, 2, 3, 4] (by decide) rfl
            exact W.vret hx hb hr (fun t ht hW => ⟨⟨(p1, a0_many_16_0, a0_factors_16_0, a0_powers_16_0), rfl, h, by rw [ht]; exact hP9, hD9⟩, hS.F ht⟩) hS.2.2 dX1_take_129
          · replace c_10 := lc_nle c_10
            replace h := h.2 c_10
            refine lv_aload_n hx hb dX1_take_122 rfl (lv_at hl 3 rfl) ?_
            refine lv_lload hx hb dX1_take_123 (lv_at hl 2 rfl) ?_
            refine lv_iconst (v := (1 : Int32)) hx hb dX1_take_125 (by decide) ?_
            have hPc := hP.sub (ws' := [(h_a0, .inr (1, [.ref q_a0_factors, .ref q_a0_powers, .long p1, .int a0_many_16_0])), (q_a0_factors, .inl (cJ, 10, .inr (.inl a0_factors_16_0))), (q_a0_powers, .inl (cI, 10, .inl a0_powers_16_0))]) [0, 1, 2] rfl
            have hDc := hD.sub (ws' := [(h_a0, .inr (1, [.ref q_a0_factors, .ref q_a0_powers, .long p1, .int a0_many_16_0])), (q_a0_factors, .inl (cJ, 10, .inr (.inl a0_factors_16_0))), (q_a0_powers, .inl (cI, 10, .inl a0_powers_16_0))]) [0, 1, 2] (by decide) rfl
            have hFc := va_free (wc := [(h_a0, .inr (1, [.ref q_a0_factors, .ref q_a0_powers, .long p1, .int a0_many_16_0])), (q_a0_factors, .inl (cJ, 10, .inr (.inl a0_factors_16_0))), (q_a0_powers, .inl (cI, 10, .inl a0_powers_16_0))]) hD hS hA [0, 1, 2] rfl
            refine va_callv (va_runV (As := [.long l4_16_0, .int (1 : Int32)]) (rest := []) ⟨hx, hb, hml, hown, hts⟩ (c_X1_keep l dC dI cI cJ cZ _ h_a0 a0_factors_16_0 q_a0_factors a0_powers_16_0 q_a0_powers p1 a0_many_16_0 l4_16_0 (1 : Int32) _ h) (cwV 2 hts gX1_take_X1_keep rfl rfl rfl (by decide +kernel) ⟨Nat.le_of_ble_eq_true rfl, Nat.le_of_ble_eq_true rfl⟩) ⟨pre_fb, va_recv hK hPc (ci := 1) (q0 := 0) rfl rfl, pre_of hPc hDc hK hN⟩ rfl rfl hl.1 rfl (lv_room (Nat.le_of_ble_eq_true rfl)) dX1_take_126 ⟨by first | exact Nat.le_of_ble_eq_true rfl | exact Nat.le_refl _, by first | exact Nat.le_of_ble_eq_true rfl | exact Nat.le_refl _⟩) hS (fun q _ h => hFc q h) hFc (fun u t H1 locs ht hvm h hB hz1 hk1 hS => ?_)
            obtain ⟨o_11, o_12, o_13⟩ := u
            obtain ⟨hP1, hD1⟩ := hB
            rw [ht] at hP1
            try dsimp only at h
            obtain ⟨hP, hD⟩ := va_join (wr := [(h_a2, .inr (3, [.ref q_a2_table, .int a2_many])), (q_a2_table, .inl (cI, 9592, .inl a2_table))]) (w1 := [(h_a0, .inr (1, [.ref q_a0_factors, .ref q_a0_powers, .long p1, .int o_11])), (q_a0_factors, .inl (cJ, 10, .inr (.inl o_12))), (q_a0_powers, .inl (cI, 10, .inl o_13))]) hP hD [0, 1, 2] [3, 4] rfl rfl (by decide) (by decide) hk1 hFc hP1 hD1
            generalize H1 = H at hP hS ⊢
            have hP : va_P (dC, dI) vwCl [(h_a2, .inr (3, [.ref q_a2_table, .int a2_many])), (q_a2_table, .inl (cI, 9592, .inl a2_table)), (h_a0, .inr (1, [.ref q_a0_factors, .ref q_a0_powers, .long p1, .int o_11])), (q_a0_factors, .inl (cJ, 10, .inr (.inl o_12))), (q_a0_powers, .inl (cI, 10, .inl o_13))] H := hP
            have hD : va_D A [(h_a2, .inr (3, [.ref q_a2_table, .int a2_many])), (q_a2_table, .inl (cI, 9592, .inl a2_table)), (h_a0, .inr (1, [.ref q_a0_factors, .ref q_a0_powers, .long p1, .int o_11])), (q_a0_factors, .inl (cJ, 10, .inr (.inl o_12))), (q_a0_powers, .inl (cI, 10, .inl o_13))] := hD
            have hP9 := hP.sub (ws' := [(h_a0, .inr (1, [.ref q_a0_factors, .ref q_a0_powers, .long p1, .int o_11])), (q_a0_factors, .inl (cJ, 10, .inr (.inl o_12))), (q_a0_powers, .inl (cI, 10, .inl o_13)), (h_a2, .inr (3, [.ref q_a2_table, .int a2_many])), (q_a2_table, .inl (cI, 9592, .inl a2_table))]) [2, 3, 4, 0, 1] rfl
            have hD9 := hD.sub (ws' := [(h_a0, .inr (1, [.ref q_a0_factors, .ref q_a0_powers, .long p1, .int o_11])), (q_a0_factors, .inl (cJ, 10, .inr (.inl o_12))), (q_a0_powers, .inl (cI, 10, .inl o_13)), (h_a2, .inr (3, [.ref q_a2_table, .int a2_many])), (q_a2_table, .inl (cI, 9592, .inl a2_table))]) [2, 3, 4, 0, 1] (by decide) rfl
            exact W.vret hx hb hr (fun t ht hW => ⟨⟨(p1, o_11, o_12, o_13), rfl, h, by rw [ht]; exact hP9, hD9⟩, hS.F ht⟩) hS.2.2 dX1_take_129
        · replace c_9 := lc_nlt c_9
          replace h := h.2 c_9
          refine lv_lload hx hb dX1_take_43 (lv_at hl 0 rfl) ?_
          refine lv_lload hx hb dX1_take_45 (lv_at hl 0 rfl) ?_
          refine lv_lmul hx hb dX1_take_47 ?_
          refine lv_lload hx hb dX1_take_48 (lv_at hl 2 rfl) ?_
          refine W.lcmp hx hb dX1_take_50 ?_
          refine lv_if_le (tgt := 57) hx hb dX1_take_51 (by decide) (fun c_14 => ?_) (fun c_14 => ?_)
          · replace c_14 := (lg_cmp_le _ _).mp c_14
            replace h := h.1 c_14
            refine lv_iconst (v := (0 : Int32)) hx hb dX1_take_57 (by decide) ?_
            refine lv_istore (lv' := [(9, .int (0 : Int32)), (7, .long x7_8), (6, .int l6_16_0), (4, .long l4_16_0), (0, .ref h_a0), (3, .ref h_a2)]) hx hb dX1_take_58 hl (by decide) rfl (fun ls hl => ?_)
            refine lv_iconst (v := (0 : Int32)) hx hb dX1_take_60 (by decide) ?_
            refine lv_istore (lv' := [(10, .int (0 : Int32)), (9, .int (0 : Int32)), (7, .long x7_8), (6, .int l6_16_0), (4, .long l4_16_0), (0, .ref h_a0), (3, .ref h_a2)]) hx hb dX1_take_61 hl (by decide) rfl (fun ls hl => ?_)
            obtain ⟨I_63_14, m_63_14, h0_63_14, hs_63_14⟩ := h
            have key_63_14 : ∀ (n : Nat) (l10_63_14 : Int32) (l9_63_14 : Int32) (l4_63_14 : Int64), m_63_14 l10_63_14 l9_63_14 l4_63_14 < n → I_63_14 l10_63_14 l9_63_14 l4_63_14 → ∀ (ls : Array Slot) (H : Heap) (locs : List Loc), lv_has ls 11 [(10, .int l10_63_14), (9, .int l9_63_14), (7, .long x7_8), (6, .int l6_16_0), (4, .long l4_63_14), (0, .ref h_a0), (3, .ref h_a2)] → va_P (dC, dI) vwCl [(h_a0, .inr (1, [.ref q_a0_factors, .ref q_a0_powers, .long p1, .int a0_many_16_0])), (q_a0_factors, .inl (cJ, 10, .inr (.inl a0_factors_16_0))), (q_a0_powers, .inl (cI, 10, .inl a0_powers_16_0)), (h_a2, .inr (3, [.ref q_a2_table, .int a2_many])), (q_a2_table, .inl (cI, 9592, .inl a2_table))] H → va_D A [(h_a0, .inr (1, [.ref q_a0_factors, .ref q_a0_powers, .long p1, .int a0_many_16_0])), (q_a0_factors, .inl (cJ, 10, .inr (.inl a0_factors_16_0))), (q_a0_powers, .inl (cI, 10, .inl a0_powers_16_0)), (h_a2, .inr (3, [.ref q_a2_table, .int a2_many])), (q_a2_table, .inl (cI, 9592, .inl a2_table))] → va_S A s.heap H locs → W p l e (headSpec wsX1_take rm_X1_take).room s m ([.ref h_a0, .long p1, .ref h_a2] : List Value).toArray below meth c H locs 0 0 (MQ below (qc_X1_take dC dI cI cJ cZ h_a0 a0_factors q_a0_factors a0_powers q_a0_powers a0_number a0_many h_a2 a2_table q_a2_table a2_many Q A) ([.ref h_a0, .long p1, .ref h_a2] : List Value).toArray s 0 0 A) (F0 m 63 ls []) := by
              intro n
              induction n with
              | zero =>
                intro l10_63_14 l9_63_14 l4_63_14 hm
                exact absurd hm (Nat.not_lt_zero _)
              | succ n ih_63_14 =>
                intro l10_63_14 l9_63_14 l4_63_14 hm_63_14 hI ls H locs hl hP hD hS
                have h := hs_63_14 l10_63_14 l9_63_14 l4_63_14 hI
                refine lv_iload hx hb dX1_take_63 (lv_at hl 0 rfl) ?_
                refine lv_bipush (v := (34 : Int32)) hx hb dX1_take_65 (by decide) ?_
                refine lv_icmp_ge (tgt := 96) hx hb dX1_take_67 (by decide) (fun c_16 => ?_) (fun c_16 => ?_)
                · replace h := h.1 c_16
                  refine lv_iload hx hb dX1_take_96 (lv_at hl 1 rfl) ?_
                  refine lv_if_le (tgt := 109) hx hb dX1_take_98 (by decide) (fun c_17 => ?_) (fun c_17 => ?_)
                  · replace h := h.1 c_17
                    obtain ⟨x6_18, e_x6_18⟩ : ∃ y : Int32, y = l6_16_0 + (1 : Int32) := ⟨_, rfl⟩
                    replace h := h x6_18 e_x6_18
                    refine lv_iinc (v := x6_18) (lv' := [(6, .int x6_18), (10, .int l10_63_14), (9, .int l9_63_14), (7, .long x7_8), (4, .long l4_63_14), (0, .ref h_a0), (3, .ref h_a2)]) hx hb dX1_take_109 hl (k := 3) rfl (by rw [e_x6_18]; rfl) (by decide) rfl (fun ls hl => ?_)
                    refine lv_goto (tgt := 16) hx hb dX1_take_112 (by decide) ?_
                    exact ih_16_0 x6_18 l4_63_14 a0_many_16_0 a0_factors_16_0 a0_powers_16_0 (Nat.lt_of_lt_of_le h.2 (Nat.le_of_lt_succ hm_16_0)) h.1 _ _ _ (lv_sub hl [0, 4, 5, 6] rfl) (hP.sub [0, 1, 2, 3, 4] rfl) (hD.sub [0, 1, 2, 3, 4] (by decide) rfl) hS
                  · replace h := h.2 c_17
                    refine lv_aload_n hx hb dX1_take_101 rfl (lv_at hl 5 rfl) ?_
                    refine lv_lload hx hb dX1_take_102 (lv_at hl 2 rfl) ?_
                    refine lv_iload hx hb dX1_take_104 (lv_at hl 1 rfl) ?_
                    have hPc := hP.sub (ws' := [(h_a0, .inr (1, [.ref q_a0_factors, .ref q_a0_powers, .long p1, .int a0_many_16_0])), (q_a0_factors, .inl (cJ, 10, .inr (.inl a0_factors_16_0))), (q_a0_powers, .inl (cI, 10, .inl a0_powers_16_0))]) [0, 1, 2] rfl
                    have hDc := hD.sub (ws' := [(h_a0, .inr (1, [.ref q_a0_factors, .ref q_a0_powers, .long p1, .int a0_many_16_0])), (q_a0_factors, .inl (cJ, 10, .inr (.inl a0_factors_16_0))), (q_a0_powers, .inl (cI, 10, .inl a0_powers_16_0))]) [0, 1, 2] (by decide) rfl
                    have hFc := va_free (wc := [(h_a0, .inr (1, [.ref q_a0_factors, .ref q_a0_powers, .long p1, .int a0_many_16_0])), (q_a0_factors, .inl (cJ, 10, .inr (.inl a0_factors_16_0))), (q_a0_powers, .inl (cI, 10, .inl a0_powers_16_0))]) hD hS hA [0, 1, 2] rfl
                    refine va_callv (va_runV (As := [.long x7_8, .int l9_63_14]) (rest := []) ⟨hx, hb, hml, hown, hts⟩ (c_X1_keep l dC dI cI cJ cZ _ h_a0 a0_factors_16_0 q_a0_factors a0_powers_16_0 q_a0_powers p1 a0_many_16_0 x7_8 l9_63_14 _ h) (cwV 2 hts gX1_take_X1_keep rfl rfl rfl (by decide +kernel) ⟨Nat.le_of_ble_eq_true rfl, Nat.le_of_ble_eq_true rfl⟩) ⟨pre_fb, va_recv hK hPc (ci := 1) (q0 := 0) rfl rfl, pre_of hPc hDc hK hN⟩ rfl rfl hl.1 rfl (lv_room (Nat.le_of_ble_eq_true rfl)) dX1_take_106 ⟨by first | exact Nat.le_of_ble_eq_true rfl | exact Nat.le_refl _, by first | exact Nat.le_of_ble_eq_true rfl | exact Nat.le_refl _⟩) hS (fun q _ h => hFc q h) hFc (fun u t H1 locs ht hvm h hB hz1 hk1 hS => ?_)
                    obtain ⟨o_19, o_20, o_21⟩ := u
                    obtain ⟨hP1, hD1⟩ := hB
                    rw [ht] at hP1
                    try dsimp only at h
                    obtain ⟨hP, hD⟩ := va_join (wr := [(h_a2, .inr (3, [.ref q_a2_table, .int a2_many])), (q_a2_table, .inl (cI, 9592, .inl a2_table))]) (w1 := [(h_a0, .inr (1, [.ref q_a0_factors, .ref q_a0_powers, .long p1, .int o_19])), (q_a0_factors, .inl (cJ, 10, .inr (.inl o_20))), (q_a0_powers, .inl (cI, 10, .inl o_21))]) hP hD [0, 1, 2] [3, 4] rfl rfl (by decide) (by decide) hk1 hFc hP1 hD1
                    generalize H1 = H at hP hS ⊢
                    have hP : va_P (dC, dI) vwCl [(h_a2, .inr (3, [.ref q_a2_table, .int a2_many])), (q_a2_table, .inl (cI, 9592, .inl a2_table)), (h_a0, .inr (1, [.ref q_a0_factors, .ref q_a0_powers, .long p1, .int o_19])), (q_a0_factors, .inl (cJ, 10, .inr (.inl o_20))), (q_a0_powers, .inl (cI, 10, .inl o_21))] H := hP
                    have hD : va_D A [(h_a2, .inr (3, [.ref q_a2_table, .int a2_many])), (q_a2_table, .inl (cI, 9592, .inl a2_table)), (h_a0, .inr (1, [.ref q_a0_factors, .ref q_a0_powers, .long p1, .int o_19])), (q_a0_factors, .inl (cJ, 10, .inr (.inl o_20))), (q_a0_powers, .inl (cI, 10, .inl o_21))] := hD
                    obtain ⟨x6_22, e_x6_22⟩ : ∃ y : Int32, y = l6_16_0 + (1 : Int32) := ⟨_, rfl⟩
                    replace h := h x6_22 e_x6_22
                    refine lv_iinc (v := x6_22) (lv' := [(6, .int x6_22), (10, .int l10_63_14), (9, .int l9_63_14), (7, .long x7_8), (4, .long l4_63_14), (0, .ref h_a0), (3, .ref h_a2)]) hx hb dX1_take_109 hl (k := 3) rfl (by rw [e_x6_22]; rfl) (by decide) rfl (fun ls hl => ?_)
                    refine lv_goto (tgt := 16) hx hb dX1_take_112 (by decide) ?_
                    exact ih_16_0 x6_22 l4_63_14 o_19 o_20 o_21 (Nat.lt_of_lt_of_le h.2 (Nat.le_of_lt_succ hm_16_0)) h.1 _ _ _ (lv_sub hl [0, 4, 5, 6] rfl) (hP.sub [2, 3, 4, 0, 1] rfl) (hD.sub [2, 3, 4, 0, 1] (by decide) rfl) hS
                · replace h := h.2 c_16
                  refine lv_lload hx hb dX1_take_70 (lv_at hl 4 rfl) ?_
                  refine lv_lload hx hb dX1_take_72 (lv_at hl 2 rfl) ?_
                  obtain ⟨hne_23, h⟩ := h
                  refine lv_lrem hx hb dX1_take_74 hne_23 ?_
                  refine lv_lconst (v := (0 : Int64)) hx hb dX1_take_75 (by decide) ?_
                  refine W.lcmp hx hb dX1_take_76 ?_
                  refine lv_if_ne (tgt := 96) hx hb dX1_take_77 (by decide) (fun c_24 => ?_) (fun c_24 => ?_)
                  · replace c_24 := lc_neq c_24
                    replace h := h.2 c_24
                    refine lv_iload hx hb dX1_take_96 (lv_at hl 1 rfl) ?_
                    refine lv_if_le (tgt := 109) hx hb dX1_take_98 (by decide) (fun c_25 => ?_) (fun c_25 => ?_)
                    · replace h := h.1 c_25
                      obtain ⟨x6_26, e_x6_26⟩ : ∃ y : Int32, y = l6_16_0 + (1 : Int32) := ⟨_, rfl⟩
                      replace h := h x6_26 e_x6_26
                      refine lv_iinc (v := x6_26) (lv' := [(6, .int x6_26), (10, .int l10_63_14), (9, .int l9_63_14), (7, .long x7_8), (4, .long l4_63_14), (0, .ref h_a0), (3, .ref h_a2)]) hx hb dX1_take_109 hl (k := 3) rfl (by rw [e_x6_26]; rfl) (by decide) rfl (fun ls hl => ?_)
                      refine lv_goto (tgt := 16) hx hb dX1_take_112 (by decide) ?_
                      exact ih_16_0 x6_26 l4_63_14 a0_many_16_0 a0_factors_16_0 a0_powers_16_0 (Nat.lt_of_lt_of_le h.2 (Nat.le_of_lt_succ hm_16_0)) h.1 _ _ _ (lv_sub hl [0, 4, 5, 6] rfl) (hP.sub [0, 1, 2, 3, 4] rfl) (hD.sub [0, 1, 2, 3, 4] (by decide) rfl) hS
                    · replace h := h.2 c_25
                      refine lv_aload_n hx hb dX1_take_101 rfl (lv_at hl 5 rfl) ?_
                      refine lv_lload hx hb dX1_take_102 (lv_at hl 2 rfl) ?_
                      refine lv_iload hx hb dX1_take_104 (lv_at hl 1 rfl) ?_
                      have hPc := hP.sub (ws' := [(h_a0, .inr (1, [.ref q_a0_factors, .ref q_a0_powers, .long p1, .int a0_many_16_0])), (q_a0_factors, .inl (cJ, 10, .inr (.inl a0_factors_16_0))), (q_a0_powers, .inl (cI, 10, .inl a0_powers_16_0))]) [0, 1, 2] rfl
                      have hDc := hD.sub (ws' := [(h_a0, .inr (1, [.ref q_a0_factors, .ref q_a0_powers, .long p1, .int a0_many_16_0])), (q_a0_factors, .inl (cJ, 10, .inr (.inl a0_factors_16_0))), (q_a0_powers, .inl (cI, 10, .inl a0_powers_16_0))]) [0, 1, 2] (by decide) rfl
                      have hFc := va_free (wc := [(h_a0, .inr (1, [.ref q_a0_factors, .ref q_a0_powers, .long p1, .int a0_many_16_0])), (q_a0_factors, .inl (cJ, 10, .inr (.inl a0_factors_16_0))), (q_a0_powers, .inl (cI, 10, .inl a0_powers_16_0))]) hD hS hA [0, 1, 2] rfl
                      refine va_callv (va_runV (As := [.long x7_8, .int l9_63_14]) (rest := []) ⟨hx, hb, hml, hown, hts⟩ (c_X1_keep l dC dI cI cJ cZ _ h_a0 a0_factors_16_0 q_a0_factors a0_powers_16_0 q_a0_powers p1 a0_many_16_0 x7_8 l9_63_14 _ h) (cwV 2 hts gX1_take_X1_keep rfl rfl rfl (by decide +kernel) ⟨Nat.le_of_ble_eq_true rfl, Nat.le_of_ble_eq_true rfl⟩) ⟨pre_fb, va_recv hK hPc (ci := 1) (q0 := 0) rfl rfl, pre_of hPc hDc hK hN⟩ rfl rfl hl.1 rfl (lv_room (Nat.le_of_ble_eq_true rfl)) dX1_take_106 ⟨by first | exact Nat.le_of_ble_eq_true rfl | exact Nat.le_refl _, by first | exact Nat.le_of_ble_eq_true rfl | exact Nat.le_refl _⟩) hS (fun q _ h => hFc q h) hFc (fun u t H1 locs ht hvm h hB hz1 hk1 hS => ?_)
                      obtain ⟨o_27, o_28, o_29⟩ := u
                      obtain ⟨hP1, hD1⟩ := hB
                      rw [ht] at hP1
                      try dsimp only at h
                      obtain ⟨hP, hD⟩ := va_join (wr := [(h_a2, .inr (3, [.ref q_a2_table, .int a2_many])), (q_a2_table, .inl (cI, 9592, .inl a2_table))]) (w1 := [(h_a0, .inr (1, [.ref q_a0_factors, .ref q_a0_powers, .long p1, .int o_27])), (q_a0_factors, .inl (cJ, 10, .inr (.inl o_28))), (q_a0_powers, .inl (cI, 10, .inl o_29))]) hP hD [0, 1, 2] [3, 4] rfl rfl (by decide) (by decide) hk1 hFc hP1 hD1
                      generalize H1 = H at hP hS ⊢
                      have hP : va_P (dC, dI) vwCl [(h_a2, .inr (3, [.ref q_a2_table, .int a2_many])), (q_a2_table, .inl (cI, 9592, .inl a2_table)), (h_a0, .inr (1, [.ref q_a0_factors, .ref q_a0_powers, .long p1, .int o_27])), (q_a0_factors, .inl (cJ, 10, .inr (.inl o_28))), (q_a0_powers, .inl (cI, 10, .inl o_29))] H := hP
                      have hD : va_D A [(h_a2, .inr (3, [.ref q_a2_table, .int a2_many])), (q_a2_table, .inl (cI, 9592, .inl a2_table)), (h_a0, .inr (1, [.ref q_a0_factors, .ref q_a0_powers, .long p1, .int o_27])), (q_a0_factors, .inl (cJ, 10, .inr (.inl o_28))), (q_a0_powers, .inl (cI, 10, .inl o_29))] := hD
                      obtain ⟨x6_30, e_x6_30⟩ : ∃ y : Int32, y = l6_16_0 + (1 : Int32) := ⟨_, rfl⟩
                      replace h := h x6_30 e_x6_30
                      refine lv_iinc (v := x6_30) (lv' := [(6, .int x6_30), (10, .int l10_63_14), (9, .int l9_63_14), (7, .long x7_8), (4, .long l4_63_14), (0, .ref h_a0), (3, .ref h_a2)]) hx hb dX1_take_109 hl (k := 3) rfl (by rw [e_x6_30]; rfl) (by decide) rfl (fun ls hl => ?_)
                      refine lv_goto (tgt := 16) hx hb dX1_take_112 (by decide) ?_
                      exact ih_16_0 x6_30 l4_63_14 o_27 o_28 o_29 (Nat.lt_of_lt_of_le h.2 (Nat.le_of_lt_succ hm_16_0)) h.1 _ _ _ (lv_sub hl [0, 4, 5, 6] rfl) (hP.sub [2, 3, 4, 0, 1] rfl) (hD.sub [2, 3, 4, 0, 1] (by decide) rfl) hS
                  · replace c_24 := (lg_cmp_eq _ _).mp c_24
                    replace h := h.1 c_24
                    refine lv_lload hx hb dX1_take_80 (lv_at hl 4 rfl) ?_
                    refine lv_lload hx hb dX1_take_82 (lv_at hl 2 rfl) ?_
                    obtain ⟨hne_31, h⟩ := h
                    refine lv_ldiv hx hb dX1_take_84 hne_31 ?_
                    refine lv_topl (fun x4_32 e_x4_32 => ?_)
                    replace h := h x4_32 e_x4_32
                    refine lv_lstore (lv' := [(4, .long x4_32), (10, .int l10_63_14), (9, .int l9_63_14), (7, .long x7_8), (6, .int l6_16_0), (0, .ref h_a0), (3, .ref h_a2)]) hx hb dX1_take_85 hl (by decide) rfl (fun ls hl => ?_)
                    obtain ⟨x9_33, e_x9_33⟩ : ∃ y : Int32, y = l9_63_14 + (1 : Int32) := ⟨_, rfl⟩
                    replace h := h x9_33 e_x9_33
                    refine lv_iinc (v := x9_33) (lv' := [(9, .int x9_33), (4, .long x4_32), (10, .int l10_63_14), (7, .long x7_8), (6, .int l6_16_0), (0, .ref h_a0), (3, .ref h_a2)]) hx hb dX1_take_87 hl (k := 2) rfl (by rw [e_x9_33]; rfl) (by decide) rfl (fun ls hl => ?_)
                    obtain ⟨x10_34, e_x10_34⟩ : ∃ y : Int32, y = l10_63_14 + (1 : Int32) := ⟨_, rfl⟩
                    replace h := h x10_34 e_x10_34
                    refine lv_iinc (v := x10_34) (lv' := [(10, .int x10_34), (9, .int x9_33), (4, .long x4_32), (7, .long x7_8), (6, .int l6_16_0), (0, .ref h_a0), (3, .ref h_a2)]) hx hb dX1_take_90 hl (k := 2) rfl (by rw [e_x10_34]; rfl) (by decide) rfl (fun ls hl => ?_)
                    refine lv_goto (tgt := 63) hx hb dX1_take_93 (by decide) ?_
                    exact ih_63_14 x10_34 x9_33 x4_32 (Nat.lt_of_lt_of_le h.2 (Nat.le_of_lt_succ hm_63_14)) h.1 _ _ _ (lv_sub hl [0, 1, 3, 4, 2, 5, 6] rfl) (hP.sub [0, 1, 2, 3, 4] rfl) (hD.sub [0, 1, 2, 3, 4] (by decide) rfl) hS
            exact key_63_14 _ (0 : Int32) (0 : Int32) l4_16_0 (Nat.lt_succ_self _) h0_63_14 _ _ _ (lv_sub hl [0, 1, 2, 3, 4, 5, 6] rfl) (hP.sub [0, 1, 2, 3, 4] rfl) (hD.sub [0, 1, 2, 3, 4] (by decide) rfl) hS
          · replace c_14 := lc_nle c_14
            replace h := h.2 c_14
            refine lv_goto (tgt := 115) hx hb dX1_take_54 (by decide) ?_
            refine lv_lload hx hb dX1_take_115 (lv_at hl 2 rfl) ?_
            refine lv_lconst (v := (1 : Int64)) hx hb dX1_take_117 (by decide) ?_
            refine W.lcmp hx hb dX1_take_118 ?_
            refine lv_if_le (tgt := 129) hx hb dX1_take_119 (by decide) (fun c_35 => ?_) (fun c_35 => ?_)
            · replace c_35 := (lg_cmp_le _ _).mp c_35
              replace h := h.1 c_35
              have hP9 := hP.sub (ws' := [(h_a0, .inr (1, [.ref q_a0_factors, .ref q_a0_powers, .long p1, .int a0_many_16_0])), (q_a0_factors, .inl (cJ, 10, .inr (.inl a0_factors_16_0))), (q_a0_powers, .inl (cI, 10, .inl a0_powers_16_0)), (h_a2, .inr (3, [.ref q_a2_table, .int a2_many])), (q_a2_table, .inl (cI, 9592, .inl a2_table))]) [0, 1, 2, 3, 4] rfl
              have hD9 := hD.sub (ws' := [(h_a0, .inr (1, [.ref q_a0_factors, .ref q_a0_powers, .long p1, .int a0_many_16_0])), (q_a0_factors, .inl (cJ, 10, .inr (.inl a0_factors_16_0))), (q_a0_powers, .inl (cI, 10, .inl a0_powers_16_0)), (h_a2, .inr (3, [.ref q_a2_table, .int a2_many])), (q_a2_table, .inl (cI, 9592, .inl a2_table))]) [0, 1, 2, 3, 4] (by decide) rfl
              exact W.vret hx hb hr (fun t ht hW => ⟨⟨(p1, a0_many_16_0, a0_factors_16_0, a0_powers_16_0), rfl, h, by rw [ht]; exact hP9, hD9⟩, hS.F ht⟩) hS.2.2 dX1_take_129
            · replace c_35 := lc_nle c_35
              replace h := h.2 c_35
              refine lv_aload_n hx hb dX1_take_122 rfl (lv_at hl 3 rfl) ?_
              refine lv_lload hx hb dX1_take_123 (lv_at hl 2 rfl) ?_
              refine lv_iconst (v := (1 : Int32)) hx hb dX1_take_125 (by decide) ?_
              have hPc := hP.sub (ws' := [(h_a0, .inr (1, [.ref q_a0_factors, .ref q_a0_powers, .long p1, .int a0_many_16_0])), (q_a0_factors, .inl (cJ, 10, .inr (.inl a0_factors_16_0))), (q_a0_powers, .inl (cI, 10, .inl a0_powers_16_0))]) [0, 1, 2] rfl
              have hDc := hD.sub (ws' := [(h_a0, .inr (1, [.ref q_a0_factors, .ref q_a0_powers, .long p1, .int a0_many_16_0])), (q_a0_factors, .inl (cJ, 10, .inr (.inl a0_factors_16_0))), (q_a0_powers, .inl (cI, 10, .inl a0_powers_16_0))]) [0, 1, 2] (by decide) rfl
              have hFc := va_free (wc := [(h_a0, .inr (1, [.ref q_a0_factors, .ref q_a0_powers, .long p1, .int a0_many_16_0])), (q_a0_factors, .inl (cJ, 10, .inr (.inl a0_factors_16_0))), (q_a0_powers, .inl (cI, 10, .inl a0_powers_16_0))]) hD hS hA [0, 1, 2] rfl
              refine va_callv (va_runV (As := [.long l4_16_0, .int (1 : Int32)]) (rest := []) ⟨hx, hb, hml, hown, hts⟩ (c_X1_keep l dC dI cI cJ cZ _ h_a0 a0_factors_16_0 q_a0_factors a0_powers_16_0 q_a0_powers p1 a0_many_16_0 l4_16_0 (1 : Int32) _ h) (cwV 2 hts gX1_take_X1_keep rfl rfl rfl (by decide +kernel) ⟨Nat.le_of_ble_eq_true rfl, Nat.le_of_ble_eq_true rfl⟩) ⟨pre_fb, va_recv hK hPc (ci := 1) (q0 := 0) rfl rfl, pre_of hPc hDc hK hN⟩ rfl rfl hl.1 rfl (lv_room (Nat.le_of_ble_eq_true rfl)) dX1_take_126 ⟨by first | exact Nat.le_of_ble_eq_true rfl | exact Nat.le_refl _, by first | exact Nat.le_of_ble_eq_true rfl | exact Nat.le_refl _⟩) hS (fun q _ h => hFc q h) hFc (fun u t H1 locs ht hvm h hB hz1 hk1 hS => ?_)
              obtain ⟨o_36, o_37, o_38⟩ := u
              obtain ⟨hP1, hD1⟩ := hB
              rw [ht] at hP1
              try dsimp only at h
              obtain ⟨hP, hD⟩ := va_join (wr := [(h_a2, .inr (3, [.ref q_a2_table, .int a2_many])), (q_a2_table, .inl (cI, 9592, .inl a2_table))]) (w1 := [(h_a0, .inr (1, [.ref q_a0_factors, .ref q_a0_powers, .long p1, .int o_36])), (q_a0_factors, .inl (cJ, 10, .inr (.inl o_37))), (q_a0_powers, .inl (cI, 10, .inl o_38))]) hP hD [0, 1, 2] [3, 4] rfl rfl (by decide) (by decide) hk1 hFc hP1 hD1
              generalize H1 = H at hP hS ⊢
              have hP : va_P (dC, dI) vwCl [(h_a2, .inr (3, [.ref q_a2_table, .int a2_many])), (q_a2_table, .inl (cI, 9592, .inl a2_table)), (h_a0, .inr (1, [.ref q_a0_factors, .ref q_a0_powers, .long p1, .int o_36])), (q_a0_factors, .inl (cJ, 10, .inr (.inl o_37))), (q_a0_powers, .inl (cI, 10, .inl o_38))] H := hP
              have hD : va_D A [(h_a2, .inr (3, [.ref q_a2_table, .int a2_many])), (q_a2_table, .inl (cI, 9592, .inl a2_table)), (h_a0, .inr (1, [.ref q_a0_factors, .ref q_a0_powers, .long p1, .int o_36])), (q_a0_factors, .inl (cJ, 10, .inr (.inl o_37))), (q_a0_powers, .inl (cI, 10, .inl o_38))] := hD
              have hP9 := hP.sub (ws' := [(h_a0, .inr (1, [.ref q_a0_factors, .ref q_a0_powers, .long p1, .int o_36])), (q_a0_factors, .inl (cJ, 10, .inr (.inl o_37))), (q_a0_powers, .inl (cI, 10, .inl o_38)), (h_a2, .inr (3, [.ref q_a2_table, .int a2_many])), (q_a2_table, .inl (cI, 9592, .inl a2_table))]) [2, 3, 4, 0, 1] rfl
              have hD9 := hD.sub (ws' := [(h_a0, .inr (1, [.ref q_a0_factors, .ref q_a0_powers, .long p1, .int o_36])), (q_a0_factors, .inl (cJ, 10, .inr (.inl o_37))), (q_a0_powers, .inl (cI, 10, .inl o_38)), (h_a2, .inr (3, [.ref q_a2_table, .int a2_many])), (q_a2_table, .inl (cI, 9592, .inl a2_table))]) [2, 3, 4, 0, 1] (by decide) rfl
              exact W.vret hx hb hr (fun t ht hW => ⟨⟨(p1, o_36, o_37, o_38), rfl, h, by rw [ht]; exact hP9, hD9⟩, hS.F ht⟩) hS.2.2 dX1_take_129
  exact key_16_0 _ (0 : Int32) p1 (0 : Int32) a0_factors a0_powers (Nat.lt_succ_self _) h0_16_0 _ _ _ (lv_sub hl [0, 1, 2, 4] rfl) (hP.sub [0, 1, 2, 3, 4] rfl) (hD.sub [0, 1, 2, 3, 4] (by decide) rfl) hS
def wp_X1_primeOf (a0_factors : Nat → Int64) (a0_many : Int32) (p1 : Int32) (Q : Int64 → Prop) : Prop :=
  ((p1 < (0 : Int32) → Q (0 : Int64)) ∧ (¬ p1 < (0 : Int32) → ((a0_many ≤ p1 → Q (0 : Int64)) ∧ (¬ a0_many ≤ p1 → (vp_in p1 10 ∧ Q (a0_factors p1.toNatClampNeg))))))
abbrev rm_X1_primeOf : Room := { frames := 0, cells := 0, slots := 0, locals := 0 }
abbrev qc_X1_primeOf (dC : Nat → ClassId) (dI : Nat → Nat → Nat) (cI cJ cZ : ClassId) (h_a0 : Nat) (a0_factors : Nat → Int64) (q_a0_factors : Nat) (w_a0_powers : Value) (a0_number : Int64) (a0_many : Int32) (Q : Int64 → Prop) (A : Nat → Prop) : Array Value → State → Outcome → State → Prop := va_Ql (fun (r : Int64) (_ : Unit) => Q r) (post_ dC dI A (fun (u : Unit) => [(h_a0, .inr (1, [.ref q_a0_factors, w_a0_powers, .long a0_number, .int a0_many])), (q_a0_factors, .inl (cJ, 10, .inr (.inl a0_factors)))])) A
set_option maxHeartbeats 4000000 in
set_option maxRecDepth 100000 in
theorem c_X1_primeOf (l : Launch) (dC : Nat → ClassId) (dI : Nat → Nat → Nat) (cI cJ cZ : ClassId) (sz : Nat) (h_a0 : Nat) (a0_factors : Nat → Int64) (q_a0_factors : Nat) (w_a0_powers : Value) (a0_number : Int64) (a0_many : Int32) (p1 : Int32) (Q : Int64 → Prop) (hQ : wp_X1_primeOf a0_factors a0_many p1 Q) : Met l yX1_primeOf wsX1_primeOf rm_X1_primeOf (pre_ dC dI cI cJ cZ [.ref h_a0, .int p1] [(h_a0, .inr (1, [.ref q_a0_factors, w_a0_powers, .long a0_number, .int a0_many])), (q_a0_factors, .inl (cJ, 10, .inr (.inl a0_factors)))] sz) (qc_X1_primeOf dC dI cI cJ cZ h_a0 a0_factors q_a0_factors w_a0_powers a0_number a0_many Q (va_A [(h_a0, .inr (1, [.ref q_a0_factors, w_a0_powers, .long a0_number, .int a0_many])), (q_a0_factors, .inl (cJ, 10, .inr (.inl a0_factors)))] sz)) 0 0 (va_A [(h_a0, .inr (1, [.ref q_a0_factors, w_a0_powers, .long a0_number, .int a0_many])), (q_a0_factors, .inl (cJ, 10, .inr (.inl a0_factors)))] sz) := by
  refine Met.ofW (cc := cX1_primeOf) (maxL := 2) (ret := (some .long)) (by decide) rfl ?_
  intro p e s m args below meth c s₁ B hml hv
  obtain ⟨rfl, hsz, hP, hK, hN, hD0⟩ := hv
  have hx := B.exec
  have hb := B.bytes
  have hr := B.returns
  have hts := atoms_spec (ws := wsX1_primeOf) B.pre
  have hown : s.vm.findClass RX1 = some m.cls := findClass_of_methodNamed B.named
  subst hsz
  have hD := hD0.self (sz := s.heap.size)
  generalize hAe : va_A [(h_a0, .inr (1, [.ref q_a0_factors, w_a0_powers, .long a0_number, .int a0_many])), (q_a0_factors, .inl (cJ, 10, .inr (.inl a0_factors)))] s.heap.size = A at hD ⊢
  have hA : ∀ q : Nat, s.heap.size ≤ q → A q := fun q h => by rw [← hAe]; exact Or.inr h
  have hS : va_S A s.heap s.heap [] := va_S.rf
  have hl := lv_entry ([.ref h_a0, .int p1]) (n := 2) (Nat.le_of_ble_eq_true rfl)
  rw [lg_entry_eq]
  generalize (lg_sl ([.ref h_a0, .int p1]) ++ List.replicate (2 - (lg_sl ([.ref h_a0, .int p1])).length) Slot.unset).toArray = ls at hl ⊢
  have hl : lv_has ls 2 [(0, .ref h_a0), (1, .int p1)] := hl
  have h := hQ
  unfold wp_X1_primeOf at h
  have hw_0 := hts (.fieldLink RX1 21 "NumberSieves$Parting" "many" "I") (by decide +kernel)
  have hin_X1 : ∀ w ∈ wsX10, w ∈ wsX1_primeOf := by decide +kernel
  have hw_2 := hts (.fieldLink RX1 9 "NumberSieves$Parting" "factors" "[J") (by decide +kernel)
  refine lv_iload_n hx hb dX1_primeOf_0 rfl (lv_at hl 1 rfl) ?_
  refine lv_if_lt (tgt := 21) hx hb dX1_primeOf_1 (by decide) (fun c_1 => ?_) (fun c_1 => ?_)
  · replace h := h.1 c_1
    refine lv_lconst (v := (0 : Int64)) hx hb dX1_primeOf_21 (by decide) ?_
    have hP9 := hP.sub (ws' := [(h_a0, .inr (1, [.ref q_a0_factors, w_a0_powers, .long a0_number, .int a0_many])), (q_a0_factors, .inl (cJ, 10, .inr (.inl a0_factors)))]) [0, 1] rfl
    have hD9 := hD.sub (ws' := [(h_a0, .inr (1, [.ref q_a0_factors, w_a0_powers, .long a0_number, .int a0_many])), (q_a0_factors, .inl (cJ, 10, .inr (.inl a0_factors)))]) [0, 1] (by decide) rfl
    exact W.lret (v := (0 : Int64)) hx hb hr (fun t ht hW => ⟨⟨_, (), rfl, h, by rw [ht]; exact hP9, hD9⟩, hS.F ht⟩) hS.2.2 dX1_primeOf_22
  · replace h := h.2 c_1
    refine lv_iload_n hx hb dX1_primeOf_4 rfl (lv_at hl 1 rfl) ?_
    refine lv_aload_n hx hb dX1_primeOf_5 rfl (lv_at hl 0 rfl) ?_
    refine va_get (D := (dC, dI)) (ci := 1) (v := .int a0_many) (C := RX1) (T := TX1) (N := 4) hx hb hts hin_X1 hown hK hP 0 rfl rfl 3 (by decide) hw_0 (fun _ h9 => h9) rfl dX1_primeOf_6 ?_
    refine lv_icmp_ge (tgt := 21) hx hb dX1_primeOf_9 (by decide) (fun c_2 => ?_) (fun c_2 => ?_)
    · replace h := h.1 c_2
      refine lv_lconst (v := (0 : Int64)) hx hb dX1_primeOf_21 (by decide) ?_
      have hP9 := hP.sub (ws' := [(h_a0, .inr (1, [.ref q_a0_factors, w_a0_powers, .long a0_number, .int a0_many])), (q_a0_factors, .inl (cJ, 10, .inr (.inl a0_factors)))]) [0, 1] rfl
      have hD9 := hD.sub (ws' := [(h_a0, .inr (1, [.ref q_a0_factors, w_a0_powers, .long a0_number, .int a0_many])), (q_a0_factors, .inl (cJ, 10, .inr (.inl a0_factors)))]) [0, 1] (by decide) rfl
      exact W.lret (v := (0 : Int64)) hx hb hr (fun t ht hW => ⟨⟨_, (), rfl, h, by rw [ht]; exact hP9, hD9⟩, hS.F ht⟩) hS.2.2 dX1_primeOf_22
    · replace h := h.2 c_2
      refine lv_aload_n hx hb dX1_primeOf_12 rfl (lv_at hl 0 rfl) ?_
      refine va_get (D := (dC, dI)) (ci := 1) (v := .ref q_a0_factors) (C := RX1) (T := TX1) (N := 4) hx hb hts hin_X1 hown hK hP 0 rfl rfl 0 (by decide) hw_2 (fun _ h9 => h9) rfl dX1_primeOf_13 ?_
      refine lv_iload_n hx hb dX1_primeOf_16 rfl (lv_at hl 1 rfl) ?_
      obtain ⟨hin_3, h⟩ := h
      refine va_lald hx hb hK hP 1 1 rfl rfl hin_3 dX1_primeOf_17 ?_
      refine lv_goto (tgt := 22) hx hb dX1_primeOf_18 (by decide) ?_
      have hP9 := hP.sub (ws' := [(h_a0, .inr (1, [.ref q_a0_factors, w_a0_powers, .long a0_number, .int a0_many])), (q_a0_factors, .inl (cJ, 10, .inr (.inl a0_factors)))]) [0, 1] rfl
      have hD9 := hD.sub (ws' := [(h_a0, .inr (1, [.ref q_a0_factors, w_a0_powers, .long a0_number, .int a0_many])), (q_a0_factors, .inl (cJ, 10, .inr (.inl a0_factors)))]) [0, 1] (by decide) rfl
      exact W.lret (v := (a0_factors p1.toNatClampNeg)) hx hb hr (fun t ht hW => ⟨⟨_, (), rfl, h, by rw [ht]; exact hP9, hD9⟩, hS.F ht⟩) hS.2.2 dX1_primeOf_22
def wp_X1_powerOf (a0_powers : Nat → Int32) (a0_many : Int32) (p1 : Int32) (Q : Int32 → Prop) : Prop :=
  ((p1 < (0 : Int32) → Q (0 : Int32)) ∧ (¬ p1 < (0 : Int32) → ((a0_many ≤ p1 → Q (0 : Int32)) ∧ (¬ a0_many ≤ p1 → (vp_in p1 10 ∧ Q (a0_powers p1.toNatClampNeg))))))
abbrev rm_X1_powerOf : Room := { frames := 0, cells := 0, slots := 0, locals := 0 }
abbrev qc_X1_powerOf (dC : Nat → ClassId) (dI : Nat → Nat → Nat) (cI cJ cZ : ClassId) (h_a0 : Nat) (w_a0_factors : Value) (a0_powers : Nat → Int32) (q_a0_powers : Nat) (a0_number : Int64) (a0_many : Int32) (Q : Int32 → Prop) (A : Nat → Prop) : Array Value → State → Outcome → State → Prop := va_Qi (fun (r : Int32) (_ : Unit) => Q r) (post_ dC dI A (fun (u : Unit) => [(h_a0, .inr (1, [w_a0_factors, .ref q_a0_powers, .long a0_number, .int a0_many])), (q_a0_powers, .inl (cI, 10, .inl a0_powers))])) A
set_option maxHeartbeats 4000000 in
set_option maxRecDepth 100000 in
theorem c_X1_powerOf (l : Launch) (dC : Nat → ClassId) (dI : Nat → Nat → Nat) (cI cJ cZ : ClassId) (sz : Nat) (h_a0 : Nat) (w_a0_factors : Value) (a0_powers : Nat → Int32) (q_a0_powers : Nat) (a0_number : Int64) (a0_many : Int32) (p1 : Int32) (Q : Int32 → Prop) (hQ : wp_X1_powerOf a0_powers a0_many p1 Q) : Met l yX1_powerOf wsX1_powerOf rm_X1_powerOf (pre_ dC dI cI cJ cZ [.ref h_a0, .int p1] [(h_a0, .inr (1, [w_a0_factors, .ref q_a0_powers, .long a0_number, .int a0_many])), (q_a0_powers, .inl (cI, 10, .inl a0_powers))] sz) (qc_X1_powerOf dC dI cI cJ cZ h_a0 w_a0_factors a0_powers q_a0_powers a0_number a0_many Q (va_A [(h_a0, .inr (1, [w_a0_factors, .ref q_a0_powers, .long a0_number, .int a0_many])), (q_a0_powers, .inl (cI, 10, .inl a0_powers))] sz)) 0 0 (va_A [(h_a0, .inr (1, [w_a0_factors, .ref q_a0_powers, .long a0_number, .int a0_many])), (q_a0_powers, .inl (cI, 10, .inl a0_powers))] sz) := by
  refine Met.ofW (cc := cX1_powerOf) (maxL := 2) (ret := (some .int)) (by decide) rfl ?_
  intro p e s m args below meth c s₁ B hml hv
  obtain ⟨rfl, hsz, hP, hK, hN, hD0⟩ := hv
  have hx := B.exec
  have hb := B.bytes
  have hr := B.returns
  have hts := atoms_spec (ws := wsX1_powerOf) B.pre
  have hown : s.vm.findClass RX1 = some m.cls := findClass_of_methodNamed B.named
  subst hsz
  have hD := hD0.self (sz := s.heap.size)
  generalize hAe : va_A [(h_a0, .inr (1, [w_a0_factors, .ref q_a0_powers, .long a0_number, .int a0_many])), (q_a0_powers, .inl (cI, 10, .inl a0_powers))] s.heap.size = A at hD ⊢
  have hA : ∀ q : Nat, s.heap.size ≤ q → A q := fun q h => by rw [← hAe]; exact Or.inr h
  have hS : va_S A s.heap s.heap [] := va_S.rf
  have hl := lv_entry ([.ref h_a0, .int p1]) (n := 2) (Nat.le_of_ble_eq_true rfl)
  rw [lg_entry_eq]
  generalize (lg_sl ([.ref h_a0, .int p1]) ++ List.replicate (2 - (lg_sl ([.ref h_a0, .int p1])).length) Slot.unset).toArray = ls at hl ⊢
  have hl : lv_has ls 2 [(0, .ref h_a0), (1, .int p1)] := hl
  have h := hQ
  unfold wp_X1_powerOf at h
  have hw_0 := hts (.fieldLink RX1 21 "NumberSieves$Parting" "many" "I") (by decide +kernel)
  have hin_X1 : ∀ w ∈ wsX10, w ∈ wsX1_powerOf := by decide +kernel
  have hw_2 := hts (.fieldLink RX1 13 "NumberSieves$Parting" "powers" "[I") (by decide +kernel)
  refine lv_iload_n hx hb dX1_powerOf_0 rfl (lv_at hl 1 rfl) ?_
  refine lv_if_lt (tgt := 21) hx hb dX1_powerOf_1 (by decide) (fun c_1 => ?_) (fun c_1 => ?_)
  · replace h := h.1 c_1
    refine lv_iconst (v := (0 : Int32)) hx hb dX1_powerOf_21 (by decide) ?_
    have hP9 := hP.sub (ws' := [(h_a0, .inr (1, [w_a0_factors, .ref q_a0_powers, .long a0_number, .int a0_many])), (q_a0_powers, .inl (cI, 10, .inl a0_powers))]) [0, 1] rfl
    have hD9 := hD.sub (ws' := [(h_a0, .inr (1, [w_a0_factors, .ref q_a0_powers, .long a0_number, .int a0_many])), (q_a0_powers, .inl (cI, 10, .inl a0_powers))]) [0, 1] (by decide) rfl
    exact W.iret (v := (0 : Int32)) hx hb hr (fun t ht hW => ⟨⟨_, (), rfl, h, by rw [ht]; exact hP9, hD9⟩, hS.F ht⟩) hS.2.2 dX1_powerOf_22
  · replace h := h.2 c_1
    refine lv_iload_n hx hb dX1_powerOf_4 rfl (lv_at hl 1 rfl) ?_
    refine lv_aload_n hx hb dX1_powerOf_5 rfl (lv_at hl 0 rfl) ?_
    refine va_get (D := (dC, dI)) (ci := 1) (v := .int a0_many) (C := RX1) (T := TX1) (N := 4) hx hb hts hin_X1 hown hK hP 0 rfl rfl 3 (by decide) hw_0 (fun _ h9 => h9) rfl dX1_powerOf_6 ?_
    refine lv_icmp_ge (tgt := 21) hx hb dX1_powerOf_9 (by decide) (fun c_2 => ?_) (fun c_2 => ?_)
    · replace h := h.1 c_2
      refine lv_iconst (v := (0 : Int32)) hx hb dX1_powerOf_21 (by decide) ?_
      have hP9 := hP.sub (ws' := [(h_a0, .inr (1, [w_a0_factors, .ref q_a0_powers, .long a0_number, .int a0_many])), (q_a0_powers, .inl (cI, 10, .inl a0_powers))]) [0, 1] rfl
      have hD9 := hD.sub (ws' := [(h_a0, .inr (1, [w_a0_factors, .ref q_a0_powers, .long a0_number, .int a0_many])), (q_a0_powers, .inl (cI, 10, .inl a0_powers))]) [0, 1] (by decide) rfl
      exact W.iret (v := (0 : Int32)) hx hb hr (fun t ht hW => ⟨⟨_, (), rfl, h, by rw [ht]; exact hP9, hD9⟩, hS.F ht⟩) hS.2.2 dX1_powerOf_22
    · replace h := h.2 c_2
      refine lv_aload_n hx hb dX1_powerOf_12 rfl (lv_at hl 0 rfl) ?_
      refine va_get (D := (dC, dI)) (ci := 1) (v := .ref q_a0_powers) (C := RX1) (T := TX1) (N := 4) hx hb hts hin_X1 hown hK hP 0 rfl rfl 1 (by decide) hw_2 (fun _ h9 => h9) rfl dX1_powerOf_13 ?_
      refine lv_iload_n hx hb dX1_powerOf_16 rfl (lv_at hl 1 rfl) ?_
      obtain ⟨hin_3, h⟩ := h
      refine va_iald hx hb hK hP 1 0 rfl rfl hin_3 dX1_powerOf_17 ?_
      refine lv_goto (tgt := 22) hx hb dX1_powerOf_18 (by decide) ?_
      have hP9 := hP.sub (ws' := [(h_a0, .inr (1, [w_a0_factors, .ref q_a0_powers, .long a0_number, .int a0_many])), (q_a0_powers, .inl (cI, 10, .inl a0_powers))]) [0, 1] rfl
      have hD9 := hD.sub (ws' := [(h_a0, .inr (1, [w_a0_factors, .ref q_a0_powers, .long a0_number, .int a0_many])), (q_a0_powers, .inl (cI, 10, .inl a0_powers))]) [0, 1] (by decide) rfl
      exact W.iret (v := (a0_powers p1.toNatClampNeg)) hx hb hr (fun t ht hW => ⟨⟨_, (), rfl, h, by rw [ht]; exact hP9, hD9⟩, hS.F ht⟩) hS.2.2 dX1_powerOf_22
def wp_X1_divisorCount (a0_powers : Nat → Int32) (a0_many : Int32)  (Q : Int64 → Prop) : Prop :=
  (∃ (I_4_0 : Int32 → Int64 → Prop) (m_4_0 : Int32 → Int64 → Nat), I_4_0 (0 : Int32) (1 : Int64) ∧ ∀ (l3_4_0 : Int32) (l1_4_0 : Int64), I_4_0 l3_4_0 l1_4_0 → ((a0_many ≤ l3_4_0 → Q l1_4_0) ∧ (¬ a0_many ≤ l3_4_0 → (vp_in l3_4_0 10 ∧ (∀ x1_4 : Int64, x1_4 = (l1_4_0 * ((a0_powers l3_4_0.toNatClampNeg) + (1 : Int32)).toInt64) → (∀ x3_5 : Int32, x3_5 = l3_4_0 + (1 : Int32) → (I_4_0 x3_5 x1_4 ∧ m_4_0 x3_5 x1_4 < m_4_0 l3_4_0 l1_4_0)))))))
abbrev rm_X1_divisorCount : Room := { frames := 0, cells := 0, slots := 0, locals := 0 }
abbrev qc_X1_divisorCount (dC : Nat → ClassId) (dI : Nat → Nat → Nat) (cI cJ cZ : ClassId) (h_a0 : Nat) (w_a0_factors : Value) (a0_powers : Nat → Int32) (q_a0_powers : Nat) (a0_number : Int64) (a0_many : Int32) (Q : Int64 → Prop) (A : Nat → Prop) : Array Value → State → Outcome → State → Prop := va_Ql (fun (r : Int64) (_ : Unit) => Q r) (post_ dC dI A (fun (u : Unit) => [(h_a0, .inr (1, [w_a0_factors, .ref q_a0_powers, .long a0_number, .int a0_many])), (q_a0_powers, .inl (cI, 10, .inl a0_powers))])) A
set_option maxHeartbeats 4000000 in
set_option maxRecDepth 100000 in
theorem c_X1_divisorCount (l : Launch) (dC : Nat → ClassId) (dI : Nat → Nat → Nat) (cI cJ cZ : ClassId) (sz : Nat) (h_a0 : Nat) (w_a0_factors : Value) (a0_powers : Nat → Int32) (q_a0_powers : Nat) (a0_number : Int64) (a0_many : Int32)  (Q : Int64 → Prop) (hQ : wp_X1_divisorCount a0_powers a0_many Q) : Met l yX1_divisorCount wsX1_divisorCount rm_X1_divisorCount (pre_ dC dI cI cJ cZ [.ref h_a0] [(h_a0, .inr (1, [w_a0_factors, .ref q_a0_powers, .long a0_number, .int a0_many])), (q_a0_powers, .inl (cI, 10, .inl a0_powers))] sz) (qc_X1_divisorCount dC dI cI cJ cZ h_a0 w_a0_factors a0_powers q_a0_powers a0_number a0_many Q (va_A [(h_a0, .inr (1, [w_a0_factors, .ref q_a0_powers, .long a0_number, .int a0_many])), (q_a0_powers, .inl (cI, 10, .inl a0_powers))] sz)) 0 0 (va_A [(h_a0, .inr (1, [w_a0_factors, .ref q_a0_powers, .long a0_number, .int a0_many])), (q_a0_powers, .inl (cI, 10, .inl a0_powers))] sz) := by
  refine Met.ofW (cc := cX1_divisorCount) (maxL := 4) (ret := (some .long)) (by decide) rfl ?_
  intro p e s m args below meth c s₁ B hml hv
  obtain ⟨rfl, hsz, hP, hK, hN, hD0⟩ := hv
  have hx := B.exec
  have hb := B.bytes
  have hr := B.returns
  have hts := atoms_spec (ws := wsX1_divisorCount) B.pre
  have hown : s.vm.findClass RX1 = some m.cls := findClass_of_methodNamed B.named
  subst hsz
  have hD := hD0.self (sz := s.heap.size)
  generalize hAe : va_A [(h_a0, .inr (1, [w_a0_factors, .ref q_a0_powers, .long a0_number, .int a0_many])), (q_a0_powers, .inl (cI, 10, .inl a0_powers))] s.heap.size = A at hD ⊢
  have hA : ∀ q : Nat, s.heap.size ≤ q → A q := fun q h => by rw [← hAe]; exact Or.inr h
  have hS : va_S A s.heap s.heap [] := va_S.rf
  have hl := lv_entry ([.ref h_a0]) (n := 4) (Nat.le_of_ble_eq_true rfl)
  rw [lg_entry_eq]
  generalize (lg_sl ([.ref h_a0]) ++ List.replicate (4 - (lg_sl ([.ref h_a0])).length) Slot.unset).toArray = ls at hl ⊢
  have hl : lv_has ls 4 [(0, .ref h_a0)] := hl
  have h := hQ
  unfold wp_X1_divisorCount at h
  have hw_0 := hts (.fieldLink RX1 21 "NumberSieves$Parting" "many" "I") (by decide +kernel)
  have hin_X1 : ∀ w ∈ wsX10, w ∈ wsX1_divisorCount := by decide +kernel
  have hw_2 := hts (.fieldLink RX1 13 "NumberSieves$Parting" "powers" "[I") (by decide +kernel)
  refine lv_lconst (v := (1 : Int64)) hx hb dX1_divisorCount_0 (by decide) ?_
  refine lv_lstore_n (lv' := [(1, .long (1 : Int64)), (0, .ref h_a0)]) hx hb dX1_divisorCount_1 rfl hl (by decide) rfl (fun ls hl => ?_)
  refine lv_iconst (v := (0 : Int32)) hx hb dX1_divisorCount_2 (by decide) ?_
  refine lv_istore_n (lv' := [(3, .int (0 : Int32)), (1, .long (1 : Int64)), (0, .ref h_a0)]) hx hb dX1_divisorCount_3 rfl hl (by decide) rfl (fun ls hl => ?_)
  obtain ⟨I_4_0, m_4_0, h0_4_0, hs_4_0⟩ := h
  have key_4_0 : ∀ (n : Nat) (l3_4_0 : Int32) (l1_4_0 : Int64), m_4_0 l3_4_0 l1_4_0 < n → I_4_0 l3_4_0 l1_4_0 → ∀ (ls : Array Slot) (H : Heap) (locs : List Loc), lv_has ls 4 [(3, .int l3_4_0), (1, .long l1_4_0), (0, .ref h_a0)] → va_P (dC, dI) vwCl [(h_a0, .inr (1, [w_a0_factors, .ref q_a0_powers, .long a0_number, .int a0_many])), (q_a0_powers, .inl (cI, 10, .inl a0_powers))] H → va_D A [(h_a0, .inr (1, [w_a0_factors, .ref q_a0_powers, .long a0_number, .int a0_many])), (q_a0_powers, .inl (cI, 10, .inl a0_powers))] → va_S A s.heap H locs → W p l e (headSpec wsX1_divisorCount rm_X1_divisorCount).room s m ([.ref h_a0] : List Value).toArray below meth c H locs 0 0 (MQ below (qc_X1_divisorCount dC dI cI cJ cZ h_a0 w_a0_factors a0_powers q_a0_powers a0_number a0_many Q A) ([.ref h_a0] : List Value).toArray s 0 0 A) (F0 m 4 ls []) := by
    intro n
    induction n with
    | zero =>
      intro l3_4_0 l1_4_0 hm
      exact absurd hm (Nat.not_lt_zero _)
    | succ n ih_4_0 =>
      intro l3_4_0 l1_4_0 hm_4_0 hI ls H locs hl hP hD hS
      have h := hs_4_0 l3_4_0 l1_4_0 hI
      refine lv_iload_n hx hb dX1_divisorCount_4 rfl (lv_at hl 0 rfl) ?_
      refine lv_aload_n hx hb dX1_divisorCount_5 rfl (lv_at hl 2 rfl) ?_
      refine va_get (D := (dC, dI)) (ci := 1) (v := .int a0_many) (C := RX1) (T := TX1) (N := 4) hx hb hts hin_X1 hown hK hP 0 rfl rfl 3 (by decide) hw_0 (fun _ h9 => h9) rfl dX1_divisorCount_6 ?_
      refine lv_icmp_ge (tgt := 30) hx hb dX1_divisorCount_9 (by decide) (fun c_2 => ?_) (fun c_2 => ?_)
      · replace h := h.1 c_2
        refine lv_lload_n hx hb dX1_divisorCount_30 rfl (lv_at hl 1 rfl) ?_
        have hP9 := hP.sub (ws' := [(h_a0, .inr (1, [w_a0_factors, .ref q_a0_powers, .long a0_number, .int a0_many])), (q_a0_powers, .inl (cI, 10, .inl a0_powers))]) [0, 1] rfl
        have hD9 := hD.sub (ws' := [(h_a0, .inr (1, [w_a0_factors, .ref q_a0_powers, .long a0_number, .int a0_many])), (q_a0_powers, .inl (cI, 10, .inl a0_powers))]) [0, 1] (by decide) rfl
        exact W.lret (v := l1_4_0) hx hb hr (fun t ht hW => ⟨⟨_, (), rfl, h, by rw [ht]; exact hP9, hD9⟩, hS.F ht⟩) hS.2.2 dX1_divisorCount_31
      · replace h := h.2 c_2
        refine lv_lload_n hx hb dX1_divisorCount_12 rfl (lv_at hl 1 rfl) ?_
        refine lv_aload_n hx hb dX1_divisorCount_13 rfl (lv_at hl 2 rfl) ?_
        refine va_get (D := (dC, dI)) (ci := 1) (v := .ref q_a0_powers) (C := RX1) (T := TX1) (N := 4) hx hb hts hin_X1 hown hK hP 0 rfl rfl 1 (by decide) hw_2 (fun _ h9 => h9) rfl dX1_divisorCount_14 ?_
        refine lv_iload_n hx hb dX1_divisorCount_17 rfl (lv_at hl 0 rfl) ?_
        obtain ⟨hin_3, h⟩ := h
        refine va_iald hx hb hK hP 1 0 rfl rfl hin_3 dX1_divisorCount_18 ?_
        refine lv_iconst (v := (1 : Int32)) hx hb dX1_divisorCount_19 (by decide) ?_
        refine lv_iadd hx hb dX1_divisorCount_20 ?_
        refine lv_i2l hx hb dX1_divisorCount_21 rfl ?_
        refine lv_lmul hx hb dX1_divisorCount_22 ?_
        refine lv_topl (fun x1_4 e_x1_4 => ?_)
        replace h := h x1_4 e_x1_4
        refine lv_lstore_n (lv' := [(1, .long x1_4), (3, .int l3_4_0), (0, .ref h_a0)]) hx hb dX1_divisorCount_23 rfl hl (by decide) rfl (fun ls hl => ?_)
        obtain ⟨x3_5, e_x3_5⟩ : ∃ y : Int32, y = l3_4_0 + (1 : Int32) := ⟨_, rfl⟩
        replace h := h x3_5 e_x3_5
        refine lv_iinc (v := x3_5) (lv' := [(3, .int x3_5), (1, .long x1_4), (0, .ref h_a0)]) hx hb dX1_divisorCount_24 hl (k := 1) rfl (by rw [e_x3_5]; rfl) (by decide) rfl (fun ls hl => ?_)
        refine lv_goto (tgt := 4) hx hb dX1_divisorCount_27 (by decide) ?_
        exact ih_4_0 x3_5 x1_4 (Nat.lt_of_lt_of_le h.2 (Nat.le_of_lt_succ hm_4_0)) h.1 _ _ _ (lv_sub hl [0, 1, 2] rfl) (hP.sub [0, 1] rfl) (hD.sub [0, 1] (by decide) rfl) hS
  exact key_4_0 _ (0 : Int32) (1 : Int64) (Nat.lt_succ_self _) h0_4_0 _ _ _ (lv_sub hl [0, 1, 2] rfl) (hP.sub [0, 1] rfl) (hD.sub [0, 1] (by decide) rfl) hS
def wp_X1_divisorSum (a0_factors : Nat → Int64) (a0_powers : Nat → Int32) (a0_many : Int32)  (Q : Int64 → Prop) : Prop :=
  (∃ (I_4_0 : Int32 → Int64 → Prop) (m_4_0 : Int32 → Int64 → Nat), I_4_0 (0 : Int32) (1 : Int64) ∧ ∀ (l3_4_0 : Int32) (l1_4_0 : Int64), I_4_0 l3_4_0 l1_4_0 → ((a0_many ≤ l3_4_0 → Q l1_4_0) ∧ (¬ a0_many ≤ l3_4_0 → (∃ (I_18_2 : Int32 → Int64 → Prop) (m_18_2 : Int32 → Int64 → Nat), I_18_2 (0 : Int32) (1 : Int64) ∧ ∀ (l6_18_2 : Int32) (l4_18_2 : Int64), I_18_2 l6_18_2 l4_18_2 → (vp_in l3_4_0 10 ∧ (((a0_powers l3_4_0.toNatClampNeg) ≤ l6_18_2 → (∀ x1_6 : Int64, x1_6 = (l1_4_0 * l4_18_2) → (∀ x3_7 : Int32, x3_7 = l3_4_0 + (1 : Int32) → (I_4_0 x3_7 x1_6 ∧ m_4_0 x3_7 x1_6 < m_4_0 l3_4_0 l1_4_0)))) ∧ (¬ (a0_powers l3_4_0.toNatClampNeg) ≤ l6_18_2 → (vp_in l3_4_0 10 ∧ (∀ x4_9 : Int64, x4_9 = ((l4_18_2 * (a0_factors l3_4_0.toNatClampNeg)) + (1 : Int64)) → (∀ x6_10 : Int32, x6_10 = l6_18_2 + (1 : Int32) → (I_18_2 x6_10 x4_9 ∧ m_18_2 x6_10 x4_9 < m_18_2 l6_18_2 l4_18_2)))))))))))
abbrev rm_X1_divisorSum : Room := { frames := 0, cells := 0, slots := 0, locals := 0 }
abbrev qc_X1_divisorSum (dC : Nat → ClassId) (dI : Nat → Nat → Nat) (cI cJ cZ : ClassId) (h_a0 : Nat) (a0_factors : Nat → Int64) (q_a0_factors : Nat) (a0_powers : Nat → Int32) (q_a0_powers : Nat) (a0_number : Int64) (a0_many : Int32) (Q : Int64 → Prop) (A : Nat → Prop) : Array Value → State → Outcome → State → Prop := va_Ql (fun (r : Int64) (_ : Unit) => Q r) (post_ dC dI A (fun (u : Unit) => [(h_a0, .inr (1, [.ref q_a0_factors, .ref q_a0_powers, .long a0_number, .int a0_many])), (q_a0_factors, .inl (cJ, 10, .inr (.inl a0_factors))), (q_a0_powers, .inl (cI, 10, .inl a0_powers))])) A
set_option maxHeartbeats 4000000 in
set_option maxRecDepth 100000 in
theorem c_X1_divisorSum (l : Launch) (dC : Nat → ClassId) (dI : Nat → Nat → Nat) (cI cJ cZ : ClassId) (sz : Nat) (h_a0 : Nat) (a0_factors : Nat → Int64) (q_a0_factors : Nat) (a0_powers : Nat → Int32) (q_a0_powers : Nat) (a0_number : Int64) (a0_many : Int32)  (Q : Int64 → Prop) (hQ : wp_X1_divisorSum a0_factors a0_powers a0_many Q) : Met l yX1_divisorSum wsX1_divisorSum rm_X1_divisorSum (pre_ dC dI cI cJ cZ [.ref h_a0] [(h_a0, .inr (1, [.ref q_a0_factors, .ref q_a0_powers, .long a0_number, .int a0_many])), (q_a0_factors, .inl (cJ, 10, .inr (.inl a0_factors))), (q_a0_powers, .inl (cI, 10, .inl a0_powers))] sz) (qc_X1_divisorSum dC dI cI cJ cZ h_a0 a0_factors q_a0_factors a0_powers q_a0_powers a0_number a0_many Q (va_A [(h_a0, .inr (1, [.ref q_a0_factors, .ref q_a0_powers, .long a0_number, .int a0_many])), (q_a0_factors, .inl (cJ, 10, .inr (.inl a0_factors))), (q_a0_powers, .inl (cI, 10, .inl a0_powers))] sz)) 0 0 (va_A [(h_a0, .inr (1, [.ref q_a0_factors, .ref q_a0_powers, .long a0_number, .int a0_many])), (q_a0_factors, .inl (cJ, 10, .inr (.inl a0_factors))), (q_a0_powers, .inl (cI, 10, .inl a0_powers))] sz) := by
  refine Met.ofW (cc := cX1_divisorSum) (maxL := 7) (ret := (some .long)) (by decide) rfl ?_
  intro p e s m args below meth c s₁ B hml hv
  obtain ⟨rfl, hsz, hP, hK, hN, hD0⟩ := hv
  have hx := B.exec
  have hb := B.bytes
  have hr := B.returns
  have hts := atoms_spec (ws := wsX1_divisorSum) B.pre
  have hown : s.vm.findClass RX1 = some m.cls := findClass_of_methodNamed B.named
  subst hsz
  have hD := hD0.self (sz := s.heap.size)
  generalize hAe : va_A [(h_a0, .inr (1, [.ref q_a0_factors, .ref q_a0_powers, .long a0_number, .int a0_many])), (q_a0_factors, .inl (cJ, 10, .inr (.inl a0_factors))), (q_a0_powers, .inl (cI, 10, .inl a0_powers))] s.heap.size = A at hD ⊢
  have hA : ∀ q : Nat, s.heap.size ≤ q → A q := fun q h => by rw [← hAe]; exact Or.inr h
  have hS : va_S A s.heap s.heap [] := va_S.rf
  have hl := lv_entry ([.ref h_a0]) (n := 7) (Nat.le_of_ble_eq_true rfl)
  rw [lg_entry_eq]
  generalize (lg_sl ([.ref h_a0]) ++ List.replicate (7 - (lg_sl ([.ref h_a0])).length) Slot.unset).toArray = ls at hl ⊢
  have hl : lv_has ls 7 [(0, .ref h_a0)] := hl
  have h := hQ
  unfold wp_X1_divisorSum at h
  have hw_0 := hts (.fieldLink RX1 21 "NumberSieves$Parting" "many" "I") (by decide +kernel)
  have hin_X1 : ∀ w ∈ wsX10, w ∈ wsX1_divisorSum := by decide +kernel
  have hw_2 := hts (.fieldLink RX1 13 "NumberSieves$Parting" "powers" "[I") (by decide +kernel)
  have hw_3 := hts (.fieldLink RX1 9 "NumberSieves$Parting" "factors" "[J") (by decide +kernel)
  refine lv_lconst (v := (1 : Int64)) hx hb dX1_divisorSum_0 (by decide) ?_
  refine lv_lstore_n (lv' := [(1, .long (1 : Int64)), (0, .ref h_a0)]) hx hb dX1_divisorSum_1 rfl hl (by decide) rfl (fun ls hl => ?_)
  refine lv_iconst (v := (0 : Int32)) hx hb dX1_divisorSum_2 (by decide) ?_
  refine lv_istore_n (lv' := [(3, .int (0 : Int32)), (1, .long (1 : Int64)), (0, .ref h_a0)]) hx hb dX1_divisorSum_3 rfl hl (by decide) rfl (fun ls hl => ?_)
  obtain ⟨I_4_0, m_4_0, h0_4_0, hs_4_0⟩ := h
  have key_4_0 : ∀ (n : Nat) (l3_4_0 : Int32) (l1_4_0 : Int64), m_4_0 l3_4_0 l1_4_0 < n → I_4_0 l3_4_0 l1_4_0 → ∀ (ls : Array Slot) (H : Heap) (locs : List Loc), lv_has ls 7 [(3, .int l3_4_0), (1, .long l1_4_0), (0, .ref h_a0)] → va_P (dC, dI) vwCl [(h_a0, .inr (1, [.ref q_a0_factors, .ref q_a0_powers, .long a0_number, .int a0_many])), (q_a0_factors, .inl (cJ, 10, .inr (.inl a0_factors))), (q_a0_powers, .inl (cI, 10, .inl a0_powers))] H → va_D A [(h_a0, .inr (1, [.ref q_a0_factors, .ref q_a0_powers, .long a0_number, .int a0_many])), (q_a0_factors, .inl (cJ, 10, .inr (.inl a0_factors))), (q_a0_powers, .inl (cI, 10, .inl a0_powers))] → va_S A s.heap H locs → W p l e (headSpec wsX1_divisorSum rm_X1_divisorSum).room s m ([.ref h_a0] : List Value).toArray below meth c H locs 0 0 (MQ below (qc_X1_divisorSum dC dI cI cJ cZ h_a0 a0_factors q_a0_factors a0_powers q_a0_powers a0_number a0_many Q A) ([.ref h_a0] : List Value).toArray s 0 0 A) (F0 m 4 ls []) := by
    intro n
    induction n with
    | zero =>
      intro l3_4_0 l1_4_0 hm
      exact absurd hm (Nat.not_lt_zero _)
    | succ n ih_4_0 =>
      intro l3_4_0 l1_4_0 hm_4_0 hI ls H locs hl hP hD hS
      have h := hs_4_0 l3_4_0 l1_4_0 hI
      refine lv_iload_n hx hb dX1_divisorSum_4 rfl (lv_at hl 0 rfl) ?_
      refine lv_aload_n hx hb dX1_divisorSum_5 rfl (lv_at hl 2 rfl) ?_
      refine va_get (D := (dC, dI)) (ci := 1) (v := .int a0_many) (C := RX1) (T := TX1) (N := 4) hx hb hts hin_X1 hown hK hP 0 rfl rfl 3 (by decide) hw_0 (fun _ h9 => h9) rfl dX1_divisorSum_6 ?_
      refine lv_icmp_ge (tgt := 59) hx hb dX1_divisorSum_9 (by decide) (fun c_2 => ?_) (fun c_2 => ?_)
      · replace h := h.1 c_2
        refine lv_lload_n hx hb dX1_divisorSum_59 rfl (lv_at hl 1 rfl) ?_
        have hP9 := hP.sub (ws' := [(h_a0, .inr (1, [.ref q_a0_factors, .ref q_a0_powers, .long a0_number, .int a0_many])), (q_a0_factors, .inl (cJ, 10, .inr (.inl a0_factors))), (q_a0_powers, .inl (cI, 10, .inl a0_powers))]) [0, 1, 2] rfl
        have hD9 := hD.sub (ws' := [(h_a0, .inr (1, [.ref q_a0_factors, .ref q_a0_powers, .long a0_number, .int a0_many])), (q_a0_factors, .inl (cJ, 10, .inr (.inl a0_factors))), (q_a0_powers, .inl (cI, 10, .inl a0_powers))]) [0, 1, 2] (by decide) rfl
        exact W.lret (v := l1_4_0) hx hb hr (fun t ht hW => ⟨⟨_, (), rfl, h, by rw [ht]; exact hP9, hD9⟩, hS.F ht⟩) hS.2.2 dX1_divisorSum_60
      · replace h := h.2 c_2
        refine lv_lconst (v := (1 : Int64)) hx hb dX1_divisorSum_12 (by decide) ?_
        refine lv_lstore (lv' := [(4, .long (1 : Int64)), (3, .int l3_4_0), (1, .long l1_4_0), (0, .ref h_a0)]) hx hb dX1_divisorSum_13 hl (by decide) rfl (fun ls hl => ?_)
        refine lv_iconst (v := (0 : Int32)) hx hb dX1_divisorSum_15 (by decide) ?_
        refine lv_istore (lv' := [(6, .int (0 : Int32)), (4, .long (1 : Int64)), (3, .int l3_4_0), (1, .long l1_4_0), (0, .ref h_a0)]) hx hb dX1_divisorSum_16 hl (by decide) rfl (fun ls hl => ?_)
        obtain ⟨I_18_2, m_18_2, h0_18_2, hs_18_2⟩ := h
        have key_18_2 : ∀ (n : Nat) (l6_18_2 : Int32) (l4_18_2 : Int64), m_18_2 l6_18_2 l4_18_2 < n → I_18_2 l6_18_2 l4_18_2 → ∀ (ls : Array Slot) (H : Heap) (locs : List Loc), lv_has ls 7 [(6, .int l6_18_2), (4, .long l4_18_2), (3, .int l3_4_0), (1, .long l1_4_0), (0, .ref h_a0)] → va_P (dC, dI) vwCl [(h_a0, .inr (1, [.ref q_a0_factors, .ref q_a0_powers, .long a0_number, .int a0_many])), (q_a0_factors, .inl (cJ, 10, .inr (.inl a0_factors))), (q_a0_powers, .inl (cI, 10, .inl a0_powers))] H → va_D A [(h_a0, .inr (1, [.ref q_a0_factors, .ref q_a0_powers, .long a0_number, .int a0_many])), (q_a0_factors, .inl (cJ, 10, .inr (.inl a0_factors))), (q_a0_powers, .inl (cI, 10, .inl a0_powers))] → va_S A s.heap H locs → W p l e (headSpec wsX1_divisorSum rm_X1_divisorSum).room s m ([.ref h_a0] : List Value).toArray below meth c H locs 0 0 (MQ below (qc_X1_divisorSum dC dI cI cJ cZ h_a0 a0_factors q_a0_factors a0_powers q_a0_powers a0_number a0_many Q A) ([.ref h_a0] : List Value).toArray s 0 0 A) (F0 m 18 ls []) := by
          intro n
          induction n with
          | zero =>
            intro l6_18_2 l4_18_2 hm
            exact absurd hm (Nat.not_lt_zero _)
          | succ n ih_18_2 =>
            intro l6_18_2 l4_18_2 hm_18_2 hI ls H locs hl hP hD hS
            have h := hs_18_2 l6_18_2 l4_18_2 hI
            refine lv_iload hx hb dX1_divisorSum_18 (lv_at hl 0 rfl) ?_
            refine lv_aload_n hx hb dX1_divisorSum_20 rfl (lv_at hl 4 rfl) ?_
            refine va_get (D := (dC, dI)) (ci := 1) (v := .ref q_a0_powers) (C := RX1) (T := TX1) (N := 4) hx hb hts hin_X1 hown hK hP 0 rfl rfl 1 (by decide) hw_2 (fun _ h9 => h9) rfl dX1_divisorSum_21 ?_
            refine lv_iload_n hx hb dX1_divisorSum_24 rfl (lv_at hl 2 rfl) ?_
            obtain ⟨hin_4, h⟩ := h
            refine va_iald hx hb hK hP 2 0 rfl rfl hin_4 dX1_divisorSum_25 ?_
            refine lv_icmp_ge (tgt := 48) hx hb dX1_divisorSum_26 (by decide) (fun c_5 => ?_) (fun c_5 => ?_)
            · replace h := h.1 c_5
              refine lv_lload_n hx hb dX1_divisorSum_48 rfl (lv_at hl 3 rfl) ?_
              refine lv_lload hx hb dX1_divisorSum_49 (lv_at hl 1 rfl) ?_
              refine lv_lmul hx hb dX1_divisorSum_51 ?_
              refine lv_topl (fun x1_6 e_x1_6 => ?_)
              replace h := h x1_6 e_x1_6
              refine lv_lstore_n (lv' := [(1, .long x1_6), (6, .int l6_18_2), (4, .long l4_18_2), (3, .int l3_4_0), (0, .ref h_a0)]) hx hb dX1_divisorSum_52 rfl hl (by decide) rfl (fun ls hl => ?_)
              obtain ⟨x3_7, e_x3_7⟩ : ∃ y : Int32, y = l3_4_0 + (1 : Int32) := ⟨_, rfl⟩
              replace h := h x3_7 e_x3_7
              refine lv_iinc (v := x3_7) (lv' := [(3, .int x3_7), (1, .long x1_6), (6, .int l6_18_2), (4, .long l4_18_2), (0, .ref h_a0)]) hx hb dX1_divisorSum_53 hl (k := 3) rfl (by rw [e_x3_7]; rfl) (by decide) rfl (fun ls hl => ?_)
              refine lv_goto (tgt := 4) hx hb dX1_divisorSum_56 (by decide) ?_
              exact ih_4_0 x3_7 x1_6 (Nat.lt_of_lt_of_le h.2 (Nat.le_of_lt_succ hm_4_0)) h.1 _ _ _ (lv_sub hl [0, 1, 4] rfl) (hP.sub [0, 1, 2] rfl) (hD.sub [0, 1, 2] (by decide) rfl) hS
            · replace h := h.2 c_5
              refine lv_lload hx hb dX1_divisorSum_29 (lv_at hl 1 rfl) ?_
              refine lv_aload_n hx hb dX1_divisorSum_31 rfl (lv_at hl 4 rfl) ?_
              refine va_get (D := (dC, dI)) (ci := 1) (v := .ref q_a0_factors) (C := RX1) (T := TX1) (N := 4) hx hb hts hin_X1 hown hK hP 0 rfl rfl 0 (by decide) hw_3 (fun _ h9 => h9) rfl dX1_divisorSum_32 ?_
              refine lv_iload_n hx hb dX1_divisorSum_35 rfl (lv_at hl 2 rfl) ?_
              obtain ⟨hin_8, h⟩ := h
              refine va_lald hx hb hK hP 1 1 rfl rfl hin_8 dX1_divisorSum_36 ?_
              refine lv_lmul hx hb dX1_divisorSum_37 ?_
              refine lv_lconst (v := (1 : Int64)) hx hb dX1_divisorSum_38 (by decide) ?_
              refine lv_ladd hx hb dX1_divisorSum_39 ?_
              refine lv_topl (fun x4_9 e_x4_9 => ?_)
              replace h := h x4_9 e_x4_9
              refine lv_lstore (lv' := [(4, .long x4_9), (6, .int l6_18_2), (3, .int l3_4_0), (1, .long l1_4_0), (0, .ref h_a0)]) hx hb dX1_divisorSum_40 hl (by decide) rfl (fun ls hl => ?_)
              obtain ⟨x6_10, e_x6_10⟩ : ∃ y : Int32, y = l6_18_2 + (1 : Int32) := ⟨_, rfl⟩
              replace h := h x6_10 e_x6_10
              refine lv_iinc (v := x6_10) (lv' := [(6, .int x6_10), (4, .long x4_9), (3, .int l3_4_0), (1, .long l1_4_0), (0, .ref h_a0)]) hx hb dX1_divisorSum_42 hl (k := 1) rfl (by rw [e_x6_10]; rfl) (by decide) rfl (fun ls hl => ?_)
              refine lv_goto (tgt := 18) hx hb dX1_divisorSum_45 (by decide) ?_
              exact ih_18_2 x6_10 x4_9 (Nat.lt_of_lt_of_le h.2 (Nat.le_of_lt_succ hm_18_2)) h.1 _ _ _ (lv_sub hl [0, 1, 2, 3, 4] rfl) (hP.sub [0, 1, 2] rfl) (hD.sub [0, 1, 2] (by decide) rfl) hS
        exact key_18_2 _ (0 : Int32) (1 : Int64) (Nat.lt_succ_self _) h0_18_2 _ _ _ (lv_sub hl [0, 1, 2, 3, 4] rfl) (hP.sub [0, 1, 2] rfl) (hD.sub [0, 1, 2] (by decide) rfl) hS
  exact key_4_0 _ (0 : Int32) (1 : Int64) (Nat.lt_succ_self _) h0_4_0 _ _ _ (lv_sub hl [0, 1, 2] rfl) (hP.sub [0, 1, 2] rfl) (hD.sub [0, 1, 2] (by decide) rfl) hS
def wp_X1_euler (a0_factors : Nat → Int64) (a0_number : Int64) (a0_many : Int32)  (Q : Int64 → Prop) : Prop :=
  (∃ (I_7_0 : Int32 → Int64 → Prop) (m_7_0 : Int32 → Int64 → Nat), I_7_0 (0 : Int32) a0_number ∧ ∀ (l3_7_0 : Int32) (l1_7_0 : Int64), I_7_0 l3_7_0 l1_7_0 → ((a0_many ≤ l3_7_0 → Q l1_7_0) ∧ (¬ a0_many ≤ l3_7_0 → (vp_in l3_7_0 10 ∧ (∀ x4_4 : Int64, x4_4 = (a0_factors l3_7_0.toNatClampNeg) → ((x4_4 ≤ (1 : Int64) → (∀ x3_6 : Int32, x3_6 = l3_7_0 + (1 : Int32) → (I_7_0 x3_6 l1_7_0 ∧ m_7_0 x3_6 l1_7_0 < m_7_0 l3_7_0 l1_7_0))) ∧ (¬ x4_4 ≤ (1 : Int64) → (¬ x4_4 = 0 ∧ (∀ x1_8 : Int64, x1_8 = ((l1_7_0 / x4_4) * (x4_4 - (1 : Int64))) → (∀ x3_9 : Int32, x3_9 = l3_7_0 + (1 : Int32) → (I_7_0 x3_9 x1_8 ∧ m_7_0 x3_9 x1_8 < m_7_0 l3_7_0 l1_7_0)))))))))))
abbrev rm_X1_euler : Room := { frames := 0, cells := 0, slots := 0, locals := 0 }
abbrev qc_X1_euler (dC : Nat → ClassId) (dI : Nat → Nat → Nat) (cI cJ cZ : ClassId) (h_a0 : Nat) (a0_factors : Nat → Int64) (q_a0_factors : Nat) (w_a0_powers : Value) (a0_number : Int64) (a0_many : Int32) (Q : Int64 → Prop) (A : Nat → Prop) : Array Value → State → Outcome → State → Prop := va_Ql (fun (r : Int64) (_ : Unit) => Q r) (post_ dC dI A (fun (u : Unit) => [(h_a0, .inr (1, [.ref q_a0_factors, w_a0_powers, .long a0_number, .int a0_many])), (q_a0_factors, .inl (cJ, 10, .inr (.inl a0_factors)))])) A
set_option maxHeartbeats 4000000 in
set_option maxRecDepth 100000 in
theorem c_X1_euler (l : Launch) (dC : Nat → ClassId) (dI : Nat → Nat → Nat) (cI cJ cZ : ClassId) (sz : Nat) (h_a0 : Nat) (a0_factors : Nat → Int64) (q_a0_factors : Nat) (w_a0_powers : Value) (a0_number : Int64) (a0_many : Int32)  (Q : Int64 → Prop) (hQ : wp_X1_euler a0_factors a0_number a0_many Q) : Met l yX1_euler wsX1_euler rm_X1_euler (pre_ dC dI cI cJ cZ [.ref h_a0] [(h_a0, .inr (1, [.ref q_a0_factors, w_a0_powers, .long a0_number, .int a0_many])), (q_a0_factors, .inl (cJ, 10, .inr (.inl a0_factors)))] sz) (qc_X1_euler dC dI cI cJ cZ h_a0 a0_factors q_a0_factors w_a0_powers a0_number a0_many Q (va_A [(h_a0, .inr (1, [.ref q_a0_factors, w_a0_powers, .long a0_number, .int a0_many])), (q_a0_factors, .inl (cJ, 10, .inr (.inl a0_factors)))] sz)) 0 0 (va_A [(h_a0, .inr (1, [.ref q_a0_factors, w_a0_powers, .long a0_number, .int a0_many])), (q_a0_factors, .inl (cJ, 10, .inr (.inl a0_factors)))] sz) := by
  refine Met.ofW (cc := cX1_euler) (maxL := 6) (ret := (some .long)) (by decide) rfl ?_
  intro p e s m args below meth c s₁ B hml hv
  obtain ⟨rfl, hsz, hP, hK, hN, hD0⟩ := hv
  have hx := B.exec
  have hb := B.bytes
  have hr := B.returns
  have hts := atoms_spec (ws := wsX1_euler) B.pre
  have hown : s.vm.findClass RX1 = some m.cls := findClass_of_methodNamed B.named
  subst hsz
  have hD := hD0.self (sz := s.heap.size)
  generalize hAe : va_A [(h_a0, .inr (1, [.ref q_a0_factors, w_a0_powers, .long a0_number, .int a0_many])), (q_a0_factors, .inl (cJ, 10, .inr (.inl a0_factors)))] s.heap.size = A at hD ⊢
  have hA : ∀ q : Nat, s.heap.size ≤ q → A q := fun q h => by rw [← hAe]; exact Or.inr h
  have hS : va_S A s.heap s.heap [] := va_S.rf
  have hl := lv_entry ([.ref h_a0]) (n := 6) (Nat.le_of_ble_eq_true rfl)
  rw [lg_entry_eq]
  generalize (lg_sl ([.ref h_a0]) ++ List.replicate (6 - (lg_sl ([.ref h_a0])).length) Slot.unset).toArray = ls at hl ⊢
  have hl : lv_has ls 6 [(0, .ref h_a0)] := hl
  have h := hQ
  unfold wp_X1_euler at h
  have hw_0 := hts (.fieldLink RX1 17 "NumberSieves$Parting" "number" "J") (by decide +kernel)
  have hin_X1 : ∀ w ∈ wsX10, w ∈ wsX1_euler := by decide +kernel
  have hw_2 := hts (.fieldLink RX1 21 "NumberSieves$Parting" "many" "I") (by decide +kernel)
  have hw_3 := hts (.fieldLink RX1 9 "NumberSieves$Parting" "factors" "[J") (by decide +kernel)
  refine lv_aload_n hx hb dX1_euler_0 rfl (lv_at hl 0 rfl) ?_
  refine va_get (D := (dC, dI)) (ci := 1) (v := .long a0_number) (C := RX1) (T := TX1) (N := 4) hx hb hts hin_X1 hown hK hP 0 rfl rfl 2 (by decide) hw_0 (fun _ h9 => h9) rfl dX1_euler_1 ?_
  refine lv_lstore_n (lv' := [(1, .long a0_number), (0, .ref h_a0)]) hx hb dX1_euler_4 rfl hl (by decide) rfl (fun ls hl => ?_)
  refine lv_iconst (v := (0 : Int32)) hx hb dX1_euler_5 (by decide) ?_
  refine lv_istore_n (lv' := [(3, .int (0 : Int32)), (1, .long a0_number), (0, .ref h_a0)]) hx hb dX1_euler_6 rfl hl (by decide) rfl (fun ls hl => ?_)
  obtain ⟨I_7_0, m_7_0, h0_7_0, hs_7_0⟩ := h
  have key_7_0 : ∀ (n : Nat) (l3_7_0 : Int32) (l1_7_0 : Int64), m_7_0 l3_7_0 l1_7_0 < n → I_7_0 l3_7_0 l1_7_0 → ∀ (ls : Array Slot) (H : Heap) (locs : List Loc), lv_has ls 6 [(3, .int l3_7_0), (1, .long l1_7_0), (0, .ref h_a0)] → va_P (dC, dI) vwCl [(h_a0, .inr (1, [.ref q_a0_factors, w_a0_powers, .long a0_number, .int a0_many])), (q_a0_factors, .inl (cJ, 10, .inr (.inl a0_factors)))] H → va_D A [(h_a0, .inr (1, [.ref q_a0_factors, w_a0_powers, .long a0_number, .int a0_many])), (q_a0_factors, .inl (cJ, 10, .inr (.inl a0_factors)))] → va_S A s.heap H locs → W p l e (headSpec wsX1_euler rm_X1_euler).room s m ([.ref h_a0] : List Value).toArray below meth c H locs 0 0 (MQ below (qc_X1_euler dC dI cI cJ cZ h_a0 a0_factors q_a0_factors w_a0_powers a0_number a0_many Q A) ([.ref h_a0] : List Value).toArray s 0 0 A) (F0 m 7 ls []) := by
    intro n
    induction n with
    | zero =>
      intro l3_7_0 l1_7_0 hm
      exact absurd hm (Nat.not_lt_zero _)
    | succ n ih_7_0 =>
      intro l3_7_0 l1_7_0 hm_7_0 hI ls H locs hl hP hD hS
      have h := hs_7_0 l3_7_0 l1_7_0 hI
      refine lv_iload_n hx hb dX1_euler_7 rfl (lv_at hl 0 rfl) ?_
      refine lv_aload_n hx hb dX1_euler_8 rfl (lv_at hl 2 rfl) ?_
      refine va_get (D := (dC, dI)) (ci := 1) (v := .int a0_many) (C := RX1) (T := TX1) (N := 4) hx hb hts hin_X1 hown hK hP 0 rfl rfl 3 (by decide) hw_2 (fun _ h9 => h9) rfl dX1_euler_9 ?_
      refine lv_icmp_ge (tgt := 46) hx hb dX1_euler_12 (by decide) (fun c_2 => ?_) (fun c_2 => ?_)
      · replace h := h.1 c_2
        refine lv_lload_n hx hb dX1_euler_46 rfl (lv_at hl 1 rfl) ?_
        have hP9 := hP.sub (ws' := [(h_a0, .inr (1, [.ref q_a0_factors, w_a0_powers, .long a0_number, .int a0_many])), (q_a0_factors, .inl (cJ, 10, .inr (.inl a0_factors)))]) [0, 1] rfl
        have hD9 := hD.sub (ws' := [(h_a0, .inr (1, [.ref q_a0_factors, w_a0_powers, .long a0_number, .int a0_many])), (q_a0_factors, .inl (cJ, 10, .inr (.inl a0_factors)))]) [0, 1] (by decide) rfl
        exact W.lret (v := l1_7_0) hx hb hr (fun t ht hW => ⟨⟨_, (), rfl, h, by rw [ht]; exact hP9, hD9⟩, hS.F ht⟩) hS.2.2 dX1_euler_47
      · replace h := h.2 c_2
        refine lv_aload_n hx hb dX1_euler_15 rfl (lv_at hl 2 rfl) ?_
        refine va_get (D := (dC, dI)) (ci := 1) (v := .ref q_a0_factors) (C := RX1) (T := TX1) (N := 4) hx hb hts hin_X1 hown hK hP 0 rfl rfl 0 (by decide) hw_3 (fun _ h9 => h9) rfl dX1_euler_16 ?_
        refine lv_iload_n hx hb dX1_euler_19 rfl (lv_at hl 0 rfl) ?_
        obtain ⟨hin_3, h⟩ := h
        refine va_lald hx hb hK hP 1 1 rfl rfl hin_3 dX1_euler_20 ?_
        refine lv_topl (fun x4_4 e_x4_4 => ?_)
        replace h := h x4_4 e_x4_4
        refine lv_lstore (lv' := [(4, .long x4_4), (3, .int l3_7_0), (1, .long l1_7_0), (0, .ref h_a0)]) hx hb dX1_euler_21 hl (by decide) rfl (fun ls hl => ?_)
        refine lv_lload hx hb dX1_euler_23 (lv_at hl 0 rfl) ?_
        refine lv_lconst (v := (1 : Int64)) hx hb dX1_euler_25 (by decide) ?_
        refine W.lcmp hx hb dX1_euler_26 ?_
        refine lv_if_le (tgt := 40) hx hb dX1_euler_27 (by decide) (fun c_5 => ?_) (fun c_5 => ?_)
        · replace c_5 := (lg_cmp_le _ _).mp c_5
          replace h := h.1 c_5
          obtain ⟨x3_6, e_x3_6⟩ : ∃ y : Int32, y = l3_7_0 + (1 : Int32) := ⟨_, rfl⟩
          replace h := h x3_6 e_x3_6
          refine lv_iinc (v := x3_6) (lv' := [(3, .int x3_6), (4, .long x4_4), (1, .long l1_7_0), (0, .ref h_a0)]) hx hb dX1_euler_40 hl (k := 1) rfl (by rw [e_x3_6]; rfl) (by decide) rfl (fun ls hl => ?_)
          refine lv_goto (tgt := 7) hx hb dX1_euler_43 (by decide) ?_
          exact ih_7_0 x3_6 l1_7_0 (Nat.lt_of_lt_of_le h.2 (Nat.le_of_lt_succ hm_7_0)) h.1 _ _ _ (lv_sub hl [0, 2, 3] rfl) (hP.sub [0, 1] rfl) (hD.sub [0, 1] (by decide) rfl) hS
        · replace c_5 := lc_nle c_5
          replace h := h.2 c_5
          refine lv_lload_n hx hb dX1_euler_30 rfl (lv_at hl 2 rfl) ?_
          refine lv_lload hx hb dX1_euler_31 (lv_at hl 0 rfl) ?_
          obtain ⟨hne_7, h⟩ := h
          refine lv_ldiv hx hb dX1_euler_33 hne_7 ?_
          refine lv_lload hx hb dX1_euler_34 (lv_at hl 0 rfl) ?_
          refine lv_lconst (v := (1 : Int64)) hx hb dX1_euler_36 (by decide) ?_
          refine lv_lsub hx hb dX1_euler_37 ?_
          refine lv_lmul hx hb dX1_euler_38 ?_
          refine lv_topl (fun x1_8 e_x1_8 => ?_)
          replace h := h x1_8 e_x1_8
          refine lv_lstore_n (lv' := [(1, .long x1_8), (4, .long x4_4), (3, .int l3_7_0), (0, .ref h_a0)]) hx hb dX1_euler_39 rfl hl (by decide) rfl (fun ls hl => ?_)
          obtain ⟨x3_9, e_x3_9⟩ : ∃ y : Int32, y = l3_7_0 + (1 : Int32) := ⟨_, rfl⟩
          replace h := h x3_9 e_x3_9
          refine lv_iinc (v := x3_9) (lv' := [(3, .int x3_9), (1, .long x1_8), (4, .long x4_4), (0, .ref h_a0)]) hx hb dX1_euler_40 hl (k := 2) rfl (by rw [e_x3_9]; rfl) (by decide) rfl (fun ls hl => ?_)
          refine lv_goto (tgt := 7) hx hb dX1_euler_43 (by decide) ?_
          exact ih_7_0 x3_9 x1_8 (Nat.lt_of_lt_of_le h.2 (Nat.le_of_lt_succ hm_7_0)) h.1 _ _ _ (lv_sub hl [0, 1, 3] rfl) (hP.sub [0, 1] rfl) (hD.sub [0, 1] (by decide) rfl) hS
  exact key_7_0 _ (0 : Int32) a0_number (Nat.lt_succ_self _) h0_7_0 _ _ _ (lv_sub hl [0, 1, 2] rfl) (hP.sub [0, 1] rfl) (hD.sub [0, 1] (by decide) rfl) hS
def wp_X1_moebius (a0_powers : Nat → Int32) (a0_many : Int32)  (Q : Int32 → Prop) : Prop :=
  (∃ (I_4_0 : Int32 → Int32 → Prop) (m_4_0 : Int32 → Int32 → Nat), I_4_0 (0 : Int32) (1 : Int32) ∧ ∀ (l2_4_0 : Int32) (l1_4_0 : Int32), I_4_0 l2_4_0 l1_4_0 → ((a0_many ≤ l2_4_0 → Q l1_4_0) ∧ (¬ a0_many ≤ l2_4_0 → (vp_in l2_4_0 10 ∧ (((a0_powers l2_4_0.toNatClampNeg) = (1 : Int32) → (∀ x1_6 : Int32, x1_6 = (-l1_4_0) → (∀ x2_7 : Int32, x2_7 = l2_4_0 + (1 : Int32) → (I_4_0 x2_7 x1_6 ∧ m_4_0 x2_7 x1_6 < m_4_0 l2_4_0 l1_4_0)))) ∧ (¬ (a0_powers l2_4_0.toNatClampNeg) = (1 : Int32) → (∀ x2_5 : Int32, x2_5 = l2_4_0 + (1 : Int32) → (I_4_0 x2_5 (0 : Int32) ∧ m_4_0 x2_5 (0 : Int32) < m_4_0 l2_4_0 l1_4_0))))))))
abbrev rm_X1_moebius : Room := { frames := 0, cells := 0, slots := 0, locals := 0 }
abbrev qc_X1_moebius (dC : Nat → ClassId) (dI : Nat → Nat → Nat) (cI cJ cZ : ClassId) (h_a0 : Nat) (w_a0_factors : Value) (a0_powers : Nat → Int32) (q_a0_powers : Nat) (a0_number : Int64) (a0_many : Int32) (Q : Int32 → Prop) (A : Nat → Prop) : Array Value → State → Outcome → State → Prop := va_Qi (fun (r : Int32) (_ : Unit) => Q r) (post_ dC dI A (fun (u : Unit) => [(h_a0, .inr (1, [w_a0_factors, .ref q_a0_powers, .long a0_number, .int a0_many])), (q_a0_powers, .inl (cI, 10, .inl a0_powers))])) A
set_option maxHeartbeats 4000000 in
set_option maxRecDepth 100000 in
theorem c_X1_moebius (l : Launch) (dC : Nat → ClassId) (dI : Nat → Nat → Nat) (cI cJ cZ : ClassId) (sz : Nat) (h_a0 : Nat) (w_a0_factors : Value) (a0_powers : Nat → Int32) (q_a0_powers : Nat) (a0_number : Int64) (a0_many : Int32)  (Q : Int32 → Prop) (hQ : wp_X1_moebius a0_powers a0_many Q) : Met l yX1_moebius wsX1_moebius rm_X1_moebius (pre_ dC dI cI cJ cZ [.ref h_a0] [(h_a0, .inr (1, [w_a0_factors, .ref q_a0_powers, .long a0_number, .int a0_many])), (q_a0_powers, .inl (cI, 10, .inl a0_powers))] sz) (qc_X1_moebius dC dI cI cJ cZ h_a0 w_a0_factors a0_powers q_a0_powers a0_number a0_many Q (va_A [(h_a0, .inr (1, [w_a0_factors, .ref q_a0_powers, .long a0_number, .int a0_many])), (q_a0_powers, .inl (cI, 10, .inl a0_powers))] sz)) 0 0 (va_A [(h_a0, .inr (1, [w_a0_factors, .ref q_a0_powers, .long a0_number, .int a0_many])), (q_a0_powers, .inl (cI, 10, .inl a0_powers))] sz) := by
  refine Met.ofW (cc := cX1_moebius) (maxL := 3) (ret := (some .int)) (by decide) rfl ?_
  intro p e s m args below meth c s₁ B hml hv
  obtain ⟨rfl, hsz, hP, hK, hN, hD0⟩ := hv
  have hx := B.exec
  have hb := B.bytes
  have hr := B.returns
  have hts := atoms_spec (ws := wsX1_moebius) B.pre
  have hown : s.vm.findClass RX1 = some m.cls := findClass_of_methodNamed B.named
  subst hsz
  have hD := hD0.self (sz := s.heap.size)
  generalize hAe : va_A [(h_a0, .inr (1, [w_a0_factors, .ref q_a0_powers, .long a0_number, .int a0_many])), (q_a0_powers, .inl (cI, 10, .inl a0_powers))] s.heap.size = A at hD ⊢
  have hA : ∀ q : Nat, s.heap.size ≤ q → A q := fun q h => by rw [← hAe]; exact Or.inr h
  have hS : va_S A s.heap s.heap [] := va_S.rf
  have hl := lv_entry ([.ref h_a0]) (n := 3) (Nat.le_of_ble_eq_true rfl)
  rw [lg_entry_eq]
  generalize (lg_sl ([.ref h_a0]) ++ List.replicate (3 - (lg_sl ([.ref h_a0])).length) Slot.unset).toArray = ls at hl ⊢
  have hl : lv_has ls 3 [(0, .ref h_a0)] := hl
  have h := hQ
  unfold wp_X1_moebius at h
  have hw_0 := hts (.fieldLink RX1 21 "NumberSieves$Parting" "many" "I") (by decide +kernel)
  have hin_X1 : ∀ w ∈ wsX10, w ∈ wsX1_moebius := by decide +kernel
  have hw_2 := hts (.fieldLink RX1 13 "NumberSieves$Parting" "powers" "[I") (by decide +kernel)
  refine lv_iconst (v := (1 : Int32)) hx hb dX1_moebius_0 (by decide) ?_
  refine lv_istore_n (lv' := [(1, .int (1 : Int32)), (0, .ref h_a0)]) hx hb dX1_moebius_1 rfl hl (by decide) rfl (fun ls hl => ?_)
  refine lv_iconst (v := (0 : Int32)) hx hb dX1_moebius_2 (by decide) ?_
  refine lv_istore_n (lv' := [(2, .int (0 : Int32)), (1, .int (1 : Int32)), (0, .ref h_a0)]) hx hb dX1_moebius_3 rfl hl (by decide) rfl (fun ls hl => ?_)
  obtain ⟨I_4_0, m_4_0, h0_4_0, hs_4_0⟩ := h
  have key_4_0 : ∀ (n : Nat) (l2_4_0 : Int32) (l1_4_0 : Int32), m_4_0 l2_4_0 l1_4_0 < n → I_4_0 l2_4_0 l1_4_0 → ∀ (ls : Array Slot) (H : Heap) (locs : List Loc), lv_has ls 3 [(2, .int l2_4_0), (1, .int l1_4_0), (0, .ref h_a0)] → va_P (dC, dI) vwCl [(h_a0, .inr (1, [w_a0_factors, .ref q_a0_powers, .long a0_number, .int a0_many])), (q_a0_powers, .inl (cI, 10, .inl a0_powers))] H → va_D A [(h_a0, .inr (1, [w_a0_factors, .ref q_a0_powers, .long a0_number, .int a0_many])), (q_a0_powers, .inl (cI, 10, .inl a0_powers))] → va_S A s.heap H locs → W p l e (headSpec wsX1_moebius rm_X1_moebius).room s m ([.ref h_a0] : List Value).toArray below meth c H locs 0 0 (MQ below (qc_X1_moebius dC dI cI cJ cZ h_a0 w_a0_factors a0_powers q_a0_powers a0_number a0_many Q A) ([.ref h_a0] : List Value).toArray s 0 0 A) (F0 m 4 ls []) := by
    intro n
    induction n with
    | zero =>
      intro l2_4_0 l1_4_0 hm
      exact absurd hm (Nat.not_lt_zero _)
    | succ n ih_4_0 =>
      intro l2_4_0 l1_4_0 hm_4_0 hI ls H locs hl hP hD hS
      have h := hs_4_0 l2_4_0 l1_4_0 hI
      refine lv_iload_n hx hb dX1_moebius_4 rfl (lv_at hl 0 rfl) ?_
      refine lv_aload_n hx hb dX1_moebius_5 rfl (lv_at hl 2 rfl) ?_
      refine va_get (D := (dC, dI)) (ci := 1) (v := .int a0_many) (C := RX1) (T := TX1) (N := 4) hx hb hts hin_X1 hown hK hP 0 rfl rfl 3 (by decide) hw_0 (fun _ h9 => h9) rfl dX1_moebius_6 ?_
      refine lv_icmp_ge (tgt := 35) hx hb dX1_moebius_9 (by decide) (fun c_2 => ?_) (fun c_2 => ?_)
      · replace h := h.1 c_2
        refine lv_iload_n hx hb dX1_moebius_35 rfl (lv_at hl 1 rfl) ?_
        have hP9 := hP.sub (ws' := [(h_a0, .inr (1, [w_a0_factors, .ref q_a0_powers, .long a0_number, .int a0_many])), (q_a0_powers, .inl (cI, 10, .inl a0_powers))]) [0, 1] rfl
        have hD9 := hD.sub (ws' := [(h_a0, .inr (1, [w_a0_factors, .ref q_a0_powers, .long a0_number, .int a0_many])), (q_a0_powers, .inl (cI, 10, .inl a0_powers))]) [0, 1] (by decide) rfl
        exact W.iret (v := l1_4_0) hx hb hr (fun t ht hW => ⟨⟨_, (), rfl, h, by rw [ht]; exact hP9, hD9⟩, hS.F ht⟩) hS.2.2 dX1_moebius_36
      · replace h := h.2 c_2
        refine lv_aload_n hx hb dX1_moebius_12 rfl (lv_at hl 2 rfl) ?_
        refine va_get (D := (dC, dI)) (ci := 1) (v := .ref q_a0_powers) (C := RX1) (T := TX1) (N := 4) hx hb hts hin_X1 hown hK hP 0 rfl rfl 1 (by decide) hw_2 (fun _ h9 => h9) rfl dX1_moebius_13 ?_
        refine lv_iload_n hx hb dX1_moebius_16 rfl (lv_at hl 0 rfl) ?_
        obtain ⟨hin_3, h⟩ := h
        refine va_iald hx hb hK hP 1 0 rfl rfl hin_3 dX1_moebius_17 ?_
        refine lv_iconst (v := (1 : Int32)) hx hb dX1_moebius_18 (by decide) ?_
        refine lv_icmp_ne (tgt := 27) hx hb dX1_moebius_19 (by decide) (fun c_4 => ?_) (fun c_4 => ?_)
        · replace h := h.2 c_4
          refine lv_iconst (v := (0 : Int32)) hx hb dX1_moebius_27 (by decide) ?_
          refine lv_istore_n (lv' := [(1, .int (0 : Int32)), (2, .int l2_4_0), (0, .ref h_a0)]) hx hb dX1_moebius_28 rfl hl (by decide) rfl (fun ls hl => ?_)
          obtain ⟨x2_5, e_x2_5⟩ : ∃ y : Int32, y = l2_4_0 + (1 : Int32) := ⟨_, rfl⟩
          replace h := h x2_5 e_x2_5
          refine lv_iinc (v := x2_5) (lv' := [(2, .int x2_5), (1, .int (0 : Int32)), (0, .ref h_a0)]) hx hb dX1_moebius_29 hl (k := 1) rfl (by rw [e_x2_5]; rfl) (by decide) rfl (fun ls hl => ?_)
          refine lv_goto (tgt := 4) hx hb dX1_moebius_32 (by decide) ?_
          exact ih_4_0 x2_5 (0 : Int32) (Nat.lt_of_lt_of_le h.2 (Nat.le_of_lt_succ hm_4_0)) h.1 _ _ _ (lv_sub hl [0, 1, 2] rfl) (hP.sub [0, 1] rfl) (hD.sub [0, 1] (by decide) rfl) hS
        · replace h := h.1 c_4
          refine lv_iload_n hx hb dX1_moebius_22 rfl (lv_at hl 1 rfl) ?_
          refine lv_ineg hx hb dX1_moebius_23 ?_
          refine lv_goto (tgt := 28) hx hb dX1_moebius_24 (by decide) ?_
          refine lv_topi (fun x1_6 e_x1_6 => ?_)
          replace h := h x1_6 e_x1_6
          refine lv_istore_n (lv' := [(1, .int x1_6), (2, .int l2_4_0), (0, .ref h_a0)]) hx hb dX1_moebius_28 rfl hl (by decide) rfl (fun ls hl => ?_)
          obtain ⟨x2_7, e_x2_7⟩ : ∃ y : Int32, y = l2_4_0 + (1 : Int32) := ⟨_, rfl⟩
          replace h := h x2_7 e_x2_7
          refine lv_iinc (v := x2_7) (lv' := [(2, .int x2_7), (1, .int x1_6), (0, .ref h_a0)]) hx hb dX1_moebius_29 hl (k := 1) rfl (by rw [e_x2_7]; rfl) (by decide) rfl (fun ls hl => ?_)
          refine lv_goto (tgt := 4) hx hb dX1_moebius_32 (by decide) ?_
          exact ih_4_0 x2_7 x1_6 (Nat.lt_of_lt_of_le h.2 (Nat.le_of_lt_succ hm_4_0)) h.1 _ _ _ (lv_sub hl [0, 1, 2] rfl) (hP.sub [0, 1] rfl) (hD.sub [0, 1] (by decide) rfl) hS
  exact key_4_0 _ (0 : Int32) (1 : Int32) (Nat.lt_succ_self _) h0_4_0 _ _ _ (lv_sub hl [0, 1, 2] rfl) (hP.sub [0, 1] rfl) (hD.sub [0, 1] (by decide) rfl) hS
def wp_X1_primeProduct (a0_factors : Nat → Int64) (a0_many : Int32)  (Q : Int64 → Prop) : Prop :=
  (∃ (I_4_0 : Int32 → Int64 → Prop) (m_4_0 : Int32 → Int64 → Nat), I_4_0 (0 : Int32) (1 : Int64) ∧ ∀ (l3_4_0 : Int32) (l1_4_0 : Int64), I_4_0 l3_4_0 l1_4_0 → ((a0_many ≤ l3_4_0 → Q l1_4_0) ∧ (¬ a0_many ≤ l3_4_0 → (vp_in l3_4_0 10 ∧ (∀ x1_4 : Int64, x1_4 = (l1_4_0 * (a0_factors l3_4_0.toNatClampNeg)) → (∀ x3_5 : Int32, x3_5 = l3_4_0 + (1 : Int32) → (I_4_0 x3_5 x1_4 ∧ m_4_0 x3_5 x1_4 < m_4_0 l3_4_0 l1_4_0)))))))
abbrev rm_X1_primeProduct : Room := { frames := 0, cells := 0, slots := 0, locals := 0 }
abbrev qc_X1_primeProduct (dC : Nat → ClassId) (dI : Nat → Nat → Nat) (cI cJ cZ : ClassId) (h_a0 : Nat) (a0_factors : Nat → Int64) (q_a0_factors : Nat) (w_a0_powers : Value) (a0_number : Int64) (a0_many : Int32) (Q : Int64 → Prop) (A : Nat → Prop) : Array Value → State → Outcome → State → Prop := va_Ql (fun (r : Int64) (_ : Unit) => Q r) (post_ dC dI A (fun (u : Unit) => [(h_a0, .inr (1, [.ref q_a0_factors, w_a0_powers, .long a0_number, .int a0_many])), (q_a0_factors, .inl (cJ, 10, .inr (.inl a0_factors)))])) A
set_option maxHeartbeats 4000000 in
set_option maxRecDepth 100000 in
theorem c_X1_primeProduct (l : Launch) (dC : Nat → ClassId) (dI : Nat → Nat → Nat) (cI cJ cZ : ClassId) (sz : Nat) (h_a0 : Nat) (a0_factors : Nat → Int64) (q_a0_factors : Nat) (w_a0_powers : Value) (a0_number : Int64) (a0_many : Int32)  (Q : Int64 → Prop) (hQ : wp_X1_primeProduct a0_factors a0_many Q) : Met l yX1_primeProduct wsX1_primeProduct rm_X1_primeProduct (pre_ dC dI cI cJ cZ [.ref h_a0] [(h_a0, .inr (1, [.ref q_a0_factors, w_a0_powers, .long a0_number, .int a0_many])), (q_a0_factors, .inl (cJ, 10, .inr (.inl a0_factors)))] sz) (qc_X1_primeProduct dC dI cI cJ cZ h_a0 a0_factors q_a0_factors w_a0_powers a0_number a0_many Q (va_A [(h_a0, .inr (1, [.ref q_a0_factors, w_a0_powers, .long a0_number, .int a0_many])), (q_a0_factors, .inl (cJ, 10, .inr (.inl a0_factors)))] sz)) 0 0 (va_A [(h_a0, .inr (1, [.ref q_a0_factors, w_a0_powers, .long a0_number, .int a0_many])), (q_a0_factors, .inl (cJ, 10, .inr (.inl a0_factors)))] sz) := by
  refine Met.ofW (cc := cX1_primeProduct) (maxL := 4) (ret := (some .long)) (by decide) rfl ?_
  intro p e s m args below meth c s₁ B hml hv
  obtain ⟨rfl, hsz, hP, hK, hN, hD0⟩ := hv
  have hx := B.exec
  have hb := B.bytes
  have hr := B.returns
  have hts := atoms_spec (ws := wsX1_primeProduct) B.pre
  have hown : s.vm.findClass RX1 = some m.cls := findClass_of_methodNamed B.named
  subst hsz
  have hD := hD0.self (sz := s.heap.size)
  generalize hAe : va_A [(h_a0, .inr (1, [.ref q_a0_factors, w_a0_powers, .long a0_number, .int a0_many])), (q_a0_factors, .inl (cJ, 10, .inr (.inl a0_factors)))] s.heap.size = A at hD ⊢
  have hA : ∀ q : Nat, s.heap.size ≤ q → A q := fun q h => by rw [← hAe]; exact Or.inr h
  have hS : va_S A s.heap s.heap [] := va_S.rf
  have hl := lv_entry ([.ref h_a0]) (n := 4) (Nat.le_of_ble_eq_true rfl)
  rw [lg_entry_eq]
  generalize (lg_sl ([.ref h_a0]) ++ List.replicate (4 - (lg_sl ([.ref h_a0])).length) Slot.unset).toArray = ls at hl ⊢
  have hl : lv_has ls 4 [(0, .ref h_a0)] := hl
  have h := hQ
  unfold wp_X1_primeProduct at h
  have hw_0 := hts (.fieldLink RX1 21 "NumberSieves$Parting" "many" "I") (by decide +kernel)
  have hin_X1 : ∀ w ∈ wsX10, w ∈ wsX1_primeProduct := by decide +kernel
  have hw_2 := hts (.fieldLink RX1 9 "NumberSieves$Parting" "factors" "[J") (by decide +kernel)
  refine lv_lconst (v := (1 : Int64)) hx hb dX1_primeProduct_0 (by decide) ?_
  refine lv_lstore_n (lv' := [(1, .long (1 : Int64)), (0, .ref h_a0)]) hx hb dX1_primeProduct_1 rfl hl (by decide) rfl (fun ls hl => ?_)
  refine lv_iconst (v := (0 : Int32)) hx hb dX1_primeProduct_2 (by decide) ?_
  refine lv_istore_n (lv' := [(3, .int (0 : Int32)), (1, .long (1 : Int64)), (0, .ref h_a0)]) hx hb dX1_primeProduct_3 rfl hl (by decide) rfl (fun ls hl => ?_)
  obtain ⟨I_4_0, m_4_0, h0_4_0, hs_4_0⟩ := h
  have key_4_0 : ∀ (n : Nat) (l3_4_0 : Int32) (l1_4_0 : Int64), m_4_0 l3_4_0 l1_4_0 < n → I_4_0 l3_4_0 l1_4_0 → ∀ (ls : Array Slot) (H : Heap) (locs : List Loc), lv_has ls 4 [(3, .int l3_4_0), (1, .long l1_4_0), (0, .ref h_a0)] → va_P (dC, dI) vwCl [(h_a0, .inr (1, [.ref q_a0_factors, w_a0_powers, .long a0_number, .int a0_many])), (q_a0_factors, .inl (cJ, 10, .inr (.inl a0_factors)))] H → va_D A [(h_a0, .inr (1, [.ref q_a0_factors, w_a0_powers, .long a0_number, .int a0_many])), (q_a0_factors, .inl (cJ, 10, .inr (.inl a0_factors)))] → va_S A s.heap H locs → W p l e (headSpec wsX1_primeProduct rm_X1_primeProduct).room s m ([.ref h_a0] : List Value).toArray below meth c H locs 0 0 (MQ below (qc_X1_primeProduct dC dI cI cJ cZ h_a0 a0_factors q_a0_factors w_a0_powers a0_number a0_many Q A) ([.ref h_a0] : List Value).toArray s 0 0 A) (F0 m 4 ls []) := by
    intro n
    induction n with
    | zero =>
      intro l3_4_0 l1_4_0 hm
      exact absurd hm (Nat.not_lt_zero _)
    | succ n ih_4_0 =>
      intro l3_4_0 l1_4_0 hm_4_0 hI ls H locs hl hP hD hS
      have h := hs_4_0 l3_4_0 l1_4_0 hI
      refine lv_iload_n hx hb dX1_primeProduct_4 rfl (lv_at hl 0 rfl) ?_
      refine lv_aload_n hx hb dX1_primeProduct_5 rfl (lv_at hl 2 rfl) ?_
      refine va_get (D := (dC, dI)) (ci := 1) (v := .int a0_many) (C := RX1) (T := TX1) (N := 4) hx hb hts hin_X1 hown hK hP 0 rfl rfl 3 (by decide) hw_0 (fun _ h9 => h9) rfl dX1_primeProduct_6 ?_
      refine lv_icmp_ge (tgt := 27) hx hb dX1_primeProduct_9 (by decide) (fun c_2 => ?_) (fun c_2 => ?_)
      · replace h := h.1 c_2
        refine lv_lload_n hx hb dX1_primeProduct_27 rfl (lv_at hl 1 rfl) ?_
        have hP9 := hP.sub (ws' := [(h_a0, .inr (1, [.ref q_a0_factors, w_a0_powers, .long a0_number, .int a0_many])), (q_a0_factors, .inl (cJ, 10, .inr (.inl a0_factors)))]) [0, 1] rfl
        have hD9 := hD.sub (ws' := [(h_a0, .inr (1, [.ref q_a0_factors, w_a0_powers, .long a0_number, .int a0_many])), (q_a0_factors, .inl (cJ, 10, .inr (.inl a0_factors)))]) [0, 1] (by decide) rfl
        exact W.lret (v := l1_4_0) hx hb hr (fun t ht hW => ⟨⟨_, (), rfl, h, by rw [ht]; exact hP9, hD9⟩, hS.F ht⟩) hS.2.2 dX1_primeProduct_28
      · replace h := h.2 c_2
        refine lv_lload_n hx hb dX1_primeProduct_12 rfl (lv_at hl 1 rfl) ?_
        refine lv_aload_n hx hb dX1_primeProduct_13 rfl (lv_at hl 2 rfl) ?_
        refine va_get (D := (dC, dI)) (ci := 1) (v := .ref q_a0_factors) (C := RX1) (T := TX1) (N := 4) hx hb hts hin_X1 hown hK hP 0 rfl rfl 0 (by decide) hw_2 (fun _ h9 => h9) rfl dX1_primeProduct_14 ?_
        refine lv_iload_n hx hb dX1_primeProduct_17 rfl (lv_at hl 0 rfl) ?_
        obtain ⟨hin_3, h⟩ := h
        refine va_lald hx hb hK hP 1 1 rfl rfl hin_3 dX1_primeProduct_18 ?_
        refine lv_lmul hx hb dX1_primeProduct_19 ?_
        refine lv_topl (fun x1_4 e_x1_4 => ?_)
        replace h := h x1_4 e_x1_4
        refine lv_lstore_n (lv' := [(1, .long x1_4), (3, .int l3_4_0), (0, .ref h_a0)]) hx hb dX1_primeProduct_20 rfl hl (by decide) rfl (fun ls hl => ?_)
        obtain ⟨x3_5, e_x3_5⟩ : ∃ y : Int32, y = l3_4_0 + (1 : Int32) := ⟨_, rfl⟩
        replace h := h x3_5 e_x3_5
        refine lv_iinc (v := x3_5) (lv' := [(3, .int x3_5), (1, .long x1_4), (0, .ref h_a0)]) hx hb dX1_primeProduct_21 hl (k := 1) rfl (by rw [e_x3_5]; rfl) (by decide) rfl (fun ls hl => ?_)
        refine lv_goto (tgt := 4) hx hb dX1_primeProduct_24 (by decide) ?_
        exact ih_4_0 x3_5 x1_4 (Nat.lt_of_lt_of_le h.2 (Nat.le_of_lt_succ hm_4_0)) h.1 _ _ _ (lv_sub hl [0, 1, 2] rfl) (hP.sub [0, 1] rfl) (hD.sub [0, 1] (by decide) rfl) hS
  exact key_4_0 _ (0 : Int32) (1 : Int64) (Nat.lt_succ_self _) h0_4_0 _ _ _ (lv_sub hl [0, 1, 2] rfl) (hP.sub [0, 1] rfl) (hD.sub [0, 1] (by decide) rfl) hS
def wp_X1_strangersUpTo (a0_factors : Nat → Int64) (a0_many : Int32) (p1 : Int64) (Q : Int64 → Prop) : Prop :=
  (∀ x5_1 : Int32, x5_1 = ((1 : Int32) <<< (a0_many &&& 31)) → (∃ (I_13_1 : Int32 → Int64 → Prop) (m_13_1 : Int32 → Int64 → Nat), I_13_1 (0 : Int32) (0 : Int64) ∧ ∀ (l6_13_1 : Int32) (l3_13_1 : Int64), I_13_1 l6_13_1 l3_13_1 → ((x5_1 ≤ l6_13_1 → Q l3_13_1) ∧ (¬ x5_1 ≤ l6_13_1 → (∃ (I_26_3 : Int32 → Int64 → Prop) (m_26_3 : Int32 → Int64 → Nat), I_26_3 (0 : Int32) (1 : Int64) ∧ ∀ (l9_26_3 : Int32) (l7_26_3 : Int64), I_26_3 l9_26_3 l7_26_3 → ((a0_many ≤ l9_26_3 → ((l7_26_3 ≤ (0 : Int64) → (∀ x6_7 : Int32, x6_7 = l6_13_1 + (1 : Int32) → (I_13_1 x6_7 l3_13_1 ∧ m_13_1 x6_7 l3_13_1 < m_13_1 l6_13_1 l3_13_1))) ∧ (¬ l7_26_3 ≤ (0 : Int64) → (¬ l7_26_3 = 0 ∧ (∀ x9_9 : Int64, x9_9 = (p1 / l7_26_3) → wp_J6_bitCount_0f7a4 l6_13_1 (fun r_10 => (((r_10 - r_10 / (2 : Int32) * (2 : Int32)) = (0 : Int32) → (∀ x3_14 : Int64, x3_14 = (l3_13_1 + x9_9) → (∀ x6_15 : Int32, x6_15 = l6_13_1 + (1 : Int32) → (I_13_1 x6_15 x3_14 ∧ m_13_1 x6_15 x3_14 < m_13_1 l6_13_1 l3_13_1)))) ∧ (¬ (r_10 - r_10 / (2 : Int32) * (2 : Int32)) = (0 : Int32) → (∀ x3_12 : Int64, x3_12 = (l3_13_1 + (-x9_9)) → (∀ x6_13 : Int32, x6_13 = l6_13_1 + (1 : Int32) → (I_13_1 x6_13 x3_12 ∧ m_13_1 x6_13 x3_12 < m_13_1 l6_13_1 l3_13_1))))))))))) ∧ (¬ a0_many ≤ l9_26_3 → ((((l6_13_1 >>> (l9_26_3 &&& 31)) &&& (1 : Int32)) = (1 : Int32) → (vp_in l9_26_3 10 ∧ (∀ x7_20 : Int64, x7_20 = (l7_26_3 * (a0_factors l9_26_3.toNatClampNeg)) → (∀ x9_21 : Int32, x9_21 = l9_26_3 + (1 : Int32) → (I_26_3 x9_21 x7_20 ∧ m_26_3 x9_21 x7_20 < m_26_3 l9_26_3 l7_26_3))))) ∧ (¬ ((l6_13_1 >>> (l9_26_3 &&& 31)) &&& (1 : Int32)) = (1 : Int32) → (∀ x7_17 : Int64, x7_17 = (l7_26_3 * (1 : Int64)) → (∀ x9_18 : Int32, x9_18 = l9_26_3 + (1 : Int32) → (I_26_3 x9_18 x7_17 ∧ m_26_3 x9_18 x7_17 < m_26_3 l9_26_3 l7_26_3))))))))))))
abbrev rm_X1_strangersUpTo : Room := { frames := 1, cells := 0, slots := 0, locals := 20 }
abbrev qc_X1_strangersUpTo (dC : Nat → ClassId) (dI : Nat → Nat → Nat) (cI cJ cZ : ClassId) (h_a0 : Nat) (a0_factors : Nat → Int64) (q_a0_factors : Nat) (w_a0_powers : Value) (a0_number : Int64) (a0_many : Int32) (Q : Int64 → Prop) (A : Nat → Prop) : Array Value → State → Outcome → State → Prop := va_Ql (fun (r : Int64) (_ : Unit) => Q r) (post_ dC dI A (fun (u : Unit) => [(h_a0, .inr (1, [.ref q_a0_factors, w_a0_powers, .long a0_number, .int a0_many])), (q_a0_factors, .inl (cJ, 10, .inr (.inl a0_factors)))])) A
set_option maxHeartbeats 4000000 in
set_option maxRecDepth 100000 in
theorem c_X1_strangersUpTo (l : Launch) (dC : Nat → ClassId) (dI : Nat → Nat → Nat) (cI cJ cZ : ClassId) (sz : Nat) (h_a0 : Nat) (a0_factors : Nat → Int64) (q_a0_factors : Nat) (w_a0_powers : Value) (a0_number : Int64) (a0_many : Int32) (p1 : Int64) (Q : Int64 → Prop) (hQ : wp_X1_strangersUpTo a0_factors a0_many p1 Q) : Met l yX1_strangersUpTo wsX1_strangersUpTo rm_X1_strangersUpTo (pre_ dC dI cI cJ cZ [.ref h_a0, .long p1] [(h_a0, .inr (1, [.ref q_a0_factors, w_a0_powers, .long a0_number, .int a0_many])), (q_a0_factors, .inl (cJ, 10, .inr (.inl a0_factors)))] sz) (qc_X1_strangersUpTo dC dI cI cJ cZ h_a0 a0_factors q_a0_factors w_a0_powers a0_number a0_many Q (va_A [(h_a0, .inr (1, [.ref q_a0_factors, w_a0_powers, .long a0_number, .int a0_many])), (q_a0_factors, .inl (cJ, 10, .inr (.inl a0_factors)))] sz)) 0 0 (va_A [(h_a0, .inr (1, [.ref q_a0_factors, w_a0_powers, .long a0_number, .int a0_many])), (q_a0_factors, .inl (cJ, 10, .inr (.inl a0_factors)))] sz) := by
  refine Met.ofW (cc := cX1_strangersUpTo) (maxL := 11) (ret := (some .long)) (by decide) rfl ?_
  intro p e s m args below meth c s₁ B hml hv
  obtain ⟨rfl, hsz, hP, hK, hN, hD0⟩ := hv
  have hx := B.exec
  have hb := B.bytes
  have hr := B.returns
  have hts := atoms_spec (ws := wsX1_strangersUpTo) B.pre
  have hown : s.vm.findClass RX1 = some m.cls := findClass_of_methodNamed B.named
  subst hsz
  have hD := hD0.self (sz := s.heap.size)
  generalize hAe : va_A [(h_a0, .inr (1, [.ref q_a0_factors, w_a0_powers, .long a0_number, .int a0_many])), (q_a0_factors, .inl (cJ, 10, .inr (.inl a0_factors)))] s.heap.size = A at hD ⊢
  have hA : ∀ q : Nat, s.heap.size ≤ q → A q := fun q h => by rw [← hAe]; exact Or.inr h
  have hS : va_S A s.heap s.heap [] := va_S.rf
  have hl := lv_entry ([.ref h_a0, .long p1]) (n := 11) (Nat.le_of_ble_eq_true rfl)
  rw [lg_entry_eq]
  generalize (lg_sl ([.ref h_a0, .long p1]) ++ List.replicate (11 - (lg_sl ([.ref h_a0, .long p1])).length) Slot.unset).toArray = ls at hl ⊢
  have hl : lv_has ls 11 [(0, .ref h_a0), (1, .long p1)] := hl
  have h := hQ
  unfold wp_X1_strangersUpTo at h
  have hw_0 := hts (.fieldLink RX1 21 "NumberSieves$Parting" "many" "I") (by decide +kernel)
  have hin_X1 : ∀ w ∈ wsX10, w ∈ wsX1_strangersUpTo := by decide +kernel
  have hw_2 := hts (.fieldLink RX1 9 "NumberSieves$Parting" "factors" "[J") (by decide +kernel)
  refine lv_lconst (v := (0 : Int64)) hx hb dX1_strangersUpTo_0 (by decide) ?_
  refine lv_lstore_n (lv' := [(3, .long (0 : Int64)), (0, .ref h_a0), (1, .long p1)]) hx hb dX1_strangersUpTo_1 rfl hl (by decide) rfl (fun ls hl => ?_)
  refine lv_iconst (v := (1 : Int32)) hx hb dX1_strangersUpTo_2 (by decide) ?_
  refine lv_aload_n hx hb dX1_strangersUpTo_3 rfl (lv_at hl 1 rfl) ?_
  refine va_get (D := (dC, dI)) (ci := 1) (v := .int a0_many) (C := RX1) (T := TX1) (N := 4) hx hb hts hin_X1 hown hK hP 0 rfl rfl 3 (by decide) hw_0 (fun _ h9 => h9) rfl dX1_strangersUpTo_4 ?_
  refine lv_ishl hx hb dX1_strangersUpTo_7 ?_
  refine lv_topi (fun x5_1 e_x5_1 => ?_)
  replace h := h x5_1 e_x5_1
  refine lv_istore (lv' := [(5, .int x5_1), (3, .long (0 : Int64)), (0, .ref h_a0), (1, .long p1)]) hx hb dX1_strangersUpTo_8 hl (by decide) rfl (fun ls hl => ?_)
  refine lv_iconst (v := (0 : Int32)) hx hb dX1_strangersUpTo_10 (by decide) ?_
  refine lv_istore (lv' := [(6, .int (0 : Int32)), (5, .int x5_1), (3, .long (0 : Int64)), (0, .ref h_a0), (1, .long p1)]) hx hb dX1_strangersUpTo_11 hl (by decide) rfl (fun ls hl => ?_)
  obtain ⟨I_13_1, m_13_1, h0_13_1, hs_13_1⟩ := h
  have key_13_1 : ∀ (n : Nat) (l6_13_1 : Int32) (l3_13_1 : Int64), m_13_1 l6_13_1 l3_13_1 < n → I_13_1 l6_13_1 l3_13_1 → ∀ (ls : Array Slot) (H : Heap) (locs : List Loc), lv_has ls 11 [(6, .int l6_13_1), (5, .int x5_1), (3, .long l3_13_1), (0, .ref h_a0), (1, .long p1)] → va_P (dC, dI) vwCl [(h_a0, .inr (1, [.ref q_a0_factors, w_a0_powers, .long a0_number, .int a0_many])), (q_a0_factors, .inl (cJ, 10, .inr (.inl a0_factors)))] H → va_D A [(h_a0, .inr (1, [.ref q_a0_factors, w_a0_powers, .long a0_number, .int a0_many])), (q_a0_factors, .inl (cJ, 10, .inr (.inl a0_factors)))] → va_S A s.heap H locs → W p l e (headSpec wsX1_strangersUpTo rm_X1_strangersUpTo).room s m ([.ref h_a0, .long p1] : List Value).toArray below meth c H locs 0 0 (MQ below (qc_X1_strangersUpTo dC dI cI cJ cZ h_a0 a0_factors q_a0_factors w_a0_powers a0_number a0_many Q A) ([.ref h_a0, .long p1] : List Value).toArray s 0 0 A) (F0 m 13 ls []) := by
    intro n
    induction n with
    | zero =>
      intro l6_13_1 l3_13_1 hm
      exact absurd hm (Nat.not_lt_zero _)
    | succ n ih_13_1 =>
      intro l6_13_1 l3_13_1 hm_13_1 hI ls H locs hl hP hD hS
      have h := hs_13_1 l6_13_1 l3_13_1 hI
      refine lv_iload hx hb dX1_strangersUpTo_13 (lv_at hl 0 rfl) ?_
      refine lv_iload hx hb dX1_strangersUpTo_15 (lv_at hl 1 rfl) ?_
      refine lv_icmp_ge (tgt := 108) hx hb dX1_strangersUpTo_17 (by decide) (fun c_3 => ?_) (fun c_3 => ?_)
      · replace h := h.1 c_3
        refine lv_lload_n hx hb dX1_strangersUpTo_108 rfl (lv_at hl 2 rfl) ?_
        have hP9 := hP.sub (ws' := [(h_a0, .inr (1, [.ref q_a0_factors, w_a0_powers, .long a0_number, .int a0_many])), (q_a0_factors, .inl (cJ, 10, .inr (.inl a0_factors)))]) [0, 1] rfl
        have hD9 := hD.sub (ws' := [(h_a0, .inr (1, [.ref q_a0_factors, w_a0_powers, .long a0_number, .int a0_many])), (q_a0_factors, .inl (cJ, 10, .inr (.inl a0_factors)))]) [0, 1] (by decide) rfl
        exact W.lret (v := l3_13_1) hx hb hr (fun t ht hW => ⟨⟨_, (), rfl, h, by rw [ht]; exact hP9, hD9⟩, hS.F ht⟩) hS.2.2 dX1_strangersUpTo_109
      · replace h := h.2 c_3
        refine lv_lconst (v := (1 : Int64)) hx hb dX1_strangersUpTo_20 (by decide) ?_
        refine lv_lstore (lv' := [(7, .long (1 : Int64)), (6, .int l6_13_1), (5, .int x5_1), (3, .long l3_13_1), (0, .ref h_a0), (1, .long p1)]) hx hb dX1_strangersUpTo_21 hl (by decide) rfl (fun ls hl => ?_)
        refine lv_iconst (v := (0 : Int32)) hx hb dX1_strangersUpTo_23 (by decide) ?_
        refine lv_istore (lv' := [(9, .int (0 : Int32)), (7, .long (1 : Int64)), (6, .int l6_13_1), (5, .int x5_1), (3, .long l3_13_1), (0, .ref h_a0), (1, .long p1)]) hx hb dX1_strangersUpTo_24 hl (by decide) rfl (fun ls hl => ?_)
        obtain ⟨I_26_3, m_26_3, h0_26_3, hs_26_3⟩ := h
        have key_26_3 : ∀ (n : Nat) (l9_26_3 : Int32) (l7_26_3 : Int64), m_26_3 l9_26_3 l7_26_3 < n → I_26_3 l9_26_3 l7_26_3 → ∀ (ls : Array Slot) (H : Heap) (locs : List Loc), lv_has ls 11 [(9, .int l9_26_3), (7, .long l7_26_3), (6, .int l6_13_1), (5, .int x5_1), (3, .long l3_13_1), (0, .ref h_a0), (1, .long p1)] → va_P (dC, dI) vwCl [(h_a0, .inr (1, [.ref q_a0_factors, w_a0_powers, .long a0_number, .int a0_many])), (q_a0_factors, .inl (cJ, 10, .inr (.inl a0_factors)))] H → va_D A [(h_a0, .inr (1, [.ref q_a0_factors, w_a0_powers, .long a0_number, .int a0_many])), (q_a0_factors, .inl (cJ, 10, .inr (.inl a0_factors)))] → va_S A s.heap H locs → W p l e (headSpec wsX1_strangersUpTo rm_X1_strangersUpTo).room s m ([.ref h_a0, .long p1] : List Value).toArray below meth c H locs 0 0 (MQ below (qc_X1_strangersUpTo dC dI cI cJ cZ h_a0 a0_factors q_a0_factors w_a0_powers a0_number a0_many Q A) ([.ref h_a0, .long p1] : List Value).toArray s 0 0 A) (F0 m 26 ls []) := by
          intro n
          induction n with
          | zero =>
            intro l9_26_3 l7_26_3 hm
            exact absurd hm (Nat.not_lt_zero _)
          | succ n ih_26_3 =>
            intro l9_26_3 l7_26_3 hm_26_3 hI ls H locs hl hP hD hS
            have h := hs_26_3 l9_26_3 l7_26_3 hI
            refine lv_iload hx hb dX1_strangersUpTo_26 (lv_at hl 0 rfl) ?_
            refine lv_aload_n hx hb dX1_strangersUpTo_28 rfl (lv_at hl 5 rfl) ?_
            refine va_get (D := (dC, dI)) (ci := 1) (v := .int a0_many) (C := RX1) (T := TX1) (N := 4) hx hb hts hin_X1 hown hK hP 0 rfl rfl 3 (by decide) hw_0 (fun _ h9 => h9) rfl dX1_strangersUpTo_29 ?_
            refine lv_icmp_ge (tgt := 68) hx hb dX1_strangersUpTo_32 (by decide) (fun c_5 => ?_) (fun c_5 => ?_)
            · replace h := h.1 c_5
              refine lv_lload hx hb dX1_strangersUpTo_68 (lv_at hl 1 rfl) ?_
              refine lv_lconst (v := (0 : Int64)) hx hb dX1_strangersUpTo_70 (by decide) ?_
              refine W.lcmp hx hb dX1_strangersUpTo_71 ?_
              refine lv_if_le (tgt := 102) hx hb dX1_strangersUpTo_72 (by decide) (fun c_6 => ?_) (fun c_6 => ?_)
              · replace c_6 := (lg_cmp_le _ _).mp c_6
                replace h := h.1 c_6
                obtain ⟨x6_7, e_x6_7⟩ : ∃ y : Int32, y = l6_13_1 + (1 : Int32) := ⟨_, rfl⟩
                replace h := h x6_7 e_x6_7
                refine lv_iinc (v := x6_7) (lv' := [(6, .int x6_7), (9, .int l9_26_3), (7, .long l7_26_3), (5, .int x5_1), (3, .long l3_13_1), (0, .ref h_a0), (1, .long p1)]) hx hb dX1_strangersUpTo_102 hl (k := 2) rfl (by rw [e_x6_7]; rfl) (by decide) rfl (fun ls hl => ?_)
                refine lv_goto (tgt := 13) hx hb dX1_strangersUpTo_105 (by decide) ?_
                exact ih_13_1 x6_7 l3_13_1 (Nat.lt_of_lt_of_le h.2 (Nat.le_of_lt_succ hm_13_1)) h.1 _ _ _ (lv_sub hl [0, 3, 4, 5, 6] rfl) (hP.sub [0, 1] rfl) (hD.sub [0, 1] (by decide) rfl) hS
              · replace c_6 := lc_nle c_6
                replace h := h.2 c_6
                refine lv_lload_n hx hb dX1_strangersUpTo_75 rfl (lv_at hl 6 rfl) ?_
                refine lv_lload hx hb dX1_strangersUpTo_76 (lv_at hl 1 rfl) ?_
                obtain ⟨hne_8, h⟩ := h
                refine lv_ldiv hx hb dX1_strangersUpTo_78 hne_8 ?_
                refine lv_topl (fun x9_9 e_x9_9 => ?_)
                replace h := h x9_9 e_x9_9
                refine lv_lstore (lv' := [(9, .long x9_9), (7, .long l7_26_3), (6, .int l6_13_1), (5, .int x5_1), (3, .long l3_13_1), (0, .ref h_a0), (1, .long p1)]) hx hb dX1_strangersUpTo_79 hl (by decide) rfl (fun ls hl => ?_)
                refine lv_lload_n hx hb dX1_strangersUpTo_81 rfl (lv_at hl 4 rfl) ?_
                refine lv_iload hx hb dX1_strangersUpTo_82 (lv_at hl 2 rfl) ?_
                have hPc := hP.sub (ws' := []) [] rfl
                have hDc := hD.sub (ws' := []) [] (by decide) rfl
                have hFc := va_free (wc := []) hD hS hA [] rfl
                refine va_calli (va_runS (As := [.int l6_13_1]) (rest := [.long l3_13_1]) ⟨hx, hb, hml, hown, hts⟩ (c_J6_bitCount_0f7a4 l dC dI cI cJ cZ _ l6_13_1 _ h) (va_cwS 1 hts gX1_strangersUpTo_J6_bitCount_0f7a4 rfl rfl rfl (by decide +kernel) ⟨Nat.le_of_ble_eq_true rfl, Nat.le_of_ble_eq_true rfl⟩) ⟨pre_fb, pre_of hPc hDc hK hN⟩ rfl rfl hl.1 rfl (lv_room (Nat.le_of_ble_eq_true rfl)) dX1_strangersUpTo_84 ⟨by first | exact Nat.le_of_ble_eq_true rfl | exact Nat.le_refl _, by first | exact Nat.le_of_ble_eq_true rfl | exact Nat.le_refl _⟩) hS (fun q _ h => hFc q h) hFc (fun r_10 u t H1 locs ht hvm h hB hz1 hk1 hS => ?_)
                obtain ⟨hP1, hD1⟩ := hB
                rw [ht] at hP1
                try dsimp only at h
                obtain ⟨hP, hD⟩ := va_join (wr := [(h_a0, .inr (1, [.ref q_a0_factors, w_a0_powers, .long a0_number, .int a0_many])), (q_a0_factors, .inl (cJ, 10, .inr (.inl a0_factors)))]) (w1 := []) hP hD [] [0, 1] rfl rfl (by decide) (by decide) hk1 hFc hP1 hD1
                generalize H1 = H at hP hS ⊢
                have hP : va_P (dC, dI) vwCl [(h_a0, .inr (1, [.ref q_a0_factors, w_a0_powers, .long a0_number, .int a0_many])), (q_a0_factors, .inl (cJ, 10, .inr (.inl a0_factors)))] H := hP
                have hD : va_D A [(h_a0, .inr (1, [.ref q_a0_factors, w_a0_powers, .long a0_number, .int a0_many])), (q_a0_factors, .inl (cJ, 10, .inr (.inl a0_factors)))] := hD
                refine lv_iconst (v := (2 : Int32)) hx hb dX1_strangersUpTo_87 (by decide) ?_
                refine lv_irem hx hb dX1_strangersUpTo_88 (by decide) ?_
                refine lv_if_ne (tgt := 97) hx hb dX1_strangersUpTo_89 (by decide) (fun c_11 => ?_) (fun c_11 => ?_)
                · replace h := h.2 c_11
                  refine lv_lload hx hb dX1_strangersUpTo_97 (lv_at hl 0 rfl) ?_
                  refine lv_lneg hx hb dX1_strangersUpTo_99 ?_
                  refine lv_ladd hx hb dX1_strangersUpTo_100 ?_
                  refine lv_topl (fun x3_12 e_x3_12 => ?_)
                  replace h := h x3_12 e_x3_12
                  refine lv_lstore_n (lv' := [(3, .long x3_12), (9, .long x9_9), (7, .long l7_26_3), (6, .int l6_13_1), (5, .int x5_1), (0, .ref h_a0), (1, .long p1)]) hx hb dX1_strangersUpTo_101 rfl hl (by decide) rfl (fun ls hl => ?_)
                  obtain ⟨x6_13, e_x6_13⟩ : ∃ y : Int32, y = l6_13_1 + (1 : Int32) := ⟨_, rfl⟩
                  replace h := h x6_13 e_x6_13
                  refine lv_iinc (v := x6_13) (lv' := [(6, .int x6_13), (3, .long x3_12), (9, .long x9_9), (7, .long l7_26_3), (5, .int x5_1), (0, .ref h_a0), (1, .long p1)]) hx hb dX1_strangersUpTo_102 hl (k := 3) rfl (by rw [e_x6_13]; rfl) (by decide) rfl (fun ls hl => ?_)
                  refine lv_goto (tgt := 13) hx hb dX1_strangersUpTo_105 (by decide) ?_
                  exact ih_13_1 x6_13 x3_12 (Nat.lt_of_lt_of_le h.2 (Nat.le_of_lt_succ hm_13_1)) h.1 _ _ _ (lv_sub hl [0, 4, 1, 5, 6] rfl) (hP.sub [0, 1] rfl) (hD.sub [0, 1] (by decide) rfl) hS
                · replace h := h.1 c_11
                  refine lv_lload hx hb dX1_strangersUpTo_92 (lv_at hl 0 rfl) ?_
                  refine lv_goto (tgt := 100) hx hb dX1_strangersUpTo_94 (by decide) ?_
                  refine lv_ladd hx hb dX1_strangersUpTo_100 ?_
                  refine lv_topl (fun x3_14 e_x3_14 => ?_)
                  replace h := h x3_14 e_x3_14
                  refine lv_lstore_n (lv' := [(3, .long x3_14), (9, .long x9_9), (7, .long l7_26_3), (6, .int l6_13_1), (5, .int x5_1), (0, .ref h_a0), (1, .long p1)]) hx hb dX1_strangersUpTo_101 rfl hl (by decide) rfl (fun ls hl => ?_)
                  obtain ⟨x6_15, e_x6_15⟩ : ∃ y : Int32, y = l6_13_1 + (1 : Int32) := ⟨_, rfl⟩
                  replace h := h x6_15 e_x6_15
                  refine lv_iinc (v := x6_15) (lv' := [(6, .int x6_15), (3, .long x3_14), (9, .long x9_9), (7, .long l7_26_3), (5, .int x5_1), (0, .ref h_a0), (1, .long p1)]) hx hb dX1_strangersUpTo_102 hl (k := 3) rfl (by rw [e_x6_15]; rfl) (by decide) rfl (fun ls hl => ?_)
                  refine lv_goto (tgt := 13) hx hb dX1_strangersUpTo_105 (by decide) ?_
                  exact ih_13_1 x6_15 x3_14 (Nat.lt_of_lt_of_le h.2 (Nat.le_of_lt_succ hm_13_1)) h.1 _ _ _ (lv_sub hl [0, 4, 1, 5, 6] rfl) (hP.sub [0, 1] rfl) (hD.sub [0, 1] (by decide) rfl) hS
            · replace h := h.2 c_5
              refine lv_lload hx hb dX1_strangersUpTo_35 (lv_at hl 1 rfl) ?_
              refine lv_iload hx hb dX1_strangersUpTo_37 (lv_at hl 2 rfl) ?_
              refine lv_iload hx hb dX1_strangersUpTo_39 (lv_at hl 0 rfl) ?_
              refine lv_ishr hx hb dX1_strangersUpTo_41 ?_
              refine lv_iconst (v := (1 : Int32)) hx hb dX1_strangersUpTo_42 (by decide) ?_
              refine lv_iand hx hb dX1_strangersUpTo_43 ?_
              refine lv_iconst (v := (1 : Int32)) hx hb dX1_strangersUpTo_44 (by decide) ?_
              refine lv_icmp_ne (tgt := 58) hx hb dX1_strangersUpTo_45 (by decide) (fun c_16 => ?_) (fun c_16 => ?_)
              · replace h := h.2 c_16
                refine lv_lconst (v := (1 : Int64)) hx hb dX1_strangersUpTo_58 (by decide) ?_
                refine lv_lmul hx hb dX1_strangersUpTo_59 ?_
                refine lv_topl (fun x7_17 e_x7_17 => ?_)
                replace h := h x7_17 e_x7_17
                refine lv_lstore (lv' := [(7, .long x7_17), (9, .int l9_26_3), (6, .int l6_13_1), (5, .int x5_1), (3, .long l3_13_1), (0, .ref h_a0), (1, .long p1)]) hx hb dX1_strangersUpTo_60 hl (by decide) rfl (fun ls hl => ?_)
                obtain ⟨x9_18, e_x9_18⟩ : ∃ y : Int32, y = l9_26_3 + (1 : Int32) := ⟨_, rfl⟩
                replace h := h x9_18 e_x9_18
                refine lv_iinc (v := x9_18) (lv' := [(9, .int x9_18), (7, .long x7_17), (6, .int l6_13_1), (5, .int x5_1), (3, .long l3_13_1), (0, .ref h_a0), (1, .long p1)]) hx hb dX1_strangersUpTo_62 hl (k := 1) rfl (by rw [e_x9_18]; rfl) (by decide) rfl (fun ls hl => ?_)
                refine lv_goto (tgt := 26) hx hb dX1_strangersUpTo_65 (by decide) ?_
                exact ih_26_3 x9_18 x7_17 (Nat.lt_of_lt_of_le h.2 (Nat.le_of_lt_succ hm_26_3)) h.1 _ _ _ (lv_sub hl [0, 1, 2, 3, 4, 5, 6] rfl) (hP.sub [0, 1] rfl) (hD.sub [0, 1] (by decide) rfl) hS
              · replace h := h.1 c_16
                refine lv_aload_n hx hb dX1_strangersUpTo_48 rfl (lv_at hl 5 rfl) ?_
                refine va_get (D := (dC, dI)) (ci := 1) (v := .ref q_a0_factors) (C := RX1) (T := TX1) (N := 4) hx hb hts hin_X1 hown hK hP 0 rfl rfl 0 (by decide) hw_2 (fun _ h9 => h9) rfl dX1_strangersUpTo_49 ?_
                refine lv_iload hx hb dX1_strangersUpTo_52 (lv_at hl 0 rfl) ?_
                obtain ⟨hin_19, h⟩ := h
                refine va_lald hx hb hK hP 1 1 rfl rfl hin_19 dX1_strangersUpTo_54 ?_
                refine lv_goto (tgt := 59) hx hb dX1_strangersUpTo_55 (by decide) ?_
                refine lv_lmul hx hb dX1_strangersUpTo_59 ?_
                refine lv_topl (fun x7_20 e_x7_20 => ?_)
                replace h := h x7_20 e_x7_20
                refine lv_lstore (lv' := [(7, .long x7_20), (9, .int l9_26_3), (6, .int l6_13_1), (5, .int x5_1), (3, .long l3_13_1), (0, .ref h_a0), (1, .long p1)]) hx hb dX1_strangersUpTo_60 hl (by decide) rfl (fun ls hl => ?_)
                obtain ⟨x9_21, e_x9_21⟩ : ∃ y : Int32, y = l9_26_3 + (1 : Int32) := ⟨_, rfl⟩
                replace h := h x9_21 e_x9_21
                refine lv_iinc (v := x9_21) (lv' := [(9, .int x9_21), (7, .long x7_20), (6, .int l6_13_1), (5, .int x5_1), (3, .long l3_13_1), (0, .ref h_a0), (1, .long p1)]) hx hb dX1_strangersUpTo_62 hl (k := 1) rfl (by rw [e_x9_21]; rfl) (by decide) rfl (fun ls hl => ?_)
                refine lv_goto (tgt := 26) hx hb dX1_strangersUpTo_65 (by decide) ?_
                exact ih_26_3 x9_21 x7_20 (Nat.lt_of_lt_of_le h.2 (Nat.le_of_lt_succ hm_26_3)) h.1 _ _ _ (lv_sub hl [0, 1, 2, 3, 4, 5, 6] rfl) (hP.sub [0, 1] rfl) (hD.sub [0, 1] (by decide) rfl) hS
        exact key_26_3 _ (0 : Int32) (1 : Int64) (Nat.lt_succ_self _) h0_26_3 _ _ _ (lv_sub hl [0, 1, 2, 3, 4, 5, 6] rfl) (hP.sub [0, 1] rfl) (hD.sub [0, 1] (by decide) rfl) hS
  exact key_13_1 _ (0 : Int32) (0 : Int64) (Nat.lt_succ_self _) h0_13_1 _ _ _ (lv_sub hl [0, 1, 2, 3, 4] rfl) (hP.sub [0, 1] rfl) (hD.sub [0, 1] (by decide) rfl) hS

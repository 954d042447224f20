def wp_X2_init   (Q : (Nat → Int64) → (Nat → Int64) → Prop) : Prop :=
  Q (fun _ => 0) (fun _ => 0)
abbrev rm_X2_init : Room := { frames := 1, cells := 2, slots := 2830, locals := 20 }
abbrev qc_X2_init (dC : Nat → ClassId) (dI : Nat → Nat → Nat) (cI cJ cZ : ClassId) (h_a0 : Nat) (Q : (Nat → Int64) → (Nat → Int64) → Prop) (A : Nat → Prop) : Array Value → State → Outcome → State → Prop := va_Qv (fun (u : Nat × Nat × (Nat → Int64) × (Nat → Int64)) => Q u.2.2.1 u.2.2.2) (post_ dC dI A (fun (u : Nat × Nat × (Nat → Int64) × (Nat → Int64)) => [(h_a0, .inr (2, [.ref u.1, .ref u.2.1])), (u.1, .inl (cJ, 1415, .inr (.inl (u.2.2.1)))), (u.2.1, .inl (cJ, 1415, .inr (.inl (u.2.2.2))))])) A
set_option maxHeartbeats 4000000 in
set_option maxRecDepth 100000 in
theorem c_X2_init (l : Launch) (dC : Nat → ClassId) (dI : Nat → Nat → Nat) (cI cJ cZ : ClassId) (sz : Nat) (h_a0 : Nat)  (Q : (Nat → Int64) → (Nat → Int64) → Prop) (hQ : wp_X2_init  Q) : Met l yX2_init wsX2_init rm_X2_init (pre_ dC dI cI cJ cZ [.ref h_a0] [(h_a0, .inr (2, [.null, .null]))] sz) (qc_X2_init dC dI cI cJ cZ h_a0 Q (va_A [(h_a0, .inr (2, [.null, .null]))] sz)) 2 2830 (va_A [(h_a0, .inr (2, [.null, .null]))] sz) := by
  refine Met.ofW (cc := cX2_init) (maxL := 1) (ret := none) (by decide) rfl ?_
  intro p e s m args below meth c s₁ B hml hv
  obtain ⟨rfl, hsz, hP, hK, hN, hD0⟩ := hv
  have hx := B.exec
  have hb := B.bytes
  have hr := B.returns
  have hts := atoms_spec (ws := wsX2_init) B.pre
  have hown : s.vm.findClass RX2 = some m.cls := findClass_of_methodNamed B.named
  have hin0 : meth.name = "<init>" := (name_of_methodNamed B.named B.method).1
  subst hsz
  have hD := hD0.self (sz := s.heap.size)
  generalize hAe : va_A [(h_a0, .inr (2, [.null, .null]))] s.heap.size = A at hD ⊢
  have hA : ∀ q : Nat, s.heap.size ≤ q → A q := fun q h => by rw [← hAe]; exact Or.inr h
  have hS : va_S A s.heap s.heap [] := va_S.rf
  have hl := lv_entry ([.ref h_a0]) (n := 1) (Nat.le_of_ble_eq_true rfl)
  rw [lg_entry_eq]
  generalize (lg_sl ([.ref h_a0]) ++ List.replicate (1 - (lg_sl ([.ref h_a0])).length) Slot.unset).toArray = ls at hl ⊢
  have hl : lv_has ls 1 [(0, .ref h_a0)] := hl
  have h := hQ
  unfold wp_X2_init at h
  have hw_0 := hts (.methodLink RX2 1 objectInit) (by decide +kernel)
  have hw_1 := hts (.instanceMethod objectInit) (by decide +kernel)
  have hw_2 := hts (.code objectInit ⟨#[0xb1]⟩ 1 none) (by decide +kernel)
  have hw_3 := hts (.arrayClass .long) (by decide +kernel)
  have hw_4 := hts (.fieldLink RX2 9 "NumberSieves$PrimeSums" "low" "[J") (by decide +kernel)
  have hin_X2 : ∀ w ∈ wsX20, w ∈ wsX2_init := by decide +kernel
  have hw_6 := hts (.fieldLink RX2 13 "NumberSieves$PrimeSums" "high" "[J") (by decide +kernel)
  refine lv_aload_n hx hb dX2_init_0 rfl (lv_at hl 0 rfl) ?_
  refine W.objInit hx hb hown hw_0 hw_1 hw_2 rfl (by rw [hml]; exact hl.1) rfl dX2_init_1 (Nat.le_of_ble_eq_true rfl) (Nat.le_of_ble_eq_true rfl) ?_
  refine W.eq (g2 := F0 m 4 ls []) rfl ?_
  refine lv_aload_n hx hb dX2_init_4 rfl (lv_at hl 0 rfl) ?_
  refine lv_sipush (v := (1415 : Int32)) hx hb dX2_init_5 (by decide) ?_
  refine va_newa (atype := .long) (ty := .long) (a0 := (1415, .inr (.inl (fun _ => 0)))) (N' := 1415) hx hb hw_3 rfl hK hP hD hS hA (fun _ => rfl) (by decide) (by decide) (by decide) (by first | exact Nat.le_refl _ | exact Nat.le_of_ble_eq_true rfl) (by first | exact Nat.le_refl _ | exact Nat.le_of_ble_eq_true rfl | exact Nat.le_of_eq (Nat.zero_add _)) dX2_init_8 (fun q_1 cA H hK9 hP hD hS => ?_)
  rw [cls_J hK9] at hP hD
  have hP : va_P (dC, dI) vwCl [(h_a0, .inr (2, [.null, .null])), (q_1, .inl (cJ, 1415, .inr (.inl (fun _ => 0))))] H := hP
  have hD : va_D A [(h_a0, .inr (2, [.null, .null])), (q_1, .inl (cJ, 1415, .inr (.inl (fun _ => 0))))] := hD
  refine W.widen (k := 1) (n := 1415) (by omega) (by omega) ?_
  refine va_putF (D := (dC, dI)) (ci := 2) (v := .ref q_1) (ty := .array .long) (C := RX2) (T := TX2) (N := 2) hx hb hts hin_X2 tyX2 tyX2_ok nmX2 hown hK hP hD hS 0 rfl rfl 0 (by decide) hw_4 (fun _ h9 => h9) rfl hin0 rfl (by decide +kernel) rfl rfl (Nat.le_of_ble_eq_true rfl) dX2_init_10 (fun H locs hP hD hS => ?_)
  have hP : va_P (dC, dI) vwCl [(h_a0, .inr (2, [.ref q_1, .null])), (q_1, .inl (cJ, 1415, .inr (.inl (fun _ => 0))))] H := hP
  have hD : va_D A [(h_a0, .inr (2, [.ref q_1, .null])), (q_1, .inl (cJ, 1415, .inr (.inl (fun _ => 0))))] := hD
  refine lv_aload_n hx hb dX2_init_13 rfl (lv_at hl 0 rfl) ?_
  refine lv_sipush (v := (1415 : Int32)) hx hb dX2_init_14 (by decide) ?_
  refine va_newa (atype := .long) (ty := .long) (a0 := (1415, .inr (.inl (fun _ => 0)))) (N' := 1415) hx hb hw_3 rfl hK hP hD hS hA (fun _ => rfl) (by decide) (by decide) (by decide) (by first | exact Nat.le_refl _ | exact Nat.le_of_ble_eq_true rfl) (by first | exact Nat.le_refl _ | exact Nat.le_of_ble_eq_true rfl | exact Nat.le_of_eq (Nat.zero_add _)) dX2_init_17 (fun q_2 cA H hK9 hP hD hS => ?_)
  rw [cls_J hK9] at hP hD
  have hP : va_P (dC, dI) vwCl [(h_a0, .inr (2, [.ref q_1, .null])), (q_1, .inl (cJ, 1415, .inr (.inl (fun _ => 0)))), (q_2, .inl (cJ, 1415, .inr (.inl (fun _ => 0))))] H := hP
  have hD : va_D A [(h_a0, .inr (2, [.ref q_1, .null])), (q_1, .inl (cJ, 1415, .inr (.inl (fun _ => 0)))), (q_2, .inl (cJ, 1415, .inr (.inl (fun _ => 0))))] := hD
  refine W.widen (k := 2) (n := 2830) (by omega) (by omega) ?_
  refine va_putF (D := (dC, dI)) (ci := 2) (v := .ref q_2) (ty := .array .long) (C := RX2) (T := TX2) (N := 2) hx hb hts hin_X2 tyX2 tyX2_ok nmX2 hown hK hP hD hS 0 rfl rfl 1 (by decide) hw_6 (fun _ h9 => h9) rfl hin0 rfl (by decide +kernel) rfl rfl (Nat.le_of_ble_eq_true rfl) dX2_init_19 (fun H locs hP hD hS => ?_)
  have hP : va_P (dC, dI) vwCl [(h_a0, .inr (2, [.ref q_1, .ref q_2])), (q_1, .inl (cJ, 1415, .inr (.inl (fun _ => 0)))), (q_2, .inl (cJ, 1415, .inr (.inl (fun _ => 0))))] H := hP
  have hD : va_D A [(h_a0, .inr (2, [.ref q_1, .ref q_2])), (q_1, .inl (cJ, 1415, .inr (.inl (fun _ => 0)))), (q_2, .inl (cJ, 1415, .inr (.inl (fun _ => 0))))] := hD
  have hP9 := hP.sub (ws' := [(h_a0, .inr (2, [.ref q_1, .ref q_2])), (q_1, .inl (cJ, 1415, .inr (.inl (fun _ => 0)))), (q_2, .inl (cJ, 1415, .inr (.inl (fun _ => 0))))]) [0, 1, 2] rfl
  have hD9 := hD.sub (ws' := [(h_a0, .inr (2, [.ref q_1, .ref q_2])), (q_1, .inl (cJ, 1415, .inr (.inl (fun _ => 0)))), (q_2, .inl (cJ, 1415, .inr (.inl (fun _ => 0))))]) [0, 1, 2] (by decide) rfl
  exact W.vret hx hb hr (fun t ht hW => ⟨⟨(q_1, q_2, (fun _ => 0), (fun _ => 0)), rfl, h, by rw [ht]; exact hP9, hD9⟩, hS.F ht⟩) hS.2.2 dX2_init_22
def wp_X2_allAboveOne  (p0 : Int64) (p1 : Int32) (Q : Int64 → Prop) : Prop :=
  ((p1 = (0 : Int32) → Q (p0 - (1 : Int64))) ∧ (¬ p1 = (0 : Int32) → Q (((p0 * (p0 + (1 : Int64))) / (2 : Int64)) - (1 : Int64))))
abbrev rm_X2_allAboveOne : Room := { frames := 0, cells := 0, slots := 0, locals := 0 }
abbrev qc_X2_allAboveOne (dC : Nat → ClassId) (dI : Nat → Nat → Nat) (cI cJ cZ : ClassId)  (Q : Int64 → Prop) (A : Nat → Prop) : Array Value → State → Outcome → State → Prop := va_Ql (fun (r : Int64) (_ : Unit) => Q r) (post_ dC dI A (fun (_ : Unit) => ([] : va_W))) A
set_option maxHeartbeats 4000000 in
set_option maxRecDepth 100000 in
theorem c_X2_allAboveOne (l : Launch) (dC : Nat → ClassId) (dI : Nat → Nat → Nat) (cI cJ cZ : ClassId) (sz : Nat)  (p0 : Int64) (p1 : Int32) (Q : Int64 → Prop) (hQ : wp_X2_allAboveOne p0 p1 Q) : Met l yX2_allAboveOne wsX2_allAboveOne rm_X2_allAboveOne (pre_ dC dI cI cJ cZ [.long p0, .int p1] ([] : va_W) sz) (qc_X2_allAboveOne dC dI cI cJ cZ Q (va_A ([] : va_W) sz)) 0 0 (va_A ([] : va_W) sz) := by
  refine Met.ofW (cc := cX2_allAboveOne) (maxL := 3) (ret := (some .long)) (by decide) rfl ?_
  intro p e s m args below meth c s₁ B hml hv
  obtain ⟨rfl, hsz, hP, hK, hN, hD0⟩ := hv
  have hx := B.exec
  have hb := B.bytes
  have hr := B.returns
  have hts := atoms_spec (ws := wsX2_allAboveOne) B.pre
  have hown : s.vm.findClass RX2 = some m.cls := findClass_of_methodNamed B.named
  subst hsz
  have hD := hD0.self (sz := s.heap.size)
  generalize hAe : va_A ([] : va_W) s.heap.size = A at hD ⊢
  have hA : ∀ q : Nat, s.heap.size ≤ q → A q := fun q h => by rw [← hAe]; exact Or.inr h
  have hS : va_S A s.heap s.heap [] := va_S.rf
  have hl := lv_entry ([.long p0, .int p1]) (n := 3) (Nat.le_of_ble_eq_true rfl)
  rw [lg_entry_eq]
  generalize (lg_sl ([.long p0, .int p1]) ++ List.replicate (3 - (lg_sl ([.long p0, .int p1])).length) Slot.unset).toArray = ls at hl ⊢
  have hl : lv_has ls 3 [(0, .long p0), (2, .int p1)] := hl
  have h := hQ
  unfold wp_X2_allAboveOne at h
  have hw_0 := hts (.constantLong RX2 38 (2)) (by decide +kernel)
  refine lv_iload_n hx hb dX2_allAboveOne_0 rfl (lv_at hl 1 rfl) ?_
  refine lv_if_eq (tgt := 18) hx hb dX2_allAboveOne_1 (by decide) (fun c_1 => ?_) (fun c_1 => ?_)
  · replace h := h.1 c_1
    refine lv_lload_n hx hb dX2_allAboveOne_18 rfl (lv_at hl 0 rfl) ?_
    refine lv_lconst (v := (1 : Int64)) hx hb dX2_allAboveOne_19 (by decide) ?_
    refine lv_lsub hx hb dX2_allAboveOne_20 ?_
    have hP9 := hP.sub (ws' := []) [] rfl
    have hD9 := hD.sub (ws' := []) [] (by decide) rfl
    exact W.lret (v := (p0 - (1 : Int64))) hx hb hr (fun t ht hW => ⟨⟨_, (), rfl, h, by rw [ht]; exact hP9, hD9⟩, hS.F ht⟩) hS.2.2 dX2_allAboveOne_21
  · replace h := h.2 c_1
    refine lv_lload_n hx hb dX2_allAboveOne_4 rfl (lv_at hl 0 rfl) ?_
    refine lv_lload_n hx hb dX2_allAboveOne_5 rfl (lv_at hl 0 rfl) ?_
    refine lv_lconst (v := (1 : Int64)) hx hb dX2_allAboveOne_6 (by decide) ?_
    refine lv_ladd hx hb dX2_allAboveOne_7 ?_
    refine lv_lmul hx hb dX2_allAboveOne_8 ?_
    refine lv_ldc2 hx hb hown hw_0 dX2_allAboveOne_9 ?_
    refine lv_ldiv hx hb dX2_allAboveOne_12 (by decide) ?_
    refine lv_lconst (v := (1 : Int64)) hx hb dX2_allAboveOne_13 (by decide) ?_
    refine lv_lsub hx hb dX2_allAboveOne_14 ?_
    refine lv_goto (tgt := 21) hx hb dX2_allAboveOne_15 (by decide) ?_
    have hP9 := hP.sub (ws' := []) [] rfl
    have hD9 := hD.sub (ws' := []) [] (by decide) rfl
    exact W.lret (v := (((p0 * (p0 + (1 : Int64))) / (2 : Int64)) - (1 : Int64))) hx hb hr (fun t ht hW => ⟨⟨_, (), rfl, h, by rw [ht]; exact hP9, hD9⟩, hS.F ht⟩) hS.2.2 dX2_allAboveOne_21
def wp_X2_totalUnder (a0_low : Nat → Int64) (a0_high : Nat → Int64) (p1 : Int32) (p2 : Int32) (p3 : Int32) (Q : Int64 → Prop) : Prop :=
  (((1 : Int32) ≤ p3 → ((p2 < p3 → (¬ p3 = 0 ∧ (∀ x4_4 : Int32, x4_4 = (p1 / p3) → ((x4_4 < (0 : Int32) → Q (0 : Int64)) ∧ (¬ x4_4 < (0 : Int32) → ((p2 < x4_4 → Q (0 : Int64)) ∧ (¬ p2 < x4_4 → (vp_in x4_4 1415 ∧ Q (a0_low x4_4.toNatClampNeg))))))))) ∧ (¬ p2 < p3 → (vp_in p3 1415 ∧ Q (a0_high p3.toNatClampNeg))))) ∧ (¬ (1 : Int32) ≤ p3 → Q (0 : Int64)))
abbrev rm_X2_totalUnder : Room := { frames := 0, cells := 0, slots := 0, locals := 0 }
abbrev qc_X2_totalUnder (dC : Nat → ClassId) (dI : Nat → Nat → Nat) (cI cJ cZ : ClassId) (h_a0 : Nat) (a0_low : Nat → Int64) (q_a0_low : Nat) (a0_high : Nat → Int64) (q_a0_high : Nat) (Q : Int64 → Prop) (A : Nat → Prop) : Array Value → State → Outcome → State → Prop := va_Ql (fun (r : Int64) (_ : Unit) => Q r) (post_ dC dI A (fun (u : Unit) => [(h_a0, .inr (2, [.ref q_a0_low, .ref q_a0_high])), (q_a0_low, .inl (cJ, 1415, .inr (.inl a0_low))), (q_a0_high, .inl (cJ, 1415, .inr (.inl a0_high)))])) A
set_option maxHeartbeats 4000000 in
set_option maxRecDepth 100000 in
theorem c_X2_totalUnder (l : Launch) (dC : Nat → ClassId) (dI : Nat → Nat → Nat) (cI cJ cZ : ClassId) (sz : Nat) (h_a0 : Nat) (a0_low : Nat → Int64) (q_a0_low : Nat) (a0_high : Nat → Int64) (q_a0_high : Nat) (p1 : Int32) (p2 : Int32) (p3 : Int32) (Q : Int64 → Prop) (hQ : wp_X2_totalUnder a0_low a0_high p1 p2 p3 Q) : Met l yX2_totalUnder wsX2_totalUnder rm_X2_totalUnder (pre_ dC dI cI cJ cZ [.ref h_a0, .int p1, .int p2, .int p3] [(h_a0, .inr (2, [.ref q_a0_low, .ref q_a0_high])), (q_a0_low, .inl (cJ, 1415, .inr (.inl a0_low))), (q_a0_high, .inl (cJ, 1415, .inr (.inl a0_high)))] sz) (qc_X2_totalUnder dC dI cI cJ cZ h_a0 a0_low q_a0_low a0_high q_a0_high Q (va_A [(h_a0, .inr (2, [.ref q_a0_low, .ref q_a0_high])), (q_a0_low, .inl (cJ, 1415, .inr (.inl a0_low))), (q_a0_high, .inl (cJ, 1415, .inr (.inl a0_high)))] sz)) 0 0 (va_A [(h_a0, .inr (2, [.ref q_a0_low, .ref q_a0_high])), (q_a0_low, .inl (cJ, 1415, .inr (.inl a0_low))), (q_a0_high, .inl (cJ, 1415, .inr (.inl a0_high)))] sz) := by
  refine Met.ofW (cc := cX2_totalUnder) (maxL := 5) (ret := (some .long)) (by decide) rfl ?_
  intro p e s m args below meth c s₁ B hml hv
  obtain ⟨rfl, hsz, hP, hK, hN, hD0⟩ := hv
  have hx := B.exec
  have hb := B.bytes
  have hr := B.returns
  have hts := atoms_spec (ws := wsX2_totalUnder) B.pre
  have hown : s.vm.findClass RX2 = some m.cls := findClass_of_methodNamed B.named
  subst hsz
  have hD := hD0.self (sz := s.heap.size)
  generalize hAe : va_A [(h_a0, .inr (2, [.ref q_a0_low, .ref q_a0_high])), (q_a0_low, .inl (cJ, 1415, .inr (.inl a0_low))), (q_a0_high, .inl (cJ, 1415, .inr (.inl a0_high)))] s.heap.size = A at hD ⊢
  have hA : ∀ q : Nat, s.heap.size ≤ q → A q := fun q h => by rw [← hAe]; exact Or.inr h
  have hS : va_S A s.heap s.heap [] := va_S.rf
  have hl := lv_entry ([.ref h_a0, .int p1, .int p2, .int p3]) (n := 5) (Nat.le_of_ble_eq_true rfl)
  rw [lg_entry_eq]
  generalize (lg_sl ([.ref h_a0, .int p1, .int p2, .int p3]) ++ List.replicate (5 - (lg_sl ([.ref h_a0, .int p1, .int p2, .int p3])).length) Slot.unset).toArray = ls at hl ⊢
  have hl : lv_has ls 5 [(0, .ref h_a0), (1, .int p1), (2, .int p2), (3, .int p3)] := hl
  have h := hQ
  unfold wp_X2_totalUnder at h
  have hw_0 := hts (.fieldLink RX2 9 "NumberSieves$PrimeSums" "low" "[J") (by decide +kernel)
  have hin_X2 : ∀ w ∈ wsX20, w ∈ wsX2_totalUnder := by decide +kernel
  have hw_2 := hts (.fieldLink RX2 13 "NumberSieves$PrimeSums" "high" "[J") (by decide +kernel)
  refine lv_iload_n hx hb dX2_totalUnder_0 rfl (lv_at hl 3 rfl) ?_
  refine lv_iconst (v := (1 : Int32)) hx hb dX2_totalUnder_1 (by decide) ?_
  refine lv_icmp_ge (tgt := 7) hx hb dX2_totalUnder_2 (by decide) (fun c_1 => ?_) (fun c_1 => ?_)
  · replace h := h.1 c_1
    refine lv_iload_n hx hb dX2_totalUnder_7 rfl (lv_at hl 3 rfl) ?_
    refine lv_iload_n hx hb dX2_totalUnder_8 rfl (lv_at hl 2 rfl) ?_
    refine lv_icmp_gt (tgt := 19) hx hb dX2_totalUnder_9 (by decide) (fun c_2 => ?_) (fun c_2 => ?_)
    · replace h := h.1 c_2
      refine lv_iload_n hx hb dX2_totalUnder_19 rfl (lv_at hl 1 rfl) ?_
      refine lv_iload_n hx hb dX2_totalUnder_20 rfl (lv_at hl 3 rfl) ?_
      obtain ⟨hne_3, h⟩ := h
      refine lv_idiv hx hb dX2_totalUnder_21 hne_3 ?_
      refine lv_topi (fun x4_4 e_x4_4 => ?_)
      replace h := h x4_4 e_x4_4
      refine lv_istore (lv' := [(4, .int x4_4), (0, .ref h_a0), (1, .int p1), (2, .int p2), (3, .int p3)]) hx hb dX2_totalUnder_22 hl (by decide) rfl (fun ls hl => ?_)
      refine lv_iload hx hb dX2_totalUnder_24 (lv_at hl 0 rfl) ?_
      refine lv_if_lt (tgt := 45) hx hb dX2_totalUnder_26 (by decide) (fun c_5 => ?_) (fun c_5 => ?_)
      · replace h := h.1 c_5
        refine lv_lconst (v := (0 : Int64)) hx hb dX2_totalUnder_45 (by decide) ?_
        have hP9 := hP.sub (ws' := [(h_a0, .inr (2, [.ref q_a0_low, .ref q_a0_high])), (q_a0_low, .inl (cJ, 1415, .inr (.inl a0_low))), (q_a0_high, .inl (cJ, 1415, .inr (.inl a0_high)))]) [0, 1, 2] rfl
        have hD9 := hD.sub (ws' := [(h_a0, .inr (2, [.ref q_a0_low, .ref q_a0_high])), (q_a0_low, .inl (cJ, 1415, .inr (.inl a0_low))), (q_a0_high, .inl (cJ, 1415, .inr (.inl a0_high)))]) [0, 1, 2] (by decide) rfl
        exact W.lret (v := (0 : Int64)) hx hb hr (fun t ht hW => ⟨⟨_, (), rfl, h, by rw [ht]; exact hP9, hD9⟩, hS.F ht⟩) hS.2.2 dX2_totalUnder_46
      · replace h := h.2 c_5
        refine lv_iload hx hb dX2_totalUnder_29 (lv_at hl 0 rfl) ?_
        refine lv_iload_n hx hb dX2_totalUnder_31 rfl (lv_at hl 3 rfl) ?_
        refine lv_icmp_gt (tgt := 45) hx hb dX2_totalUnder_32 (by decide) (fun c_6 => ?_) (fun c_6 => ?_)
        · replace h := h.1 c_6
          refine lv_lconst (v := (0 : Int64)) hx hb dX2_totalUnder_45 (by decide) ?_
          have hP9 := hP.sub (ws' := [(h_a0, .inr (2, [.ref q_a0_low, .ref q_a0_high])), (q_a0_low, .inl (cJ, 1415, .inr (.inl a0_low))), (q_a0_high, .inl (cJ, 1415, .inr (.inl a0_high)))]) [0, 1, 2] rfl
          have hD9 := hD.sub (ws' := [(h_a0, .inr (2, [.ref q_a0_low, .ref q_a0_high])), (q_a0_low, .inl (cJ, 1415, .inr (.inl a0_low))), (q_a0_high, .inl (cJ, 1415, .inr (.inl a0_high)))]) [0, 1, 2] (by decide) rfl
          exact W.lret (v := (0 : Int64)) hx hb hr (fun t ht hW => ⟨⟨_, (), rfl, h, by rw [ht]; exact hP9, hD9⟩, hS.F ht⟩) hS.2.2 dX2_totalUnder_46
        · replace h := h.2 c_6
          refine lv_aload_n hx hb dX2_totalUnder_35 rfl (lv_at hl 1 rfl) ?_
          refine va_get (D := (dC, dI)) (ci := 2) (v := .ref q_a0_low) (C := RX2) (T := TX2) (N := 2) hx hb hts hin_X2 hown hK hP 0 rfl rfl 0 (by decide) hw_0 (fun _ h9 => h9) rfl dX2_totalUnder_36 ?_
          refine lv_iload hx hb dX2_totalUnder_39 (lv_at hl 0 rfl) ?_
          obtain ⟨hin_7, h⟩ := h
          refine va_lald hx hb hK hP 1 1 rfl rfl hin_7 dX2_totalUnder_41 ?_
          refine lv_goto (tgt := 46) hx hb dX2_totalUnder_42 (by decide) ?_
          have hP9 := hP.sub (ws' := [(h_a0, .inr (2, [.ref q_a0_low, .ref q_a0_high])), (q_a0_low, .inl (cJ, 1415, .inr (.inl a0_low))), (q_a0_high, .inl (cJ, 1415, .inr (.inl a0_high)))]) [0, 1, 2] rfl
          have hD9 := hD.sub (ws' := [(h_a0, .inr (2, [.ref q_a0_low, .ref q_a0_high])), (q_a0_low, .inl (cJ, 1415, .inr (.inl a0_low))), (q_a0_high, .inl (cJ, 1415, .inr (.inl a0_high)))]) [0, 1, 2] (by decide) rfl
          exact W.lret (v := (a0_low x4_4.toNatClampNeg)) hx hb hr (fun t ht hW => ⟨⟨_, (), rfl, h, by rw [ht]; exact hP9, hD9⟩, hS.F ht⟩) hS.2.2 dX2_totalUnder_46
    · replace h := h.2 c_2
      refine lv_aload_n hx hb dX2_totalUnder_12 rfl (lv_at hl 0 rfl) ?_
      refine va_get (D := (dC, dI)) (ci := 2) (v := .ref q_a0_high) (C := RX2) (T := TX2) (N := 2) hx hb hts hin_X2 hown hK hP 0 rfl rfl 1 (by decide) hw_2 (fun _ h9 => h9) rfl dX2_totalUnder_13 ?_
      refine lv_iload_n hx hb dX2_totalUnder_16 rfl (lv_at hl 3 rfl) ?_
      obtain ⟨hin_8, h⟩ := h
      refine va_lald hx hb hK hP 2 1 rfl rfl hin_8 dX2_totalUnder_17 ?_
      have hP9 := hP.sub (ws' := [(h_a0, .inr (2, [.ref q_a0_low, .ref q_a0_high])), (q_a0_low, .inl (cJ, 1415, .inr (.inl a0_low))), (q_a0_high, .inl (cJ, 1415, .inr (.inl a0_high)))]) [0, 1, 2] rfl
      have hD9 := hD.sub (ws' := [(h_a0, .inr (2, [.ref q_a0_low, .ref q_a0_high])), (q_a0_low, .inl (cJ, 1415, .inr (.inl a0_low))), (q_a0_high, .inl (cJ, 1415, .inr (.inl a0_high)))]) [0, 1, 2] (by decide) rfl
      exact W.lret (v := (a0_high p3.toNatClampNeg)) hx hb hr (fun t ht hW => ⟨⟨_, (), rfl, h, by rw [ht]; exact hP9, hD9⟩, hS.F ht⟩) hS.2.2 dX2_totalUnder_18
  · replace h := h.2 c_1
    refine lv_lconst (v := (0 : Int64)) hx hb dX2_totalUnder_5 (by decide) ?_
    have hP9 := hP.sub (ws' := [(h_a0, .inr (2, [.ref q_a0_low, .ref q_a0_high])), (q_a0_low, .inl (cJ, 1415, .inr (.inl a0_low))), (q_a0_high, .inl (cJ, 1415, .inr (.inl a0_high)))]) [0, 1, 2] rfl
    have hD9 := hD.sub (ws' := [(h_a0, .inr (2, [.ref q_a0_low, .ref q_a0_high])), (q_a0_low, .inl (cJ, 1415, .inr (.inl a0_low))), (q_a0_high, .inl (cJ, 1415, .inr (.inl a0_high)))]) [0, 1, 2] (by decide) rfl
    exact W.lret (v := (0 : Int64)) hx hb hr (fun t ht hW => ⟨⟨_, (), rfl, h, by rw [ht]; exact hP9, hD9⟩, hS.F ht⟩) hS.2.2 dX2_totalUnder_6
def wp_X2_takeOff (a0_low : Nat → Int64) (a0_high : Nat → Int64) (p1 : Int32) (p2 : Int32) (p3 : Int32) (p4 : Int64) (Q : (Nat → Int64) → (Nat → Int64) → Prop) : Prop :=
  ((p3 < (2 : Int32) → Q a0_low a0_high) ∧ (¬ p3 < (2 : Int32) → ((p2 < p3 → Q a0_low a0_high) ∧ (¬ p2 < p3 → ((p2 ≤ (1414 : Int32) → (vp_in (p3 - (1 : Int32)) 1415 ∧ (∀ x6_5 : Int64, x6_5 = (a0_low (p3 - (1 : Int32)).toNatClampNeg) → (∀ x8_6 : Int32, x8_6 = (p3 * p3) → (¬ x8_6 = 0 ∧ (∀ x9_8 : Int32, x9_8 = (if (p1 / x8_6) < p2 then (p1 / x8_6) else p2) → (∃ (I_46_8 : Int32 → (Nat → Int64) → Prop) (m_46_8 : Int32 → (Nat → Int64) → Nat), I_46_8 (1 : Int32) a0_high ∧ ∀ (l10_46_8 : Int32) (a0_high_46_8 : Nat → Int64), I_46_8 l10_46_8 a0_high_46_8 → ((x9_8 < l10_46_8 → (∃ (I_88_10 : Int32 → (Nat → Int64) → Prop) (m_88_10 : Int32 → (Nat → Int64) → Nat), I_88_10 p2 a0_low ∧ ∀ (l10_88_10 : Int32) (a0_low_88_10 : Nat → Int64), I_88_10 l10_88_10 a0_low_88_10 → ((l10_88_10 < x8_6 → Q a0_low_88_10 a0_high_46_8) ∧ (¬ l10_88_10 < x8_6 → (vp_in l10_88_10 1415 ∧ (¬ p3 = 0 ∧ (vp_in (l10_88_10 / p3) 1415 ∧ (∀ y_16 : Int64, y_16 = ((a0_low_88_10 l10_88_10.toNatClampNeg) - (((a0_low_88_10 (l10_88_10 / p3).toNatClampNeg) - x6_5) * p4)) → (vp_in l10_88_10 1415 ∧ (∀ x10_18 : Int32, x10_18 = l10_88_10 + (-1 : Int32) → (I_88_10 x10_18 (vp_updL a0_low_88_10 l10_88_10.toNatClampNeg y_16) ∧ m_88_10 x10_18 (vp_updL a0_low_88_10 l10_88_10.toNatClampNeg y_16) < m_88_10 l10_88_10 a0_low_88_10))))))))))) ∧ (¬ x9_8 < l10_46_8 → (vp_in l10_46_8 1415 ∧ wp_X2_totalUnder a0_low a0_high_46_8 p1 p2 (l10_46_8 * p3) (fun r_20 => (∀ y_21 : Int64, y_21 = ((a0_high_46_8 l10_46_8.toNatClampNeg) - ((r_20 - x6_5) * p4)) → (vp_in l10_46_8 1415 ∧ (∀ x10_23 : Int32, x10_23 = l10_46_8 + (1 : Int32) → (I_46_8 x10_23 (vp_updL a0_high_46_8 l10_46_8.toNatClampNeg y_21) ∧ m_46_8 x10_23 (vp_updL a0_high_46_8 l10_46_8.toNatClampNeg y_21) < m_46_8 l10_46_8 a0_high_46_8))))))))))))))) ∧ (¬ p2 ≤ (1414 : Int32) → Q a0_low a0_high))))))
abbrev rm_X2_takeOff : Room := { frames := 1, cells := 0, slots := 0, locals := 24 }
abbrev qc_X2_takeOff (dC : Nat → ClassId) (dI : Nat → Nat → Nat) (cI cJ cZ : ClassId) (h_a0 : Nat) (a0_low : Nat → Int64) (q_a0_low : Nat) (a0_high : Nat → Int64) (q_a0_high : Nat) (Q : (Nat → Int64) → (Nat → Int64) → Prop) (A : Nat → Prop) : Array Value → State → Outcome → State → Prop := va_Qv (fun (u : (Nat → Int64) × (Nat → Int64)) => Q u.1 u.2) (post_ dC dI A (fun (u : (Nat → Int64) × (Nat → Int64)) => [(h_a0, .inr (2, [.ref q_a0_low, .ref q_a0_high])), (q_a0_low, .inl (cJ, 1415, .inr (.inl (u.1)))), (q_a0_high, .inl (cJ, 1415, .inr (.inl (u.2))))])) A
set_option maxHeartbeats 4000000 in
set_option maxRecDepth 100000 in
theorem c_X2_takeOff (l : Launch) (dC : Nat → ClassId) (dI : Nat → Nat → Nat) (cI cJ cZ : ClassId) (sz : Nat) (h_a0 : Nat) (a0_low : Nat → Int64) (q_a0_low : Nat) (a0_high : Nat → Int64) (q_a0_high : Nat) (p1 : Int32) (p2 : Int32) (p3 : Int32) (p4 : Int64) (Q : (Nat → Int64) → (Nat → Int64) → Prop) (hQ : wp_X2_takeOff a0_low a0_high p1 p2 p3 p4 Q) : Met l yX2_takeOff wsX2_takeOff rm_X2_takeOff (pre_ dC dI cI cJ cZ [.ref h_a0, .int p1, .int p2, .int p3, .long p4] [(h_a0, .inr (2, [.ref q_a0_low, .ref q_a0_high])), (q_a0_low, .inl (cJ, 1415, .inr (.inl a0_low))), (q_a0_high, .inl (cJ, 1415, .inr (.inl a0_high)))] sz) (qc_X2_takeOff dC dI cI cJ cZ h_a0 a0_low q_a0_low a0_high q_a0_high Q (va_A [(h_a0, .inr (2, [.ref q_a0_low, .ref q_a0_high])), (q_a0_low, .inl (cJ, 1415, .inr (.inl a0_low))), (q_a0_high, .inl (cJ, 1415, .inr (.inl a0_high)))] sz)) 0 0 (va_A [(h_a0, .inr (2, [.ref q_a0_low, .ref q_a0_high])), (q_a0_low, .inl (cJ, 1415, .inr (.inl a0_low))), (q_a0_high, .inl (cJ, 1415, .inr (.inl a0_high)))] sz) := by
  refine Met.ofW (cc := cX2_takeOff) (maxL := 11) (ret := none) (by decide) rfl ?_
  intro p e s m args below meth c s₁ B hml hv
  obtain ⟨rfl, hsz, hP, hK, hN, hD0⟩ := hv
  have hx := B.exec
  have hb := B.bytes
  have hr := B.returns
  have hts := atoms_spec (ws := wsX2_takeOff) B.pre
  have hown : s.vm.findClass RX2 = some m.cls := findClass_of_methodNamed B.named
  subst hsz
  have hD := hD0.self (sz := s.heap.size)
  generalize hAe : va_A [(h_a0, .inr (2, [.ref q_a0_low, .ref q_a0_high])), (q_a0_low, .inl (cJ, 1415, .inr (.inl a0_low))), (q_a0_high, .inl (cJ, 1415, .inr (.inl a0_high)))] s.heap.size = A at hD ⊢
  have hA : ∀ q : Nat, s.heap.size ≤ q → A q := fun q h => by rw [← hAe]; exact Or.inr h
  have hS : va_S A s.heap s.heap [] := va_S.rf
  have hl := lv_entry ([.ref h_a0, .int p1, .int p2, .int p3, .long p4]) (n := 11) (Nat.le_of_ble_eq_true rfl)
  rw [lg_entry_eq]
  generalize (lg_sl ([.ref h_a0, .int p1, .int p2, .int p3, .long p4]) ++ List.replicate (11 - (lg_sl ([.ref h_a0, .int p1, .int p2, .int p3, .long p4])).length) Slot.unset).toArray = ls at hl ⊢
  have hl : lv_has ls 11 [(0, .ref h_a0), (1, .int p1), (2, .int p2), (3, .int p3), (4, .long p4)] := hl
  have h := hQ
  unfold wp_X2_takeOff at h
  have hw_0 := hts (.fieldLink RX2 9 "NumberSieves$PrimeSums" "low" "[J") (by decide +kernel)
  have hin_X2 : ∀ w ∈ wsX20, w ∈ wsX2_takeOff := by decide +kernel
  have hw_2 := hts (.methodLink RX2 40 Lib.Math.min.name) (by decide +kernel)
  have hw_3 := hts (.static Lib.Math.min.name) (by decide +kernel)
  have hw_4 := hts (.initialized "java/lang/Math") (by decide +kernel)
  have hw_5 := hts (.code Lib.Math.min.name Lib.Math.min.code 2 (some .int)) (by decide +kernel)
  have hw_6 := hts (.fieldLink RX2 13 "NumberSieves$PrimeSums" "high" "[J") (by decide +kernel)
  refine lv_iload_n hx hb dX2_takeOff_0 rfl (lv_at hl 3 rfl) ?_
  refine lv_iconst (v := (2 : Int32)) hx hb dX2_takeOff_1 (by decide) ?_
  refine lv_icmp_lt (tgt := 17) hx hb dX2_takeOff_2 (by decide) (fun c_1 => ?_) (fun c_1 => ?_)
  · replace h := h.1 c_1
    have hP9 := hP.sub (ws' := [(h_a0, .inr (2, [.ref q_a0_low, .ref q_a0_high])), (q_a0_low, .inl (cJ, 1415, .inr (.inl a0_low))), (q_a0_high, .inl (cJ, 1415, .inr (.inl a0_high)))]) [0, 1, 2] rfl
    have hD9 := hD.sub (ws' := [(h_a0, .inr (2, [.ref q_a0_low, .ref q_a0_high])), (q_a0_low, .inl (cJ, 1415, .inr (.inl a0_low))), (q_a0_high, .inl (cJ, 1415, .inr (.inl a0_high)))]) [0, 1, 2] (by decide) rfl
    exact W.vret hx hb hr (fun t ht hW => ⟨⟨(a0_low, a0_high), rfl, h, by rw [ht]; exact hP9, hD9⟩, hS.F ht⟩) hS.2.2 dX2_takeOff_17
  · replace h := h.2 c_1
    refine lv_iload_n hx hb dX2_takeOff_5 rfl (lv_at hl 3 rfl) ?_
    refine lv_iload_n hx hb dX2_takeOff_6 rfl (lv_at hl 2 rfl) ?_
    refine lv_icmp_gt (tgt := 17) hx hb dX2_takeOff_7 (by decide) (fun c_2 => ?_) (fun c_2 => ?_)
    · replace h := h.1 c_2
      have hP9 := hP.sub (ws' := [(h_a0, .inr (2, [.ref q_a0_low, .ref q_a0_high])), (q_a0_low, .inl (cJ, 1415, .inr (.inl a0_low))), (q_a0_high, .inl (cJ, 1415, .inr (.inl a0_high)))]) [0, 1, 2] rfl
      have hD9 := hD.sub (ws' := [(h_a0, .inr (2, [.ref q_a0_low, .ref q_a0_high])), (q_a0_low, .inl (cJ, 1415, .inr (.inl a0_low))), (q_a0_high, .inl (cJ, 1415, .inr (.inl a0_high)))]) [0, 1, 2] (by decide) rfl
      exact W.vret hx hb hr (fun t ht hW => ⟨⟨(a0_low, a0_high), rfl, h, by rw [ht]; exact hP9, hD9⟩, hS.F ht⟩) hS.2.2 dX2_takeOff_17
    · replace h := h.2 c_2
      refine lv_iload_n hx hb dX2_takeOff_10 rfl (lv_at hl 2 rfl) ?_
      refine lv_sipush (v := (1414 : Int32)) hx hb dX2_takeOff_11 (by decide) ?_
      refine lv_icmp_le (tgt := 18) hx hb dX2_takeOff_14 (by decide) (fun c_3 => ?_) (fun c_3 => ?_)
      · replace h := h.1 c_3
        refine lv_aload_n hx hb dX2_takeOff_18 rfl (lv_at hl 0 rfl) ?_
        refine va_get (D := (dC, dI)) (ci := 2) (v := .ref q_a0_low) (C := RX2) (T := TX2) (N := 2) hx hb hts hin_X2 hown hK hP 0 rfl rfl 0 (by decide) hw_0 (fun _ h9 => h9) rfl dX2_takeOff_19 ?_
        refine lv_iload_n hx hb dX2_takeOff_22 rfl (lv_at hl 3 rfl) ?_
        refine lv_iconst (v := (1 : Int32)) hx hb dX2_takeOff_23 (by decide) ?_
        refine lv_isub hx hb dX2_takeOff_24 ?_
        obtain ⟨hin_4, h⟩ := h
        refine va_lald hx hb hK hP 1 1 rfl rfl hin_4 dX2_takeOff_25 ?_
        refine lv_topl (fun x6_5 e_x6_5 => ?_)
        replace h := h x6_5 e_x6_5
        refine lv_lstore (lv' := [(6, .long x6_5), (0, .ref h_a0), (1, .int p1), (2, .int p2), (3, .int p3), (4, .long p4)]) hx hb dX2_takeOff_26 hl (by decide) rfl (fun ls hl => ?_)
        refine lv_iload_n hx hb dX2_takeOff_28 rfl (lv_at hl 4 rfl) ?_
        refine lv_iload_n hx hb dX2_takeOff_29 rfl (lv_at hl 4 rfl) ?_
        refine lv_imul hx hb dX2_takeOff_30 ?_
        refine lv_topi (fun x8_6 e_x8_6 => ?_)
        replace h := h x8_6 e_x8_6
        refine lv_istore (lv' := [(8, .int x8_6), (6, .long x6_5), (0, .ref h_a0), (1, .int p1), (2, .int p2), (3, .int p3), (4, .long p4)]) hx hb dX2_takeOff_31 hl (by decide) rfl (fun ls hl => ?_)
        refine lv_iload_n hx hb dX2_takeOff_33 rfl (lv_at hl 4 rfl) ?_
        refine lv_iload_n hx hb dX2_takeOff_34 rfl (lv_at hl 3 rfl) ?_
        refine lv_iload hx hb dX2_takeOff_35 (lv_at hl 0 rfl) ?_
        obtain ⟨hne_7, h⟩ := h
        refine lv_idiv hx hb dX2_takeOff_37 hne_7 ?_
        refine va_mmin hx hb (by rw [hml]; exact hl.1.symm) hown hw_2 hw_3 hw_4 hw_5 (Nat.le_of_ble_eq_true rfl) (Nat.le_of_ble_eq_true rfl) (Nat.le_of_ble_eq_true rfl) (Nat.le_of_ble_eq_true rfl) dX2_takeOff_38 ?_
        refine lv_topi (fun x9_8 e_x9_8 => ?_)
        replace h := h x9_8 e_x9_8
        refine lv_istore (lv' := [(9, .int x9_8), (8, .int x8_6), (6, .long x6_5), (0, .ref h_a0), (1, .int p1), (2, .int p2), (3, .int p3), (4, .long p4)]) hx hb dX2_takeOff_41 hl (by decide) rfl (fun ls hl => ?_)
        refine lv_iconst (v := (1 : Int32)) hx hb dX2_takeOff_43 (by decide) ?_
        refine lv_istore (lv' := [(10, .int (1 : Int32)), (9, .int x9_8), (8, .int x8_6), (6, .long x6_5), (0, .ref h_a0), (1, .int p1), (2, .int p2), (3, .int p3), (4, .long p4)]) hx hb dX2_takeOff_44 hl (by decide) rfl (fun ls hl => ?_)
        obtain ⟨I_46_8, m_46_8, h0_46_8, hs_46_8⟩ := h
        have key_46_8 : ∀ (n : Nat) (l10_46_8 : Int32) (a0_high_46_8 : Nat → Int64), m_46_8 l10_46_8 a0_high_46_8 < n → I_46_8 l10_46_8 a0_high_46_8 → ∀ (ls : Array Slot) (H : Heap) (locs : List Loc), lv_has ls 11 [(10, .int l10_46_8), (9, .int x9_8), (8, .int x8_6), (6, .long x6_5), (0, .ref h_a0), (1, .int p1), (2, .int p2), (3, .int p3), (4, .long p4)] → va_P (dC, dI) vwCl [(h_a0, .inr (2, [.ref q_a0_low, .ref q_a0_high])), (q_a0_low, .inl (cJ, 1415, .inr (.inl a0_low))), (q_a0_high, .inl (cJ, 1415, .inr (.inl a0_high_46_8)))] H → va_D A [(h_a0, .inr (2, [.ref q_a0_low, .ref q_a0_high])), (q_a0_low, .inl (cJ, 1415, .inr (.inl a0_low))), (q_a0_high, .inl (cJ, 1415, .inr (.inl a0_high_46_8)))] → va_S A s.heap H locs → W p l e (headSpec wsX2_takeOff rm_X2_takeOff).room s m ([.ref h_a0, .int p1, .int p2, .int p3, .long p4] : List Value).toArray below meth c H locs 0 0 (MQ below (qc_X2_takeOff dC dI cI cJ cZ h_a0 a0_low q_a0_low a0_high q_a0_high Q A) ([.ref h_a0, .int p1, .int p2, .int p3, .long p4] : List Value).toArray s 0 0 A) (F0 m 46 ls []) := by
          intro n
          induction n with
          | zero =>
            intro l10_46_8 a0_high_46_8 hm
            exact absurd hm (Nat.not_lt_zero _)
          | succ n ih_46_8 =>
            intro l10_46_8 a0_high_46_8 hm_46_8 hI ls H locs hl hP hD hS
            have h := hs_46_8 l10_46_8 a0_high_46_8 hI
            refine lv_iload hx hb dX2_takeOff_46 (lv_at hl 0 rfl) ?_
            refine lv_iload hx hb dX2_takeOff_48 (lv_at hl 1 rfl) ?_
            refine lv_icmp_gt (tgt := 85) hx hb dX2_takeOff_50 (by decide) (fun c_10 => ?_) (fun c_10 => ?_)
            · replace h := h.1 c_10
              refine lv_iload_n hx hb dX2_takeOff_85 rfl (lv_at hl 6 rfl) ?_
              refine lv_istore (lv' := [(10, .int p2), (9, .int x9_8), (8, .int x8_6), (6, .long x6_5), (0, .ref h_a0), (1, .int p1), (2, .int p2), (3, .int p3), (4, .long p4)]) hx hb dX2_takeOff_86 hl (by decide) rfl (fun ls hl => ?_)
              obtain ⟨I_88_10, m_88_10, h0_88_10, hs_88_10⟩ := h
              have key_88_10 : ∀ (n : Nat) (l10_88_10 : Int32) (a0_low_88_10 : Nat → Int64), m_88_10 l10_88_10 a0_low_88_10 < n → I_88_10 l10_88_10 a0_low_88_10 → ∀ (ls : Array Slot) (H : Heap) (locs : List Loc), lv_has ls 11 [(10, .int l10_88_10), (8, .int x8_6), (6, .long x6_5), (0, .ref h_a0), (3, .int p3), (4, .long p4)] → va_P (dC, dI) vwCl [(h_a0, .inr (2, [.ref q_a0_low, .ref q_a0_high])), (q_a0_low, .inl (cJ, 1415, .inr (.inl a0_low_88_10))), (q_a0_high, .inl (cJ, 1415, .inr (.inl a0_high_46_8)))] H → va_D A [(h_a0, .inr (2, [.ref q_a0_low, .ref q_a0_high])), (q_a0_low, .inl (cJ, 1415, .inr (.inl a0_low_88_10))), (q_a0_high, .inl (cJ, 1415, .inr (.inl a0_high_46_8)))] → va_S A s.heap H locs → W p l e (headSpec wsX2_takeOff rm_X2_takeOff).room s m ([.ref h_a0, .int p1, .int p2, .int p3, .long p4] : List Value).toArray below meth c H locs 0 0 (MQ below (qc_X2_takeOff dC dI cI cJ cZ h_a0 a0_low q_a0_low a0_high q_a0_high Q A) ([.ref h_a0, .int p1, .int p2, .int p3, .long p4] : List Value).toArray s 0 0 A) (F0 m 88 ls []) := by
                intro n
                induction n with
                | zero =>
                  intro l10_88_10 a0_low_88_10 hm
                  exact absurd hm (Nat.not_lt_zero _)
                | succ n ih_88_10 =>
                  intro l10_88_10 a0_low_88_10 hm_88_10 hI ls H locs hl hP hD hS
                  have h := hs_88_10 l10_88_10 a0_low_88_10 hI
                  refine lv_iload hx hb dX2_takeOff_88 (lv_at hl 0 rfl) ?_
                  refine lv_iload hx hb dX2_takeOff_90 (lv_at hl 1 rfl) ?_
                  refine lv_icmp_lt (tgt := 126) hx hb dX2_takeOff_92 (by decide) (fun c_12 => ?_) (fun c_12 => ?_)
                  · replace h := h.1 c_12
                    have hP9 := hP.sub (ws' := [(h_a0, .inr (2, [.ref q_a0_low, .ref q_a0_high])), (q_a0_low, .inl (cJ, 1415, .inr (.inl a0_low_88_10))), (q_a0_high, .inl (cJ, 1415, .inr (.inl a0_high_46_8)))]) [0, 1, 2] rfl
                    have hD9 := hD.sub (ws' := [(h_a0, .inr (2, [.ref q_a0_low, .ref q_a0_high])), (q_a0_low, .inl (cJ, 1415, .inr (.inl a0_low_88_10))), (q_a0_high, .inl (cJ, 1415, .inr (.inl a0_high_46_8)))]) [0, 1, 2] (by decide) rfl
                    exact W.vret hx hb hr (fun t ht hW => ⟨⟨(a0_low_88_10, a0_high_46_8), rfl, h, by rw [ht]; exact hP9, hD9⟩, hS.F ht⟩) hS.2.2 dX2_takeOff_126
                  · replace h := h.2 c_12
                    refine lv_aload_n hx hb dX2_takeOff_95 rfl (lv_at hl 3 rfl) ?_
                    refine va_get (D := (dC, dI)) (ci := 2) (v := .ref q_a0_low) (C := RX2) (T := TX2) (N := 2) hx hb hts hin_X2 hown hK hP 0 rfl rfl 0 (by decide) hw_0 (fun _ h9 => h9) rfl dX2_takeOff_96 ?_
                    refine lv_iload hx hb dX2_takeOff_99 (lv_at hl 0 rfl) ?_
                    refine lv_dup2_11 hx hb dX2_takeOff_101 rfl rfl ?_
                    obtain ⟨hin_13, h⟩ := h
                    refine va_lald hx hb hK hP 1 1 rfl rfl hin_13 dX2_takeOff_102 ?_
                    refine lv_aload_n hx hb dX2_takeOff_103 rfl (lv_at hl 3 rfl) ?_
                    refine va_get (D := (dC, dI)) (ci := 2) (v := .ref q_a0_low) (C := RX2) (T := TX2) (N := 2) hx hb hts hin_X2 hown hK hP 0 rfl rfl 0 (by decide) hw_0 (fun _ h9 => h9) rfl dX2_takeOff_104 ?_
                    refine lv_iload hx hb dX2_takeOff_107 (lv_at hl 0 rfl) ?_
                    refine lv_iload_n hx hb dX2_takeOff_109 rfl (lv_at hl 4 rfl) ?_
                    obtain ⟨hne_14, h⟩ := h
                    refine lv_idiv hx hb dX2_takeOff_110 hne_14 ?_
                    obtain ⟨hin_15, h⟩ := h
                    refine va_lald hx hb hK hP 1 1 rfl rfl hin_15 dX2_takeOff_111 ?_
                    refine lv_lload hx hb dX2_takeOff_112 (lv_at hl 2 rfl) ?_
                    refine lv_lsub hx hb dX2_takeOff_114 ?_
                    refine lv_lload hx hb dX2_takeOff_115 (lv_at hl 5 rfl) ?_
                    refine lv_lmul hx hb dX2_takeOff_117 ?_
                    refine lv_lsub hx hb dX2_takeOff_118 ?_
                    refine lv_topl (fun y_16 e_y_16 => ?_)
                    replace h := h y_16 e_y_16
                    obtain ⟨hin_17, h⟩ := h
                    refine va_last hx hb hK hP hD hS 1 1 rfl rfl hin_17 dX2_takeOff_119 (fun H locs hP hD hS => ?_)
                    have hP : va_P (dC, dI) vwCl [(h_a0, .inr (2, [.ref q_a0_low, .ref q_a0_high])), (q_a0_low, .inl (cJ, 1415, .inr (.inl (vp_updL a0_low_88_10 l10_88_10.toNatClampNeg y_16)))), (q_a0_high, .inl (cJ, 1415, .inr (.inl a0_high_46_8)))] H := hP
                    have hD : va_D A [(h_a0, .inr (2, [.ref q_a0_low, .ref q_a0_high])), (q_a0_low, .inl (cJ, 1415, .inr (.inl (vp_updL a0_low_88_10 l10_88_10.toNatClampNeg y_16)))), (q_a0_high, .inl (cJ, 1415, .inr (.inl a0_high_46_8)))] := hD
                    obtain ⟨x10_18, e_x10_18⟩ : ∃ y : Int32, y = l10_88_10 + (-1 : Int32) := ⟨_, rfl⟩
                    replace h := h x10_18 e_x10_18
                    refine lv_iinc (v := x10_18) (lv' := [(10, .int x10_18), (8, .int x8_6), (6, .long x6_5), (0, .ref h_a0), (3, .int p3), (4, .long p4)]) hx hb dX2_takeOff_120 hl (k := 0) rfl (by rw [e_x10_18]; rfl) (by decide) rfl (fun ls hl => ?_)
                    refine lv_goto (tgt := 88) hx hb dX2_takeOff_123 (by decide) ?_
                    exact ih_88_10 x10_18 (vp_updL a0_low_88_10 l10_88_10.toNatClampNeg y_16) (Nat.lt_of_lt_of_le h.2 (Nat.le_of_lt_succ hm_88_10)) h.1 _ _ _ (lv_sub hl [0, 1, 2, 3, 4, 5] rfl) (hP.sub [0, 1, 2] rfl) (hD.sub [0, 1, 2] (by decide) rfl) hS
              exact key_88_10 _ p2 a0_low (Nat.lt_succ_self _) h0_88_10 _ _ _ (lv_sub hl [0, 2, 3, 4, 7, 8] rfl) (hP.sub [0, 1, 2] rfl) (hD.sub [0, 1, 2] (by decide) rfl) hS
            · replace h := h.2 c_10
              refine lv_aload_n hx hb dX2_takeOff_53 rfl (lv_at hl 4 rfl) ?_
              refine va_get (D := (dC, dI)) (ci := 2) (v := .ref q_a0_high) (C := RX2) (T := TX2) (N := 2) hx hb hts hin_X2 hown hK hP 0 rfl rfl 1 (by decide) hw_6 (fun _ h9 => h9) rfl dX2_takeOff_54 ?_
              refine lv_iload hx hb dX2_takeOff_57 (lv_at hl 0 rfl) ?_
              refine lv_dup2_11 hx hb dX2_takeOff_59 rfl rfl ?_
              obtain ⟨hin_19, h⟩ := h
              refine va_lald hx hb hK hP 2 1 rfl rfl hin_19 dX2_takeOff_60 ?_
              refine lv_aload_n hx hb dX2_takeOff_61 rfl (lv_at hl 4 rfl) ?_
              refine lv_iload_n hx hb dX2_takeOff_62 rfl (lv_at hl 5 rfl) ?_
              refine lv_iload_n hx hb dX2_takeOff_63 rfl (lv_at hl 6 rfl) ?_
              refine lv_iload hx hb dX2_takeOff_64 (lv_at hl 0 rfl) ?_
              refine lv_iload_n hx hb dX2_takeOff_66 rfl (lv_at hl 7 rfl) ?_
              refine lv_imul hx hb dX2_takeOff_67 ?_
              have hPc := hP.sub (ws' := [(h_a0, .inr (2, [.ref q_a0_low, .ref q_a0_high])), (q_a0_low, .inl (cJ, 1415, .inr (.inl a0_low))), (q_a0_high, .inl (cJ, 1415, .inr (.inl a0_high_46_8)))]) [0, 1, 2] rfl
              have hDc := hD.sub (ws' := [(h_a0, .inr (2, [.ref q_a0_low, .ref q_a0_high])), (q_a0_low, .inl (cJ, 1415, .inr (.inl a0_low))), (q_a0_high, .inl (cJ, 1415, .inr (.inl a0_high_46_8)))]) [0, 1, 2] (by decide) rfl
              have hFc := va_free (wc := [(h_a0, .inr (2, [.ref q_a0_low, .ref q_a0_high])), (q_a0_low, .inl (cJ, 1415, .inr (.inl a0_low))), (q_a0_high, .inl (cJ, 1415, .inr (.inl a0_high_46_8)))]) hD hS hA [0, 1, 2] rfl
              refine va_calll (va_runV (As := [.int p1, .int p2, .int (l10_46_8 * p3)]) (rest := [.long (a0_high_46_8 l10_46_8.toNatClampNeg), .int l10_46_8, .ref q_a0_high]) ⟨hx, hb, hml, hown, hts⟩ (c_X2_totalUnder l dC dI cI cJ cZ _ h_a0 a0_low q_a0_low a0_high_46_8 q_a0_high p1 p2 (l10_46_8 * p3) _ h) (cwV 3 hts gX2_takeOff_X2_totalUnder rfl rfl rfl (by decide +kernel) ⟨Nat.le_of_ble_eq_true rfl, Nat.le_of_ble_eq_true rfl⟩) ⟨pre_fb, va_recv hK hPc (ci := 2) (q0 := 0) rfl rfl, pre_of hPc hDc hK hN⟩ rfl rfl hl.1 rfl (lv_room (Nat.le_of_ble_eq_true rfl)) dX2_takeOff_68 ⟨by first | exact Nat.le_of_ble_eq_true rfl | exact Nat.le_refl _, by first | exact Nat.le_of_ble_eq_true rfl | exact Nat.le_refl _⟩) hS (fun q _ h => hFc q h) hFc (fun r_20 u t H1 locs ht hvm h hB hz1 hk1 hS => ?_)
              obtain ⟨hP1, hD1⟩ := hB
              rw [ht] at hP1
              try dsimp only at h
              obtain ⟨hP, hD⟩ := va_join (wr := []) (w1 := [(h_a0, .inr (2, [.ref q_a0_low, .ref q_a0_high])), (q_a0_low, .inl (cJ, 1415, .inr (.inl a0_low))), (q_a0_high, .inl (cJ, 1415, .inr (.inl a0_high_46_8)))]) hP hD [0, 1, 2] [] rfl rfl (by decide) (by decide) hk1 hFc hP1 hD1
              generalize H1 = H at hP hS ⊢
              have hP : va_P (dC, dI) vwCl [(h_a0, .inr (2, [.ref q_a0_low, .ref q_a0_high])), (q_a0_low, .inl (cJ, 1415, .inr (.inl a0_low))), (q_a0_high, .inl (cJ, 1415, .inr (.inl a0_high_46_8)))] H := hP
              have hD : va_D A [(h_a0, .inr (2, [.ref q_a0_low, .ref q_a0_high])), (q_a0_low, .inl (cJ, 1415, .inr (.inl a0_low))), (q_a0_high, .inl (cJ, 1415, .inr (.inl a0_high_46_8)))] := hD
              refine lv_lload hx hb dX2_takeOff_71 (lv_at hl 3 rfl) ?_
              refine lv_lsub hx hb dX2_takeOff_73 ?_
              refine lv_lload hx hb dX2_takeOff_74 (lv_at hl 8 rfl) ?_
              refine lv_lmul hx hb dX2_takeOff_76 ?_
              refine lv_lsub hx hb dX2_takeOff_77 ?_
              refine lv_topl (fun y_21 e_y_21 => ?_)
              replace h := h y_21 e_y_21
              obtain ⟨hin_22, h⟩ := h
              refine va_last hx hb hK hP hD hS 2 1 rfl rfl hin_22 dX2_takeOff_78 (fun H locs hP hD hS => ?_)
              have hP : va_P (dC, dI) vwCl [(h_a0, .inr (2, [.ref q_a0_low, .ref q_a0_high])), (q_a0_low, .inl (cJ, 1415, .inr (.inl a0_low))), (q_a0_high, .inl (cJ, 1415, .inr (.inl (vp_updL a0_high_46_8 l10_46_8.toNatClampNeg y_21))))] H := hP
              have hD : va_D A [(h_a0, .inr (2, [.ref q_a0_low, .ref q_a0_high])), (q_a0_low, .inl (cJ, 1415, .inr (.inl a0_low))), (q_a0_high, .inl (cJ, 1415, .inr (.inl (vp_updL a0_high_46_8 l10_46_8.toNatClampNeg y_21))))] := hD
              obtain ⟨x10_23, e_x10_23⟩ : ∃ y : Int32, y = l10_46_8 + (1 : Int32) := ⟨_, rfl⟩
              replace h := h x10_23 e_x10_23
              refine lv_iinc (v := x10_23) (lv' := [(10, .int x10_23), (9, .int x9_8), (8, .int x8_6), (6, .long x6_5), (0, .ref h_a0), (1, .int p1), (2, .int p2), (3, .int p3), (4, .long p4)]) hx hb dX2_takeOff_79 hl (k := 0) rfl (by rw [e_x10_23]; rfl) (by decide) rfl (fun ls hl => ?_)
              refine lv_goto (tgt := 46) hx hb dX2_takeOff_82 (by decide) ?_
              exact ih_46_8 x10_23 (vp_updL a0_high_46_8 l10_46_8.toNatClampNeg y_21) (Nat.lt_of_lt_of_le h.2 (Nat.le_of_lt_succ hm_46_8)) h.1 _ _ _ (lv_sub hl [0, 1, 2, 3, 4, 5, 6, 7, 8] rfl) (hP.sub [0, 1, 2] rfl) (hD.sub [0, 1, 2] (by decide) rfl) hS
        exact key_46_8 _ (1 : Int32) a0_high (Nat.lt_succ_self _) h0_46_8 _ _ _ (lv_sub hl [0, 1, 2, 3, 4, 5, 6, 7, 8] rfl) (hP.sub [0, 1, 2] rfl) (hD.sub [0, 1, 2] (by decide) rfl) hS
      · replace h := h.2 c_3
        have hP9 := hP.sub (ws' := [(h_a0, .inr (2, [.ref q_a0_low, .ref q_a0_high])), (q_a0_low, .inl (cJ, 1415, .inr (.inl a0_low))), (q_a0_high, .inl (cJ, 1415, .inr (.inl a0_high)))]) [0, 1, 2] rfl
        have hD9 := hD.sub (ws' := [(h_a0, .inr (2, [.ref q_a0_low, .ref q_a0_high])), (q_a0_low, .inl (cJ, 1415, .inr (.inl a0_low))), (q_a0_high, .inl (cJ, 1415, .inr (.inl a0_high)))]) [0, 1, 2] (by decide) rfl
        exact W.vret hx hb hr (fun t ht hW => ⟨⟨(a0_low, a0_high), rfl, h, by rw [ht]; exact hP9, hD9⟩, hS.F ht⟩) hS.2.2 dX2_takeOff_17
def wp_X2_total (a0_low : Nat → Int64) (a0_high : Nat → Int64) (p1 : Int32) (p2 : Int32) (Q : Int64 → (Nat → Int64) → (Nat → Int64) → Prop) : Prop :=
  (((2 : Int32) ≤ p1 → wp_X7_root (p1.toInt64) (fun r_2 => (∀ x3_3 : Int32, x3_3 = (if (1414 : Int64) < r_2 then (1414 : Int64) else r_2).toInt32 → (vp_in (0 : Int32) 1415 ∧ (∃ (I_30_4 : Int32 → (Nat → Int64) → (Nat → Int64) → Prop) (m_30_4 : Int32 → (Nat → Int64) → (Nat → Int64) → Nat), I_30_4 (1 : Int32) (vp_updL a0_low (0 : Int32).toNatClampNeg (0 : Int64)) a0_high ∧ ∀ (l4_30_4 : Int32) (a0_low_30_4 : Nat → Int64) (a0_high_30_4 : Nat → Int64), I_30_4 l4_30_4 a0_low_30_4 a0_high_30_4 → ((x3_3 < l4_30_4 → (∃ (I_75_6 : Int32 → (Nat → Int64) → (Nat → Int64) → Prop) (m_75_6 : Int32 → (Nat → Int64) → (Nat → Int64) → Nat), I_75_6 (2 : Int32) a0_low_30_4 a0_high_30_4 ∧ ∀ (l4_75_6 : Int32) (a0_low_75_6 : Nat → Int64) (a0_high_75_6 : Nat → Int64), I_75_6 l4_75_6 a0_low_75_6 a0_high_75_6 → ((x3_3 < l4_75_6 → (vp_in (1 : Int32) 1415 ∧ Q (a0_high_75_6 (1 : Int32).toNatClampNeg) a0_low_75_6 a0_high_75_6)) ∧ (¬ x3_3 < l4_75_6 → (vp_in l4_75_6 1415 ∧ (vp_in (l4_75_6 - (1 : Int32)) 1415 ∧ (((a0_low_75_6 l4_75_6.toNatClampNeg) = (a0_low_75_6 (l4_75_6 - (1 : Int32)).toNatClampNeg) → (∀ x4_13 : Int32, x4_13 = l4_75_6 + (1 : Int32) → (I_75_6 x4_13 a0_low_75_6 a0_high_75_6 ∧ m_75_6 x4_13 a0_low_75_6 a0_high_75_6 < m_75_6 l4_75_6 a0_low_75_6 a0_high_75_6))) ∧ (¬ (a0_low_75_6 l4_75_6.toNatClampNeg) = (a0_low_75_6 (l4_75_6 - (1 : Int32)).toNatClampNeg) → ((p2 = (0 : Int32) → wp_X2_takeOff a0_low_75_6 a0_high_75_6 p1 x3_3 l4_75_6 (1 : Int64) (fun o_15 o_16 => (∀ x4_17 : Int32, x4_17 = l4_75_6 + (1 : Int32) → (I_75_6 x4_17 o_15 o_16 ∧ m_75_6 x4_17 o_15 o_16 < m_75_6 l4_75_6 a0_low_75_6 a0_high_75_6)))) ∧ (¬ p2 = (0 : Int32) → wp_X2_takeOff a0_low_75_6 a0_high_75_6 p1 x3_3 l4_75_6 (l4_75_6.toInt64) (fun o_18 o_19 => (∀ x4_20 : Int32, x4_20 = l4_75_6 + (1 : Int32) → (I_75_6 x4_20 o_18 o_19 ∧ m_75_6 x4_20 o_18 o_19 < m_75_6 l4_75_6 a0_low_75_6 a0_high_75_6))))))))))))) ∧ (¬ x3_3 < l4_30_4 → wp_X2_allAboveOne (l4_30_4.toInt64) p2 (fun r_21 => (vp_in l4_30_4 1415 ∧ (¬ l4_30_4 = 0 ∧ wp_X2_allAboveOne ((p1 / l4_30_4).toInt64) p2 (fun r_24 => (vp_in l4_30_4 1415 ∧ (∀ x4_26 : Int32, x4_26 = l4_30_4 + (1 : Int32) → (I_30_4 x4_26 (vp_updL a0_low_30_4 l4_30_4.toNatClampNeg r_21) (vp_updL a0_high_30_4 l4_30_4.toNatClampNeg r_24) ∧ m_30_4 x4_26 (vp_updL a0_low_30_4 l4_30_4.toNatClampNeg r_21) (vp_updL a0_high_30_4 l4_30_4.toNatClampNeg r_24) < m_30_4 l4_30_4 a0_low_30_4 a0_high_30_4)))))))))))))) ∧ (¬ (2 : Int32) ≤ p1 → Q (0 : Int64) a0_low a0_high))
abbrev rm_X2_total : Room := { frames := 2, cells := 0, slots := 0, locals := 54 }
abbrev qc_X2_total (dC : Nat → ClassId) (dI : Nat → Nat → Nat) (cI cJ cZ : ClassId) (h_a0 : Nat) (a0_low : Nat → Int64) (q_a0_low : Nat) (a0_high : Nat → Int64) (q_a0_high : Nat) (Q : Int64 → (Nat → Int64) → (Nat → Int64) → Prop) (A : Nat → Prop) : Array Value → State → Outcome → State → Prop := va_Ql (fun (r : Int64) (u : (Nat → Int64) × (Nat → Int64)) => Q r u.1 u.2) (post_ dC dI A (fun (u : (Nat → Int64) × (Nat → Int64)) => [(h_a0, .inr (2, [.ref q_a0_low, .ref q_a0_high])), (q_a0_low, .inl (cJ, 1415, .inr (.inl (u.1)))), (q_a0_high, .inl (cJ, 1415, .inr (.inl (u.2))))])) A
set_option maxHeartbeats 4000000 in
set_option maxRecDepth 100000 in
theorem c_X2_total (l : Launch) (dC : Nat → ClassId) (dI : Nat → Nat → Nat) (cI cJ cZ : ClassId) (sz : Nat) (h_a0 : Nat) (a0_low : Nat → Int64) (q_a0_low : Nat) (a0_high : Nat → Int64) (q_a0_high : Nat) (p1 : Int32) (p2 : Int32) (Q : Int64 → (Nat → Int64) → (Nat → Int64) → Prop) (hQ : wp_X2_total a0_low a0_high p1 p2 Q) : Met l yX2_total wsX2_total rm_X2_total (pre_ dC dI cI cJ cZ [.ref h_a0, .int p1, .int p2] [(h_a0, .inr (2, [.ref q_a0_low, .ref q_a0_high])), (q_a0_low, .inl (cJ, 1415, .inr (.inl a0_low))), (q_a0_high, .inl (cJ, 1415, .inr (.inl a0_high)))] sz) (qc_X2_total dC dI cI cJ cZ h_a0 a0_low q_a0_low a0_high q_a0_high Q (va_A [(h_a0, .inr (2, [.ref q_a0_low, .ref q_a0_high])), (q_a0_low, .inl (cJ, 1415, .inr (.inl a0_low))), (q_a0_high, .inl (cJ, 1415, .inr (.inl a0_high)))] sz)) 0 0 (va_A [(h_a0, .inr (2, [.ref q_a0_low, .ref q_a0_high])), (q_a0_low, .inl (cJ, 1415, .inr (.inl a0_low))), (q_a0_high, .inl (cJ, 1415, .inr (.inl a0_high)))] sz) := by
  refine Met.ofW (cc := cX2_total) (maxL := 5) (ret := (some .long)) (by decide) rfl ?_
  intro p e s m args below meth c s₁ B hml hv
  obtain ⟨rfl, hsz, hP, hK, hN, hD0⟩ := hv
  have hx := B.exec
  have hb := B.bytes
  have hr := B.returns
  have hts := atoms_spec (ws := wsX2_total) B.pre
  have hown : s.vm.findClass RX2 = some m.cls := findClass_of_methodNamed B.named
  subst hsz
  have hD := hD0.self (sz := s.heap.size)
  generalize hAe : va_A [(h_a0, .inr (2, [.ref q_a0_low, .ref q_a0_high])), (q_a0_low, .inl (cJ, 1415, .inr (.inl a0_low))), (q_a0_high, .inl (cJ, 1415, .inr (.inl a0_high)))] s.heap.size = A at hD ⊢
  have hA : ∀ q : Nat, s.heap.size ≤ q → A q := fun q h => by rw [← hAe]; exact Or.inr h
  have hS : va_S A s.heap s.heap [] := va_S.rf
  have hl := lv_entry ([.ref h_a0, .int p1, .int p2]) (n := 5) (Nat.le_of_ble_eq_true rfl)
  rw [lg_entry_eq]
  generalize (lg_sl ([.ref h_a0, .int p1, .int p2]) ++ List.replicate (5 - (lg_sl ([.ref h_a0, .int p1, .int p2])).length) Slot.unset).toArray = ls at hl ⊢
  have hl : lv_has ls 5 [(0, .ref h_a0), (1, .int p1), (2, .int p2)] := hl
  have h := hQ
  unfold wp_X2_total at h
  have hw_0 := hts (.constantLong RX2 22 (1414)) (by decide +kernel)
  have hw_1 := hts (.methodLink RX2 24 Lib.MathLoose.min_long.x) (by decide +kernel)
  have hw_2 := hts (.static Lib.MathLoose.min_long.x) (by decide +kernel)
  have hw_3 := hts (.initialized "java/lang/Math") (by decide +kernel)
  have hw_4 := hts (.code Lib.MathLoose.min_long.x Lib.MathLoose.min_long.code 4 (some .long)) (by decide +kernel)
  have hw_5 := hts (.fieldLink RX2 9 "NumberSieves$PrimeSums" "low" "[J") (by decide +kernel)
  have hin_X2 : ∀ w ∈ wsX20, w ∈ wsX2_total := by decide +kernel
  have hw_7 := hts (.fieldLink RX2 13 "NumberSieves$PrimeSums" "high" "[J") (by decide +kernel)
  refine lv_iload_n hx hb dX2_total_0 rfl (lv_at hl 1 rfl) ?_
  refine lv_iconst (v := (2 : Int32)) hx hb dX2_total_1 (by decide) ?_
  refine lv_icmp_ge (tgt := 7) hx hb dX2_total_2 (by decide) (fun c_1 => ?_) (fun c_1 => ?_)
  · replace h := h.1 c_1
    refine lv_iload_n hx hb dX2_total_7 rfl (lv_at hl 1 rfl) ?_
    refine lv_i2l hx hb dX2_total_8 rfl ?_
    have hPc := hP.sub (ws' := []) [] rfl
    have hDc := hD.sub (ws' := []) [] (by decide) rfl
    have hFc := va_free (wc := []) hD hS hA [] rfl
    refine va_calll (va_runS (As := [.long p1.toInt64]) (rest := []) ⟨hx, hb, hml, hown, hts⟩ (c_X7_root l dC dI cI cJ cZ _ (p1.toInt64) _ h) (va_cwS 1 hts gX2_total_X7_root rfl rfl rfl (by decide +kernel) ⟨Nat.le_of_ble_eq_true rfl, Nat.le_of_ble_eq_true rfl⟩) ⟨pre_fb, pre_of hPc hDc hK hN⟩ rfl rfl hl.1 rfl (lv_room (Nat.le_of_ble_eq_true rfl)) dX2_total_9 ⟨by first | exact Nat.le_of_ble_eq_true rfl | exact Nat.le_refl _, by first | exact Nat.le_of_ble_eq_true rfl | exact Nat.le_refl _⟩) hS (fun q _ h => hFc q h) hFc (fun r_2 u t H1 locs ht hvm h hB hz1 hk1 hS => ?_)
    obtain ⟨hP1, hD1⟩ := hB
    rw [ht] at hP1
    try dsimp only at h
    obtain ⟨hP, hD⟩ := va_join (wr := [(h_a0, .inr (2, [.ref q_a0_low, .ref q_a0_high])), (q_a0_low, .inl (cJ, 1415, .inr (.inl a0_low))), (q_a0_high, .inl (cJ, 1415, .inr (.inl a0_high)))]) (w1 := []) hP hD [] [0, 1, 2] rfl rfl (by decide) (by decide) hk1 hFc hP1 hD1
    generalize H1 = H at hP hS ⊢
    have hP : va_P (dC, dI) vwCl [(h_a0, .inr (2, [.ref q_a0_low, .ref q_a0_high])), (q_a0_low, .inl (cJ, 1415, .inr (.inl a0_low))), (q_a0_high, .inl (cJ, 1415, .inr (.inl a0_high)))] H := hP
    have hD : va_D A [(h_a0, .inr (2, [.ref q_a0_low, .ref q_a0_high])), (q_a0_low, .inl (cJ, 1415, .inr (.inl a0_low))), (q_a0_high, .inl (cJ, 1415, .inr (.inl a0_high)))] := hD
    refine lv_ldc2 hx hb hown hw_0 dX2_total_12 ?_
    refine va_mmin_long hx hb (by rw [hml]; exact hl.1.symm) hown hw_1 hw_2 hw_3 hw_4 (Nat.le_of_ble_eq_true rfl) (Nat.le_of_ble_eq_true rfl) (Nat.le_of_ble_eq_true rfl) (Nat.le_of_ble_eq_true rfl) dX2_total_15 ?_
    refine lv_l2i hx hb dX2_total_18 rfl ?_
    refine lv_topi (fun x3_3 e_x3_3 => ?_)
    replace h := h x3_3 e_x3_3
    refine lv_istore_n (lv' := [(3, .int x3_3), (0, .ref h_a0), (1, .int p1), (2, .int p2)]) hx hb dX2_total_19 rfl hl (by decide) rfl (fun ls hl => ?_)
    refine lv_aload_n hx hb dX2_total_20 rfl (lv_at hl 1 rfl) ?_
    refine va_get (D := (dC, dI)) (ci := 2) (v := .ref q_a0_low) (C := RX2) (T := TX2) (N := 2) hx hb hts hin_X2 hown hK hP 0 rfl rfl 0 (by decide) hw_5 (fun _ h9 => h9) rfl dX2_total_21 ?_
    refine lv_iconst (v := (0 : Int32)) hx hb dX2_total_24 (by decide) ?_
    refine lv_lconst (v := (0 : Int64)) hx hb dX2_total_25 (by decide) ?_
    obtain ⟨hin_4, h⟩ := h
    refine va_last hx hb hK hP hD hS 1 1 rfl rfl hin_4 dX2_total_26 (fun H locs hP hD hS => ?_)
    have hP : va_P (dC, dI) vwCl [(h_a0, .inr (2, [.ref q_a0_low, .ref q_a0_high])), (q_a0_low, .inl (cJ, 1415, .inr (.inl (vp_updL a0_low (0 : Int32).toNatClampNeg (0 : Int64))))), (q_a0_high, .inl (cJ, 1415, .inr (.inl a0_high)))] H := hP
    have hD : va_D A [(h_a0, .inr (2, [.ref q_a0_low, .ref q_a0_high])), (q_a0_low, .inl (cJ, 1415, .inr (.inl (vp_updL a0_low (0 : Int32).toNatClampNeg (0 : Int64))))), (q_a0_high, .inl (cJ, 1415, .inr (.inl a0_high)))] := hD
    refine lv_iconst (v := (1 : Int32)) hx hb dX2_total_27 (by decide) ?_
    refine lv_istore (lv' := [(4, .int (1 : Int32)), (3, .int x3_3), (0, .ref h_a0), (1, .int p1), (2, .int p2)]) hx hb dX2_total_28 hl (by decide) rfl (fun ls hl => ?_)
    obtain ⟨I_30_4, m_30_4, h0_30_4, hs_30_4⟩ := h
    have key_30_4 : ∀ (n : Nat) (l4_30_4 : Int32) (a0_low_30_4 : Nat → Int64) (a0_high_30_4 : Nat → Int64), m_30_4 l4_30_4 a0_low_30_4 a0_high_30_4 < n → I_30_4 l4_30_4 a0_low_30_4 a0_high_30_4 → ∀ (ls : Array Slot) (H : Heap) (locs : List Loc), lv_has ls 5 [(4, .int l4_30_4), (3, .int x3_3), (0, .ref h_a0), (1, .int p1), (2, .int p2)] → va_P (dC, dI) vwCl [(h_a0, .inr (2, [.ref q_a0_low, .ref q_a0_high])), (q_a0_low, .inl (cJ, 1415, .inr (.inl a0_low_30_4))), (q_a0_high, .inl (cJ, 1415, .inr (.inl a0_high_30_4)))] H → va_D A [(h_a0, .inr (2, [.ref q_a0_low, .ref q_a0_high])), (q_a0_low, .inl (cJ, 1415, .inr (.inl a0_low_30_4))), (q_a0_high, .inl (cJ, 1415, .inr (.inl a0_high_30_4)))] → va_S A s.heap H locs → W p l e (headSpec wsX2_total rm_X2_total).room s m ([.ref h_a0, .int p1, .int p2] : List Value).toArray below meth c H locs 0 0 (MQ below (qc_X2_total dC dI cI cJ cZ h_a0 a0_low q_a0_low a0_high q_a0_high Q A) ([.ref h_a0, .int p1, .int p2] : List Value).toArray s 0 0 A) (F0 m 30 ls []) := by
      intro n
      induction n with
      | zero =>
        intro l4_30_4 a0_low_30_4 a0_high_30_4 hm
        exact absurd hm (Nat.not_lt_zero _)
      | succ n ih_30_4 =>
        intro l4_30_4 a0_low_30_4 a0_high_30_4 hm_30_4 hI ls H locs hl hP hD hS
        have h := hs_30_4 l4_30_4 a0_low_30_4 a0_high_30_4 hI
        refine lv_iload hx hb dX2_total_30 (lv_at hl 0 rfl) ?_
        refine lv_iload_n hx hb dX2_total_32 rfl (lv_at hl 1 rfl) ?_
        refine lv_icmp_gt (tgt := 72) hx hb dX2_total_33 (by decide) (fun c_6 => ?_) (fun c_6 => ?_)
        · replace h := h.1 c_6
          refine lv_iconst (v := (2 : Int32)) hx hb dX2_total_72 (by decide) ?_
          refine lv_istore (lv' := [(4, .int (2 : Int32)), (3, .int x3_3), (0, .ref h_a0), (1, .int p1), (2, .int p2)]) hx hb dX2_total_73 hl (by decide) rfl (fun ls hl => ?_)
          obtain ⟨I_75_6, m_75_6, h0_75_6, hs_75_6⟩ := h
          have key_75_6 : ∀ (n : Nat) (l4_75_6 : Int32) (a0_low_75_6 : Nat → Int64) (a0_high_75_6 : Nat → Int64), m_75_6 l4_75_6 a0_low_75_6 a0_high_75_6 < n → I_75_6 l4_75_6 a0_low_75_6 a0_high_75_6 → ∀ (ls : Array Slot) (H : Heap) (locs : List Loc), lv_has ls 5 [(4, .int l4_75_6), (3, .int x3_3), (0, .ref h_a0), (1, .int p1), (2, .int p2)] → va_P (dC, dI) vwCl [(h_a0, .inr (2, [.ref q_a0_low, .ref q_a0_high])), (q_a0_low, .inl (cJ, 1415, .inr (.inl a0_low_75_6))), (q_a0_high, .inl (cJ, 1415, .inr (.inl a0_high_75_6)))] H → va_D A [(h_a0, .inr (2, [.ref q_a0_low, .ref q_a0_high])), (q_a0_low, .inl (cJ, 1415, .inr (.inl a0_low_75_6))), (q_a0_high, .inl (cJ, 1415, .inr (.inl a0_high_75_6)))] → va_S A s.heap H locs → W p l e (headSpec wsX2_total rm_X2_total).room s m ([.ref h_a0, .int p1, .int p2] : List Value).toArray below meth c H locs 0 0 (MQ below (qc_X2_total dC dI cI cJ cZ h_a0 a0_low q_a0_low a0_high q_a0_high Q A) ([.ref h_a0, .int p1, .int p2] : List Value).toArray s 0 0 A) (F0 m 75 ls []) := by
            intro n
            induction n with
            | zero =>
              intro l4_75_6 a0_low_75_6 a0_high_75_6 hm
              exact absurd hm (Nat.not_lt_zero _)
            | succ n ih_75_6 =>
              intro l4_75_6 a0_low_75_6 a0_high_75_6 hm_75_6 hI ls H locs hl hP hD hS
              have h := hs_75_6 l4_75_6 a0_low_75_6 a0_high_75_6 hI
              refine lv_iload hx hb dX2_total_75 (lv_at hl 0 rfl) ?_
              refine lv_iload_n hx hb dX2_total_77 rfl (lv_at hl 1 rfl) ?_
              refine lv_icmp_gt (tgt := 126) hx hb dX2_total_78 (by decide) (fun c_8 => ?_) (fun c_8 => ?_)
              · replace h := h.1 c_8
                refine lv_aload_n hx hb dX2_total_126 rfl (lv_at hl 2 rfl) ?_
                refine va_get (D := (dC, dI)) (ci := 2) (v := .ref q_a0_high) (C := RX2) (T := TX2) (N := 2) hx hb hts hin_X2 hown hK hP 0 rfl rfl 1 (by decide) hw_7 (fun _ h9 => h9) rfl dX2_total_127 ?_
                refine lv_iconst (v := (1 : Int32)) hx hb dX2_total_130 (by decide) ?_
                obtain ⟨hin_9, h⟩ := h
                refine va_lald hx hb hK hP 2 1 rfl rfl hin_9 dX2_total_131 ?_
                have hP9 := hP.sub (ws' := [(h_a0, .inr (2, [.ref q_a0_low, .ref q_a0_high])), (q_a0_low, .inl (cJ, 1415, .inr (.inl a0_low_75_6))), (q_a0_high, .inl (cJ, 1415, .inr (.inl a0_high_75_6)))]) [0, 1, 2] rfl
                have hD9 := hD.sub (ws' := [(h_a0, .inr (2, [.ref q_a0_low, .ref q_a0_high])), (q_a0_low, .inl (cJ, 1415, .inr (.inl a0_low_75_6))), (q_a0_high, .inl (cJ, 1415, .inr (.inl a0_high_75_6)))]) [0, 1, 2] (by decide) rfl
                exact W.lret (v := (a0_high_75_6 (1 : Int32).toNatClampNeg)) hx hb hr (fun t ht hW => ⟨⟨_, (a0_low_75_6, a0_high_75_6), rfl, h, by rw [ht]; exact hP9, hD9⟩, hS.F ht⟩) hS.2.2 dX2_total_132
              · replace h := h.2 c_8
                refine lv_aload_n hx hb dX2_total_81 rfl (lv_at hl 2 rfl) ?_
                refine va_get (D := (dC, dI)) (ci := 2) (v := .ref q_a0_low) (C := RX2) (T := TX2) (N := 2) hx hb hts hin_X2 hown hK hP 0 rfl rfl 0 (by decide) hw_5 (fun _ h9 => h9) rfl dX2_total_82 ?_
                refine lv_iload hx hb dX2_total_85 (lv_at hl 0 rfl) ?_
                obtain ⟨hin_10, h⟩ := h
                refine va_lald hx hb hK hP 1 1 rfl rfl hin_10 dX2_total_87 ?_
                refine lv_aload_n hx hb dX2_total_88 rfl (lv_at hl 2 rfl) ?_
                refine va_get (D := (dC, dI)) (ci := 2) (v := .ref q_a0_low) (C := RX2) (T := TX2) (N := 2) hx hb hts hin_X2 hown hK hP 0 rfl rfl 0 (by decide) hw_5 (fun _ h9 => h9) rfl dX2_total_89 ?_
                refine lv_iload hx hb dX2_total_92 (lv_at hl 0 rfl) ?_
                refine lv_iconst (v := (1 : Int32)) hx hb dX2_total_94 (by decide) ?_
                refine lv_isub hx hb dX2_total_95 ?_
                obtain ⟨hin_11, h⟩ := h
                refine va_lald hx hb hK hP 1 1 rfl rfl hin_11 dX2_total_96 ?_
                refine W.lcmp hx hb dX2_total_97 ?_
                refine lv_if_eq (tgt := 120) hx hb dX2_total_98 (by decide) (fun c_12 => ?_) (fun c_12 => ?_)
                · replace c_12 := (lg_cmp_eq _ _).mp c_12
                  replace h := h.1 c_12
                  obtain ⟨x4_13, e_x4_13⟩ : ∃ y : Int32, y = l4_75_6 + (1 : Int32) := ⟨_, rfl⟩
                  replace h := h x4_13 e_x4_13
                  refine lv_iinc (v := x4_13) (lv' := [(4, .int x4_13), (3, .int x3_3), (0, .ref h_a0), (1, .int p1), (2, .int p2)]) hx hb dX2_total_120 hl (k := 0) rfl (by rw [e_x4_13]; rfl) (by decide) rfl (fun ls hl => ?_)
                  refine lv_goto (tgt := 75) hx hb dX2_total_123 (by decide) ?_
                  exact ih_75_6 x4_13 a0_low_75_6 a0_high_75_6 (Nat.lt_of_lt_of_le h.2 (Nat.le_of_lt_succ hm_75_6)) h.1 _ _ _ (lv_sub hl [0, 1, 2, 3, 4] rfl) (hP.sub [0, 1, 2] rfl) (hD.sub [0, 1, 2] (by decide) rfl) hS
                · replace c_12 := lc_neq c_12
                  replace h := h.2 c_12
                  refine lv_aload_n hx hb dX2_total_101 rfl (lv_at hl 2 rfl) ?_
                  refine lv_iload_n hx hb dX2_total_102 rfl (lv_at hl 3 rfl) ?_
                  refine lv_iload_n hx hb dX2_total_103 rfl (lv_at hl 1 rfl) ?_
                  refine lv_iload hx hb dX2_total_104 (lv_at hl 0 rfl) ?_
                  refine lv_iload_n hx hb dX2_total_106 rfl (lv_at hl 4 rfl) ?_
                  refine lv_if_eq (tgt := 116) hx hb dX2_total_107 (by decide) (fun c_14 => ?_) (fun c_14 => ?_)
                  · replace h := h.1 c_14
                    refine lv_lconst (v := (1 : Int64)) hx hb dX2_total_116 (by decide) ?_
                    have hPc := hP.sub (ws' := [(h_a0, .inr (2, [.ref q_a0_low, .ref q_a0_high])), (q_a0_low, .inl (cJ, 1415, .inr (.inl a0_low_75_6))), (q_a0_high, .inl (cJ, 1415, .inr (.inl a0_high_75_6)))]) [0, 1, 2] rfl
                    have hDc := hD.sub (ws' := [(h_a0, .inr (2, [.ref q_a0_low, .ref q_a0_high])), (q_a0_low, .inl (cJ, 1415, .inr (.inl a0_low_75_6))), (q_a0_high, .inl (cJ, 1415, .inr (.inl a0_high_75_6)))]) [0, 1, 2] (by decide) rfl
                    have hFc := va_free (wc := [(h_a0, .inr (2, [.ref q_a0_low, .ref q_a0_high])), (q_a0_low, .inl (cJ, 1415, .inr (.inl a0_low_75_6))), (q_a0_high, .inl (cJ, 1415, .inr (.inl a0_high_75_6)))]) hD hS hA [0, 1, 2] rfl
                    refine va_callv (va_runV (As := [.int p1, .int x3_3, .int l4_75_6, .long (1 : Int64)]) (rest := []) ⟨hx, hb, hml, hown, hts⟩ (c_X2_takeOff l dC dI cI cJ cZ _ h_a0 a0_low_75_6 q_a0_low a0_high_75_6 q_a0_high p1 x3_3 l4_75_6 (1 : Int64) _ h) (cwV 4 hts gX2_total_X2_takeOff rfl rfl rfl (by decide +kernel) ⟨Nat.le_of_ble_eq_true rfl, Nat.le_of_ble_eq_true rfl⟩) ⟨pre_fb, va_recv hK hPc (ci := 2) (q0 := 0) rfl rfl, pre_of hPc hDc hK hN⟩ rfl rfl hl.1 rfl (lv_room (Nat.le_of_ble_eq_true rfl)) dX2_total_117 ⟨by first | exact Nat.le_of_ble_eq_true rfl | exact Nat.le_refl _, by first | exact Nat.le_of_ble_eq_true rfl | exact Nat.le_refl _⟩) hS (fun q _ h => hFc q h) hFc (fun u t H1 locs ht hvm h hB hz1 hk1 hS => ?_)
                    obtain ⟨o_15, o_16⟩ := u
                    obtain ⟨hP1, hD1⟩ := hB
                    rw [ht] at hP1
                    try dsimp only at h
                    obtain ⟨hP, hD⟩ := va_join (wr := []) (w1 := [(h_a0, .inr (2, [.ref q_a0_low, .ref q_a0_high])), (q_a0_low, .inl (cJ, 1415, .inr (.inl o_15))), (q_a0_high, .inl (cJ, 1415, .inr (.inl o_16)))]) hP hD [0, 1, 2] [] rfl rfl (by decide) (by decide) hk1 hFc hP1 hD1
                    generalize H1 = H at hP hS ⊢
                    have hP : va_P (dC, dI) vwCl [(h_a0, .inr (2, [.ref q_a0_low, .ref q_a0_high])), (q_a0_low, .inl (cJ, 1415, .inr (.inl o_15))), (q_a0_high, .inl (cJ, 1415, .inr (.inl o_16)))] H := hP
                    have hD : va_D A [(h_a0, .inr (2, [.ref q_a0_low, .ref q_a0_high])), (q_a0_low, .inl (cJ, 1415, .inr (.inl o_15))), (q_a0_high, .inl (cJ, 1415, .inr (.inl o_16)))] := hD
                    obtain ⟨x4_17, e_x4_17⟩ : ∃ y : Int32, y = l4_75_6 + (1 : Int32) := ⟨_, rfl⟩
                    replace h := h x4_17 e_x4_17
                    refine lv_iinc (v := x4_17) (lv' := [(4, .int x4_17), (3, .int x3_3), (0, .ref h_a0), (1, .int p1), (2, .int p2)]) hx hb dX2_total_120 hl (k := 0) rfl (by rw [e_x4_17]; rfl) (by decide) rfl (fun ls hl => ?_)
                    refine lv_goto (tgt := 75) hx hb dX2_total_123 (by decide) ?_
                    exact ih_75_6 x4_17 o_15 o_16 (Nat.lt_of_lt_of_le h.2 (Nat.le_of_lt_succ hm_75_6)) h.1 _ _ _ (lv_sub hl [0, 1, 2, 3, 4] rfl) (hP.sub [0, 1, 2] rfl) (hD.sub [0, 1, 2] (by decide) rfl) hS
                  · replace h := h.2 c_14
                    refine lv_iload hx hb dX2_total_110 (lv_at hl 0 rfl) ?_
                    refine lv_i2l hx hb dX2_total_112 rfl ?_
                    refine lv_goto (tgt := 117) hx hb dX2_total_113 (by decide) ?_
                    have hPc := hP.sub (ws' := [(h_a0, .inr (2, [.ref q_a0_low, .ref q_a0_high])), (q_a0_low, .inl (cJ, 1415, .inr (.inl a0_low_75_6))), (q_a0_high, .inl (cJ, 1415, .inr (.inl a0_high_75_6)))]) [0, 1, 2] rfl
                    have hDc := hD.sub (ws' := [(h_a0, .inr (2, [.ref q_a0_low, .ref q_a0_high])), (q_a0_low, .inl (cJ, 1415, .inr (.inl a0_low_75_6))), (q_a0_high, .inl (cJ, 1415, .inr (.inl a0_high_75_6)))]) [0, 1, 2] (by decide) rfl
                    have hFc := va_free (wc := [(h_a0, .inr (2, [.ref q_a0_low, .ref q_a0_high])), (q_a0_low, .inl (cJ, 1415, .inr (.inl a0_low_75_6))), (q_a0_high, .inl (cJ, 1415, .inr (.inl a0_high_75_6)))]) hD hS hA [0, 1, 2] rfl
                    refine va_callv (va_runV (As := [.int p1, .int x3_3, .int l4_75_6, .long l4_75_6.toInt64]) (rest := []) ⟨hx, hb, hml, hown, hts⟩ (c_X2_takeOff l dC dI cI cJ cZ _ h_a0 a0_low_75_6 q_a0_low a0_high_75_6 q_a0_high p1 x3_3 l4_75_6 (l4_75_6.toInt64) _ h) (cwV 4 hts gX2_total_X2_takeOff rfl rfl rfl (by decide +kernel) ⟨Nat.le_of_ble_eq_true rfl, Nat.le_of_ble_eq_true rfl⟩) ⟨pre_fb, va_recv hK hPc (ci := 2) (q0 := 0) rfl rfl, pre_of hPc hDc hK hN⟩ rfl rfl hl.1 rfl (lv_room (Nat.le_of_ble_eq_true rfl)) dX2_total_117 ⟨by first | exact Nat.le_of_ble_eq_true rfl | exact Nat.le_refl _, by first | exact Nat.le_of_ble_eq_true rfl | exact Nat.le_refl _⟩) hS (fun q _ h => hFc q h) hFc (fun u t H1 locs ht hvm h hB hz1 hk1 hS => ?_)
                    obtain ⟨o_18, o_19⟩ := u
                    obtain ⟨hP1, hD1⟩ := hB
                    rw [ht] at hP1
                    try dsimp only at h
                    obtain ⟨hP, hD⟩ := va_join (wr := []) (w1 := [(h_a0, .inr (2, [.ref q_a0_low, .ref q_a0_high])), (q_a0_low, .inl (cJ, 1415, .inr (.inl o_18))), (q_a0_high, .inl (cJ, 1415, .inr (.inl o_19)))]) hP hD [0, 1, 2] [] rfl rfl (by decide) (by decide) hk1 hFc hP1 hD1
                    generalize H1 = H at hP hS ⊢
                    have hP : va_P (dC, dI) vwCl [(h_a0, .inr (2, [.ref q_a0_low, .ref q_a0_high])), (q_a0_low, .inl (cJ, 1415, .inr (.inl o_18))), (q_a0_high, .inl (cJ, 1415, .inr (.inl o_19)))] H := hP
                    have hD : va_D A [(h_a0, .inr (2, [.ref q_a0_low, .ref q_a0_high])), (q_a0_low, .inl (cJ, 1415, .inr (.inl o_18))), (q_a0_high, .inl (cJ, 1415, .inr (.inl o_19)))] := hD
                    obtain ⟨x4_20, e_x4_20⟩ : ∃ y : Int32, y = l4_75_6 + (1 : Int32) := ⟨_, rfl⟩
                    replace h := h x4_20 e_x4_20
                    refine lv_iinc (v := x4_20) (lv' := [(4, .int x4_20), (3, .int x3_3), (0, .ref h_a0), (1, .int p1), (2, .int p2)]) hx hb dX2_total_120 hl (k := 0) rfl (by rw [e_x4_20]; rfl) (by decide) rfl (fun ls hl => ?_)
                    refine lv_goto (tgt := 75) hx hb dX2_total_123 (by decide) ?_
                    exact ih_75_6 x4_20 o_18 o_19 (Nat.lt_of_lt_of_le h.2 (Nat.le_of_lt_succ hm_75_6)) h.1 _ _ _ (lv_sub hl [0, 1, 2, 3, 4] rfl) (hP.sub [0, 1, 2] rfl) (hD.sub [0, 1, 2] (by decide) rfl) hS
          exact key_75_6 _ (2 : Int32) a0_low_30_4 a0_high_30_4 (Nat.lt_succ_self _) h0_75_6 _ _ _ (lv_sub hl [0, 1, 2, 3, 4] rfl) (hP.sub [0, 1, 2] rfl) (hD.sub [0, 1, 2] (by decide) rfl) hS
        · replace h := h.2 c_6
          refine lv_aload_n hx hb dX2_total_36 rfl (lv_at hl 2 rfl) ?_
          refine va_get (D := (dC, dI)) (ci := 2) (v := .ref q_a0_low) (C := RX2) (T := TX2) (N := 2) hx hb hts hin_X2 hown hK hP 0 rfl rfl 0 (by decide) hw_5 (fun _ h9 => h9) rfl dX2_total_37 ?_
          refine lv_iload hx hb dX2_total_40 (lv_at hl 0 rfl) ?_
          refine lv_iload hx hb dX2_total_42 (lv_at hl 0 rfl) ?_
          refine lv_i2l hx hb dX2_total_44 rfl ?_
          refine lv_iload_n hx hb dX2_total_45 rfl (lv_at hl 4 rfl) ?_
          have hPc := hP.sub (ws' := []) [] rfl
          have hDc := hD.sub (ws' := []) [] (by decide) rfl
          have hFc := va_free (wc := []) hD hS hA [] rfl
          refine va_calll (va_runS (As := [.long l4_30_4.toInt64, .int p2]) (rest := [.int l4_30_4, .ref q_a0_low]) ⟨hx, hb, hml, hown, hts⟩ (c_X2_allAboveOne l dC dI cI cJ cZ _ (l4_30_4.toInt64) p2 _ h) (va_cwS 2 hts gX2_total_X2_allAboveOne rfl rfl rfl (by decide +kernel) ⟨Nat.le_of_ble_eq_true rfl, Nat.le_of_ble_eq_true rfl⟩) ⟨pre_fb, pre_of hPc hDc hK hN⟩ rfl rfl hl.1 rfl (lv_room (Nat.le_of_ble_eq_true rfl)) dX2_total_46 ⟨by first | exact Nat.le_of_ble_eq_true rfl | exact Nat.le_refl _, by first | exact Nat.le_of_ble_eq_true rfl | exact Nat.le_refl _⟩) hS (fun q _ h => hFc q h) hFc (fun r_21 u t H1 locs ht hvm h hB hz1 hk1 hS => ?_)
          obtain ⟨hP1, hD1⟩ := hB
          rw [ht] at hP1
          try dsimp only at h
          obtain ⟨hP, hD⟩ := va_join (wr := [(h_a0, .inr (2, [.ref q_a0_low, .ref q_a0_high])), (q_a0_low, .inl (cJ, 1415, .inr (.inl a0_low_30_4))), (q_a0_high, .inl (cJ, 1415, .inr (.inl a0_high_30_4)))]) (w1 := []) hP hD [] [0, 1, 2] rfl rfl (by decide) (by decide) hk1 hFc hP1 hD1
          generalize H1 = H at hP hS ⊢
          have hP : va_P (dC, dI) vwCl [(h_a0, .inr (2, [.ref q_a0_low, .ref q_a0_high])), (q_a0_low, .inl (cJ, 1415, .inr (.inl a0_low_30_4))), (q_a0_high, .inl (cJ, 1415, .inr (.inl a0_high_30_4)))] H := hP
          have hD : va_D A [(h_a0, .inr (2, [.ref q_a0_low, .ref q_a0_high])), (q_a0_low, .inl (cJ, 1415, .inr (.inl a0_low_30_4))), (q_a0_high, .inl (cJ, 1415, .inr (.inl a0_high_30_4)))] := hD
          obtain ⟨hin_22, h⟩ := h
          refine va_last hx hb hK hP hD hS 1 1 rfl rfl hin_22 dX2_total_49 (fun H locs hP hD hS => ?_)
          have hP : va_P (dC, dI) vwCl [(h_a0, .inr (2, [.ref q_a0_low, .ref q_a0_high])), (q_a0_low, .inl (cJ, 1415, .inr (.inl (vp_updL a0_low_30_4 l4_30_4.toNatClampNeg r_21)))), (q_a0_high, .inl (cJ, 1415, .inr (.inl a0_high_30_4)))] H := hP
          have hD : va_D A [(h_a0, .inr (2, [.ref q_a0_low, .ref q_a0_high])), (q_a0_low, .inl (cJ, 1415, .inr (.inl (vp_updL a0_low_30_4 l4_30_4.toNatClampNeg r_21)))), (q_a0_high, .inl (cJ, 1415, .inr (.inl a0_high_30_4)))] := hD
          refine lv_aload_n hx hb dX2_total_50 rfl (lv_at hl 2 rfl) ?_
          refine va_get (D := (dC, dI)) (ci := 2) (v := .ref q_a0_high) (C := RX2) (T := TX2) (N := 2) hx hb hts hin_X2 hown hK hP 0 rfl rfl 1 (by decide) hw_7 (fun _ h9 => h9) rfl dX2_total_51 ?_
          refine lv_iload hx hb dX2_total_54 (lv_at hl 0 rfl) ?_
          refine lv_iload_n hx hb dX2_total_56 rfl (lv_at hl 3 rfl) ?_
          refine lv_iload hx hb dX2_total_57 (lv_at hl 0 rfl) ?_
          obtain ⟨hne_23, h⟩ := h
          refine lv_idiv hx hb dX2_total_59 hne_23 ?_
          refine lv_i2l hx hb dX2_total_60 rfl ?_
          refine lv_iload_n hx hb dX2_total_61 rfl (lv_at hl 4 rfl) ?_
          have hPc := hP.sub (ws' := []) [] rfl
          have hDc := hD.sub (ws' := []) [] (by decide) rfl
          have hFc := va_free (wc := []) hD hS hA [] rfl
          refine va_calll (va_runS (As := [.long (p1 / l4_30_4).toInt64, .int p2]) (rest := [.int l4_30_4, .ref q_a0_high]) ⟨hx, hb, hml, hown, hts⟩ (c_X2_allAboveOne l dC dI cI cJ cZ _ ((p1 / l4_30_4).toInt64) p2 _ h) (va_cwS 2 hts gX2_total_X2_allAboveOne rfl rfl rfl (by decide +kernel) ⟨Nat.le_of_ble_eq_true rfl, Nat.le_of_ble_eq_true rfl⟩) ⟨pre_fb, pre_of hPc hDc hK hN⟩ rfl rfl hl.1 rfl (lv_room (Nat.le_of_ble_eq_true rfl)) dX2_total_62 ⟨by first | exact Nat.le_of_ble_eq_true rfl | exact Nat.le_refl _, by first | exact Nat.le_of_ble_eq_true rfl | exact Nat.le_refl _⟩) hS (fun q _ h => hFc q h) hFc (fun r_24 u t H1 locs ht hvm h hB hz1 hk1 hS => ?_)
          obtain ⟨hP1, hD1⟩ := hB
          rw [ht] at hP1
          try dsimp only at h
          obtain ⟨hP, hD⟩ := va_join (wr := [(h_a0, .inr (2, [.ref q_a0_low, .ref q_a0_high])), (q_a0_low, .inl (cJ, 1415, .inr (.inl (vp_updL a0_low_30_4 l4_30_4.toNatClampNeg r_21)))), (q_a0_high, .inl (cJ, 1415, .inr (.inl a0_high_30_4)))]) (w1 := []) hP hD [] [0, 1, 2] rfl rfl (by decide) (by decide) hk1 hFc hP1 hD1
          generalize H1 = H at hP hS ⊢
          have hP : va_P (dC, dI) vwCl [(h_a0, .inr (2, [.ref q_a0_low, .ref q_a0_high])), (q_a0_low, .inl (cJ, 1415, .inr (.inl (vp_updL a0_low_30_4 l4_30_4.toNatClampNeg r_21)))), (q_a0_high, .inl (cJ, 1415, .inr (.inl a0_high_30_4)))] H := hP
          have hD : va_D A [(h_a0, .inr (2, [.ref q_a0_low, .ref q_a0_high])), (q_a0_low, .inl (cJ, 1415, .inr (.inl (vp_updL a0_low_30_4 l4_30_4.toNatClampNeg r_21)))), (q_a0_high, .inl (cJ, 1415, .inr (.inl a0_high_30_4)))] := hD
          obtain ⟨hin_25, h⟩ := h
          refine va_last hx hb hK hP hD hS 2 1 rfl rfl hin_25 dX2_total_65 (fun H locs hP hD hS => ?_)
          have hP : va_P (dC, dI) vwCl [(h_a0, .inr (2, [.ref q_a0_low, .ref q_a0_high])), (q_a0_low, .inl (cJ, 1415, .inr (.inl (vp_updL a0_low_30_4 l4_30_4.toNatClampNeg r_21)))), (q_a0_high, .inl (cJ, 1415, .inr (.inl (vp_updL a0_high_30_4 l4_30_4.toNatClampNeg r_24))))] H := hP
          have hD : va_D A [(h_a0, .inr (2, [.ref q_a0_low, .ref q_a0_high])), (q_a0_low, .inl (cJ, 1415, .inr (.inl (vp_updL a0_low_30_4 l4_30_4.toNatClampNeg r_21)))), (q_a0_high, .inl (cJ, 1415, .inr (.inl (vp_updL a0_high_30_4 l4_30_4.toNatClampNeg r_24))))] := hD
          obtain ⟨x4_26, e_x4_26⟩ : ∃ y : Int32, y = l4_30_4 + (1 : Int32) := ⟨_, rfl⟩
          replace h := h x4_26 e_x4_26
          refine lv_iinc (v := x4_26) (lv' := [(4, .int x4_26), (3, .int x3_3), (0, .ref h_a0), (1, .int p1), (2, .int p2)]) hx hb dX2_total_66 hl (k := 0) rfl (by rw [e_x4_26]; rfl) (by decide) rfl (fun ls hl => ?_)
          refine lv_goto (tgt := 30) hx hb dX2_total_69 (by decide) ?_
          exact ih_30_4 x4_26 (vp_updL a0_low_30_4 l4_30_4.toNatClampNeg r_21) (vp_updL a0_high_30_4 l4_30_4.toNatClampNeg r_24) (Nat.lt_of_lt_of_le h.2 (Nat.le_of_lt_succ hm_30_4)) h.1 _ _ _ (lv_sub hl [0, 1, 2, 3, 4] rfl) (hP.sub [0, 1, 2] rfl) (hD.sub [0, 1, 2] (by decide) rfl) hS
    exact key_30_4 _ (1 : Int32) (vp_updL a0_low (0 : Int32).toNatClampNeg (0 : Int64)) a0_high (Nat.lt_succ_self _) h0_30_4 _ _ _ (lv_sub hl [0, 1, 2, 3, 4] rfl) (hP.sub [0, 1, 2] rfl) (hD.sub [0, 1, 2] (by decide) rfl) hS
  · replace h := h.2 c_1
    refine lv_lconst (v := (0 : Int64)) hx hb dX2_total_5 (by decide) ?_
    have hP9 := hP.sub (ws' := [(h_a0, .inr (2, [.ref q_a0_low, .ref q_a0_high])), (q_a0_low, .inl (cJ, 1415, .inr (.inl a0_low))), (q_a0_high, .inl (cJ, 1415, .inr (.inl a0_high)))]) [0, 1, 2] rfl
    have hD9 := hD.sub (ws' := [(h_a0, .inr (2, [.ref q_a0_low, .ref q_a0_high])), (q_a0_low, .inl (cJ, 1415, .inr (.inl a0_low))), (q_a0_high, .inl (cJ, 1415, .inr (.inl a0_high)))]) [0, 1, 2] (by decide) rfl
    exact W.lret (v := (0 : Int64)) hx hb hr (fun t ht hW => ⟨⟨_, (a0_low, a0_high), rfl, h, by rw [ht]; exact hP9, hD9⟩, hS.F ht⟩) hS.2.2 dX2_total_6

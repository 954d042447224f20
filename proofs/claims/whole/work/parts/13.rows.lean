def wp_X5_init   (Q : (Nat → Int64) → Int32 → Prop) : Prop :=
  Q (fun _ => 0) (0 : Int32)
abbrev rm_X5_init : Room := { frames := 1, cells := 1, slots := 9600, locals := 20 }
abbrev qc_X5_init (dC : Nat → ClassId) (dI : Nat → Nat → Nat) (cI cJ cZ : ClassId) (h_a0 : Nat) (Q : (Nat → Int64) → Int32 → Prop) (A : Nat → Prop) : Array Value → State → Outcome → State → Prop := va_Qv (fun (u : Nat × (Nat → Int64) × Int32) => Q u.2.1 u.2.2) (post_ dC dI A (fun (u : Nat × (Nat → Int64) × Int32) => [(h_a0, .inr (5, [.ref u.1, .int u.2.2])), (u.1, .inl (cJ, 9600, .inr (.inl (u.2.1))))])) A
set_option maxHeartbeats 4000000 in
set_option maxRecDepth 100000 in
theorem c_X5_init (l : Launch) (dC : Nat → ClassId) (dI : Nat → Nat → Nat) (cI cJ cZ : ClassId) (sz : Nat) (h_a0 : Nat)  (Q : (Nat → Int64) → Int32 → Prop) (hQ : wp_X5_init  Q) : Met l yX5_init wsX5_init rm_X5_init (pre_ dC dI cI cJ cZ [.ref h_a0] [(h_a0, .inr (5, [.null, .int (0 : Int32)]))] sz) (qc_X5_init dC dI cI cJ cZ h_a0 Q (va_A [(h_a0, .inr (5, [.null, .int (0 : Int32)]))] sz)) 1 9600 (va_A [(h_a0, .inr (5, [.null, .int (0 : Int32)]))] sz) := by
  refine Met.ofW (cc := cX5_init) (maxL := 1) (ret := none) (by decide) rfl ?_
  intro p e s m args below meth c s₁ B hml hv
  obtain ⟨rfl, hsz, hP, hK, hN, hD0⟩ := hv
  have hx := B.exec
  have hb := B.bytes
  have hr := B.returns
  have hts := atoms_spec (ws := wsX5_init) B.pre
  have hown : s.vm.findClass RX5 = some m.cls := findClass_of_methodNamed B.named
  have hin0 : meth.name = "<init>" := (name_of_methodNamed B.named B.method).1
  subst hsz
  have hD := hD0.self (sz := s.heap.size)
  generalize hAe : va_A [(h_a0, .inr (5, [.null, .int (0 : Int32)]))] s.heap.size = A at hD ⊢
  have hA : ∀ q : Nat, s.heap.size ≤ q → A q := fun q h => by rw [← hAe]; exact Or.inr h
  have hS : va_S A s.heap s.heap [] := va_S.rf
  have hl := lv_entry ([.ref h_a0]) (n := 1) (Nat.le_of_ble_eq_true rfl)
  rw [lg_entry_eq]
  generalize (lg_sl ([.ref h_a0]) ++ List.replicate (1 - (lg_sl ([.ref h_a0])).length) Slot.unset).toArray = ls at hl ⊢
  have hl : lv_has ls 1 [(0, .ref h_a0)] := hl
  have h := hQ
  unfold wp_X5_init at h
  have hw_0 := hts (.methodLink RX5 3 objectInit) (by decide +kernel)
  have hw_1 := hts (.instanceMethod objectInit) (by decide +kernel)
  have hw_2 := hts (.code objectInit ⟨#[0xb1]⟩ 1 none) (by decide +kernel)
  have hw_3 := hts (.arrayClass .long) (by decide +kernel)
  have hw_4 := hts (.fieldLink RX5 9 "NumberSieves$Rows" "values" "[J") (by decide +kernel)
  have hin_X5 : ∀ w ∈ wsX50, w ∈ wsX5_init := by decide +kernel
  have hw_6 := hts (.fieldLink RX5 15 "NumberSieves$Rows" "many" "I") (by decide +kernel)
  refine lv_aload_n hx hb dX5_init_0 rfl (lv_at hl 0 rfl) ?_
  refine W.objInit hx hb hown hw_0 hw_1 hw_2 rfl (by rw [hml]; exact hl.1) rfl dX5_init_1 (Nat.le_of_ble_eq_true rfl) (Nat.le_of_ble_eq_true rfl) ?_
  refine W.eq (g2 := F0 m 4 ls []) rfl ?_
  refine lv_aload_n hx hb dX5_init_4 rfl (lv_at hl 0 rfl) ?_
  refine lv_sipush (v := (9600 : Int32)) hx hb dX5_init_5 (by decide) ?_
  refine va_newa (atype := .long) (ty := .long) (a0 := (9600, .inr (.inl (fun _ => 0)))) (N' := 9600) hx hb hw_3 rfl hK hP hD hS hA (fun _ => rfl) (by decide) (by decide) (by decide) (by first | exact Nat.le_refl _ | exact Nat.le_of_ble_eq_true rfl) (by first | exact Nat.le_refl _ | exact Nat.le_of_ble_eq_true rfl | exact Nat.le_of_eq (Nat.zero_add _)) dX5_init_8 (fun q_1 cA H hK9 hP hD hS => ?_)
  rw [cls_J hK9] at hP hD
  have hP : va_P (dC, dI) vwCl [(h_a0, .inr (5, [.null, .int (0 : Int32)])), (q_1, .inl (cJ, 9600, .inr (.inl (fun _ => 0))))] H := hP
  have hD : va_D A [(h_a0, .inr (5, [.null, .int (0 : Int32)])), (q_1, .inl (cJ, 9600, .inr (.inl (fun _ => 0))))] := hD
  refine W.widen (k := 1) (n := 9600) (by omega) (by omega) ?_
  refine va_putF (D := (dC, dI)) (ci := 5) (v := .ref q_1) (ty := .array .long) (C := RX5) (T := TX5) (N := 2) hx hb hts hin_X5 tyX5 tyX5_ok nmX5 hown hK hP hD hS 0 rfl rfl 0 (by decide) hw_4 (fun _ h9 => h9) rfl hin0 rfl (by decide +kernel) rfl rfl (Nat.le_of_ble_eq_true rfl) dX5_init_10 (fun H locs hP hD hS => ?_)
  have hP : va_P (dC, dI) vwCl [(h_a0, .inr (5, [.ref q_1, .int (0 : Int32)])), (q_1, .inl (cJ, 9600, .inr (.inl (fun _ => 0))))] H := hP
  have hD : va_D A [(h_a0, .inr (5, [.ref q_1, .int (0 : Int32)])), (q_1, .inl (cJ, 9600, .inr (.inl (fun _ => 0))))] := hD
  refine lv_aload_n hx hb dX5_init_13 rfl (lv_at hl 0 rfl) ?_
  refine lv_iconst (v := (0 : Int32)) hx hb dX5_init_14 (by decide) ?_
  refine va_put (D := (dC, dI)) (ci := 5) (v := .int (0 : Int32)) (ty := .int) (C := RX5) (T := TX5) (N := 2) hx hb hts hin_X5 tyX5 tyX5_ok nmX5 hown hK hP hD hS 0 rfl rfl 1 (by decide) hw_6 (fun _ h9 => h9) rfl (by decide +kernel) rfl rfl (Nat.le_of_ble_eq_true rfl) dX5_init_15 (fun H locs hP hD hS => ?_)
  have hP : va_P (dC, dI) vwCl [(h_a0, .inr (5, [.ref q_1, .int (0 : Int32)])), (q_1, .inl (cJ, 9600, .inr (.inl (fun _ => 0))))] H := hP
  have hD : va_D A [(h_a0, .inr (5, [.ref q_1, .int (0 : Int32)])), (q_1, .inl (cJ, 9600, .inr (.inl (fun _ => 0))))] := hD
  have hP9 := hP.sub (ws' := [(h_a0, .inr (5, [.ref q_1, .int (0 : Int32)])), (q_1, .inl (cJ, 9600, .inr (.inl (fun _ => 0))))]) [0, 1] rfl
  have hD9 := hD.sub (ws' := [(h_a0, .inr (5, [.ref q_1, .int (0 : Int32)])), (q_1, .inl (cJ, 9600, .inr (.inl (fun _ => 0))))]) [0, 1] (by decide) rfl
  exact W.vret hx hb hr (fun t ht hW => ⟨⟨(q_1, (fun _ => 0), (0 : Int32)), rfl, h, by rw [ht]; exact hP9, hD9⟩, hS.F ht⟩) hS.2.2 dX5_init_18
def wp_X5_isPlace  (p0 : Int32) (p1 : Int32) (Q : Int32 → Prop) : Prop :=
  ((p0 < (0 : Int32) → Q (0 : Int32)) ∧ (¬ p0 < (0 : Int32) → (((16 : Int32) ≤ p0 → Q (0 : Int32)) ∧ (¬ (16 : Int32) ≤ p0 → ((p1 < (1 : Int32) → Q (0 : Int32)) ∧ (¬ p1 < (1 : Int32) → (((600 : Int32) < p1 → Q (0 : Int32)) ∧ (¬ (600 : Int32) < p1 → Q (1 : Int32)))))))))
abbrev rm_X5_isPlace : Room := { frames := 0, cells := 0, slots := 0, locals := 0 }
abbrev qc_X5_isPlace (dC : Nat → ClassId) (dI : Nat → Nat → Nat) (cI cJ cZ : ClassId)  (Q : Int32 → Prop) (A : Nat → Prop) : Array Value → State → Outcome → State → Prop := va_Qi (fun (r : Int32) (_ : Unit) => Q r) (post_ dC dI A (fun (_ : Unit) => ([] : va_W))) A
set_option maxHeartbeats 4000000 in
set_option maxRecDepth 100000 in
theorem c_X5_isPlace (l : Launch) (dC : Nat → ClassId) (dI : Nat → Nat → Nat) (cI cJ cZ : ClassId) (sz : Nat)  (p0 : Int32) (p1 : Int32) (Q : Int32 → Prop) (hQ : wp_X5_isPlace p0 p1 Q) : Met l yX5_isPlace wsX5_isPlace rm_X5_isPlace (pre_ dC dI cI cJ cZ [.int p0, .int p1] ([] : va_W) sz) (qc_X5_isPlace dC dI cI cJ cZ Q (va_A ([] : va_W) sz)) 0 0 (va_A ([] : va_W) sz) := by
  refine Met.ofW (cc := cX5_isPlace) (maxL := 2) (ret := (some .boolean)) (by decide) rfl ?_
  intro p e s m args below meth c s₁ B hml hv
  obtain ⟨rfl, hsz, hP, hK, hN, hD0⟩ := hv
  have hx := B.exec
  have hb := B.bytes
  have hr := B.returns
  have hts := atoms_spec (ws := wsX5_isPlace) B.pre
  have hown : s.vm.findClass RX5 = some m.cls := findClass_of_methodNamed B.named
  subst hsz
  have hD := hD0.self (sz := s.heap.size)
  generalize hAe : va_A ([] : va_W) s.heap.size = A at hD ⊢
  have hA : ∀ q : Nat, s.heap.size ≤ q → A q := fun q h => by rw [← hAe]; exact Or.inr h
  have hS : va_S A s.heap s.heap [] := va_S.rf
  have hl := lv_entry ([.int p0, .int p1]) (n := 2) (Nat.le_of_ble_eq_true rfl)
  rw [lg_entry_eq]
  generalize (lg_sl ([.int p0, .int p1]) ++ List.replicate (2 - (lg_sl ([.int p0, .int p1])).length) Slot.unset).toArray = ls at hl ⊢
  have hl : lv_has ls 2 [(0, .int p0), (1, .int p1)] := hl
  have h := hQ
  unfold wp_X5_isPlace at h
  refine lv_iload_n hx hb dX5_isPlace_0 rfl (lv_at hl 0 rfl) ?_
  refine lv_if_lt (tgt := 26) hx hb dX5_isPlace_1 (by decide) (fun c_1 => ?_) (fun c_1 => ?_)
  · replace h := h.1 c_1
    refine lv_iconst (v := (0 : Int32)) hx hb dX5_isPlace_26 (by decide) ?_
    have hP9 := hP.sub (ws' := []) [] rfl
    have hD9 := hD.sub (ws' := []) [] (by decide) rfl
    exact W.zret (v := (0 : Int32)) hx hb hr (by decide) (fun t ht hW => ⟨⟨_, (), rfl, h, by rw [ht]; exact hP9, hD9⟩, hS.F ht⟩) hS.2.2 dX5_isPlace_27
  · replace h := h.2 c_1
    refine lv_iload_n hx hb dX5_isPlace_4 rfl (lv_at hl 0 rfl) ?_
    refine lv_bipush (v := (16 : Int32)) hx hb dX5_isPlace_5 (by decide) ?_
    refine lv_icmp_ge (tgt := 26) hx hb dX5_isPlace_7 (by decide) (fun c_2 => ?_) (fun c_2 => ?_)
    · replace h := h.1 c_2
      refine lv_iconst (v := (0 : Int32)) hx hb dX5_isPlace_26 (by decide) ?_
      have hP9 := hP.sub (ws' := []) [] rfl
      have hD9 := hD.sub (ws' := []) [] (by decide) rfl
      exact W.zret (v := (0 : Int32)) hx hb hr (by decide) (fun t ht hW => ⟨⟨_, (), rfl, h, by rw [ht]; exact hP9, hD9⟩, hS.F ht⟩) hS.2.2 dX5_isPlace_27
    · replace h := h.2 c_2
      refine lv_iload_n hx hb dX5_isPlace_10 rfl (lv_at hl 1 rfl) ?_
      refine lv_iconst (v := (1 : Int32)) hx hb dX5_isPlace_11 (by decide) ?_
      refine lv_icmp_lt (tgt := 26) hx hb dX5_isPlace_12 (by decide) (fun c_3 => ?_) (fun c_3 => ?_)
      · replace h := h.1 c_3
        refine lv_iconst (v := (0 : Int32)) hx hb dX5_isPlace_26 (by decide) ?_
        have hP9 := hP.sub (ws' := []) [] rfl
        have hD9 := hD.sub (ws' := []) [] (by decide) rfl
        exact W.zret (v := (0 : Int32)) hx hb hr (by decide) (fun t ht hW => ⟨⟨_, (), rfl, h, by rw [ht]; exact hP9, hD9⟩, hS.F ht⟩) hS.2.2 dX5_isPlace_27
      · replace h := h.2 c_3
        refine lv_iload_n hx hb dX5_isPlace_15 rfl (lv_at hl 1 rfl) ?_
        refine lv_sipush (v := (600 : Int32)) hx hb dX5_isPlace_16 (by decide) ?_
        refine lv_icmp_gt (tgt := 26) hx hb dX5_isPlace_19 (by decide) (fun c_4 => ?_) (fun c_4 => ?_)
        · replace h := h.1 c_4
          refine lv_iconst (v := (0 : Int32)) hx hb dX5_isPlace_26 (by decide) ?_
          have hP9 := hP.sub (ws' := []) [] rfl
          have hD9 := hD.sub (ws' := []) [] (by decide) rfl
          exact W.zret (v := (0 : Int32)) hx hb hr (by decide) (fun t ht hW => ⟨⟨_, (), rfl, h, by rw [ht]; exact hP9, hD9⟩, hS.F ht⟩) hS.2.2 dX5_isPlace_27
        · replace h := h.2 c_4
          refine lv_iconst (v := (1 : Int32)) hx hb dX5_isPlace_22 (by decide) ?_
          refine lv_goto (tgt := 27) hx hb dX5_isPlace_23 (by decide) ?_
          have hP9 := hP.sub (ws' := []) [] rfl
          have hD9 := hD.sub (ws' := []) [] (by decide) rfl
          exact W.zret (v := (1 : Int32)) hx hb hr (by decide) (fun t ht hW => ⟨⟨_, (), rfl, h, by rw [ht]; exact hP9, hD9⟩, hS.F ht⟩) hS.2.2 dX5_isPlace_27
def wp_X5_look (a0_values : Nat → Int64) (p1 : Int32) (p2 : Int32) (Q : Int64 → Prop) : Prop :=
  wp_X5_isPlace p1 p2 (fun r_1 => ((r_1 = (0 : Int32) → Q (0 : Int64)) ∧ (¬ r_1 = (0 : Int32) → (vp_in (((p1 * (600 : Int32)) + p2) - (1 : Int32)) 9600 ∧ Q (a0_values (((p1 * (600 : Int32)) + p2) - (1 : Int32)).toNatClampNeg)))))
abbrev rm_X5_look : Room := { frames := 1, cells := 0, slots := 0, locals := 21 }
abbrev qc_X5_look (dC : Nat → ClassId) (dI : Nat → Nat → Nat) (cI cJ cZ : ClassId) (h_a0 : Nat) (a0_values : Nat → Int64) (q_a0_values : Nat) (a0_many : Int32) (Q : Int64 → Prop) (A : Nat → Prop) : Array Value → State → Outcome → State → Prop := va_Ql (fun (r : Int64) (_ : Unit) => Q r) (post_ dC dI A (fun (u : Unit) => [(h_a0, .inr (5, [.ref q_a0_values, .int a0_many])), (q_a0_values, .inl (cJ, 9600, .inr (.inl a0_values)))])) A
set_option maxHeartbeats 4000000 in
set_option maxRecDepth 100000 in
theorem c_X5_look (l : Launch) (dC : Nat → ClassId) (dI : Nat → Nat → Nat) (cI cJ cZ : ClassId) (sz : Nat) (h_a0 : Nat) (a0_values : Nat → Int64) (q_a0_values : Nat) (a0_many : Int32) (p1 : Int32) (p2 : Int32) (Q : Int64 → Prop) (hQ : wp_X5_look a0_values p1 p2 Q) : Met l yX5_look wsX5_look rm_X5_look (pre_ dC dI cI cJ cZ [.ref h_a0, .int p1, .int p2] [(h_a0, .inr (5, [.ref q_a0_values, .int a0_many])), (q_a0_values, .inl (cJ, 9600, .inr (.inl a0_values)))] sz) (qc_X5_look dC dI cI cJ cZ h_a0 a0_values q_a0_values a0_many Q (va_A [(h_a0, .inr (5, [.ref q_a0_values, .int a0_many])), (q_a0_values, .inl (cJ, 9600, .inr (.inl a0_values)))] sz)) 0 0 (va_A [(h_a0, .inr (5, [.ref q_a0_values, .int a0_many])), (q_a0_values, .inl (cJ, 9600, .inr (.inl a0_values)))] sz) := by
  refine Met.ofW (cc := cX5_look) (maxL := 3) (ret := (some .long)) (by decide) rfl ?_
  intro p e s m args below meth c s₁ B hml hv
  obtain ⟨rfl, hsz, hP, hK, hN, hD0⟩ := hv
  have hx := B.exec
  have hb := B.bytes
  have hr := B.returns
  have hts := atoms_spec (ws := wsX5_look) B.pre
  have hown : s.vm.findClass RX5 = some m.cls := findClass_of_methodNamed B.named
  subst hsz
  have hD := hD0.self (sz := s.heap.size)
  generalize hAe : va_A [(h_a0, .inr (5, [.ref q_a0_values, .int a0_many])), (q_a0_values, .inl (cJ, 9600, .inr (.inl a0_values)))] s.heap.size = A at hD ⊢
  have hA : ∀ q : Nat, s.heap.size ≤ q → A q := fun q h => by rw [← hAe]; exact Or.inr h
  have hS : va_S A s.heap s.heap [] := va_S.rf
  have hl := lv_entry ([.ref h_a0, .int p1, .int p2]) (n := 3) (Nat.le_of_ble_eq_true rfl)
  rw [lg_entry_eq]
  generalize (lg_sl ([.ref h_a0, .int p1, .int p2]) ++ List.replicate (3 - (lg_sl ([.ref h_a0, .int p1, .int p2])).length) Slot.unset).toArray = ls at hl ⊢
  have hl : lv_has ls 3 [(0, .ref h_a0), (1, .int p1), (2, .int p2)] := hl
  have h := hQ
  unfold wp_X5_look at h
  have hw_0 := hts (.fieldLink RX5 9 "NumberSieves$Rows" "values" "[J") (by decide +kernel)
  have hin_X5 : ∀ w ∈ wsX50, w ∈ wsX5_look := by decide +kernel
  refine lv_iload_n hx hb dX5_look_0 rfl (lv_at hl 1 rfl) ?_
  refine lv_iload_n hx hb dX5_look_1 rfl (lv_at hl 2 rfl) ?_
  have hPc := hP.sub (ws' := []) [] rfl
  have hDc := hD.sub (ws' := []) [] (by decide) rfl
  have hFc := va_free (wc := []) hD hS hA [] rfl
  refine va_calli (va_runS (As := [.int p1, .int p2]) (rest := []) ⟨hx, hb, hml, hown, hts⟩ (c_X5_isPlace l dC dI cI cJ cZ _ p1 p2 _ h) (va_cwS 2 hts gX5_look_X5_isPlace rfl rfl rfl (by decide +kernel) ⟨Nat.le_of_ble_eq_true rfl, Nat.le_of_ble_eq_true rfl⟩) ⟨pre_fb, pre_of hPc hDc hK hN⟩ rfl rfl hl.1 rfl (lv_room (Nat.le_of_ble_eq_true rfl)) dX5_look_2 ⟨by first | exact Nat.le_of_ble_eq_true rfl | exact Nat.le_refl _, by first | exact Nat.le_of_ble_eq_true rfl | exact Nat.le_refl _⟩) hS (fun q _ h => hFc q h) hFc (fun r_1 u t H1 locs ht hvm h hB hz1 hk1 hS => ?_)
  obtain ⟨hP1, hD1⟩ := hB
  rw [ht] at hP1
  try dsimp only at h
  obtain ⟨hP, hD⟩ := va_join (wr := [(h_a0, .inr (5, [.ref q_a0_values, .int a0_many])), (q_a0_values, .inl (cJ, 9600, .inr (.inl a0_values)))]) (w1 := []) hP hD [] [0, 1] rfl rfl (by decide) (by decide) hk1 hFc hP1 hD1
  generalize H1 = H at hP hS ⊢
  have hP : va_P (dC, dI) vwCl [(h_a0, .inr (5, [.ref q_a0_values, .int a0_many])), (q_a0_values, .inl (cJ, 9600, .inr (.inl a0_values)))] H := hP
  have hD : va_D A [(h_a0, .inr (5, [.ref q_a0_values, .int a0_many])), (q_a0_values, .inl (cJ, 9600, .inr (.inl a0_values)))] := hD
  refine lv_if_eq (tgt := 25) hx hb dX5_look_5 (by decide) (fun c_2 => ?_) (fun c_2 => ?_)
  · replace h := h.1 c_2
    refine lv_lconst (v := (0 : Int64)) hx hb dX5_look_25 (by decide) ?_
    have hP9 := hP.sub (ws' := [(h_a0, .inr (5, [.ref q_a0_values, .int a0_many])), (q_a0_values, .inl (cJ, 9600, .inr (.inl a0_values)))]) [0, 1] rfl
    have hD9 := hD.sub (ws' := [(h_a0, .inr (5, [.ref q_a0_values, .int a0_many])), (q_a0_values, .inl (cJ, 9600, .inr (.inl a0_values)))]) [0, 1] (by decide) rfl
    exact W.lret (v := (0 : Int64)) hx hb hr (fun t ht hW => ⟨⟨_, (), rfl, h, by rw [ht]; exact hP9, hD9⟩, hS.F ht⟩) hS.2.2 dX5_look_26
  · replace h := h.2 c_2
    refine lv_aload_n hx hb dX5_look_8 rfl (lv_at hl 0 rfl) ?_
    refine va_get (D := (dC, dI)) (ci := 5) (v := .ref q_a0_values) (C := RX5) (T := TX5) (N := 2) hx hb hts hin_X5 hown hK hP 0 rfl rfl 0 (by decide) hw_0 (fun _ h9 => h9) rfl dX5_look_9 ?_
    refine lv_iload_n hx hb dX5_look_12 rfl (lv_at hl 1 rfl) ?_
    refine lv_sipush (v := (600 : Int32)) hx hb dX5_look_13 (by decide) ?_
    refine lv_imul hx hb dX5_look_16 ?_
    refine lv_iload_n hx hb dX5_look_17 rfl (lv_at hl 2 rfl) ?_
    refine lv_iadd hx hb dX5_look_18 ?_
    refine lv_iconst (v := (1 : Int32)) hx hb dX5_look_19 (by decide) ?_
    refine lv_isub hx hb dX5_look_20 ?_
    obtain ⟨hin_3, h⟩ := h
    refine va_lald hx hb hK hP 1 1 rfl rfl hin_3 dX5_look_21 ?_
    refine lv_goto (tgt := 26) hx hb dX5_look_22 (by decide) ?_
    have hP9 := hP.sub (ws' := [(h_a0, .inr (5, [.ref q_a0_values, .int a0_many])), (q_a0_values, .inl (cJ, 9600, .inr (.inl a0_values)))]) [0, 1] rfl
    have hD9 := hD.sub (ws' := [(h_a0, .inr (5, [.ref q_a0_values, .int a0_many])), (q_a0_values, .inl (cJ, 9600, .inr (.inl a0_values)))]) [0, 1] (by decide) rfl
    exact W.lret (v := (a0_values (((p1 * (600 : Int32)) + p2) - (1 : Int32)).toNatClampNeg)) hx hb hr (fun t ht hW => ⟨⟨_, (), rfl, h, by rw [ht]; exact hP9, hD9⟩, hS.F ht⟩) hS.2.2 dX5_look_26
def wp_X5_put (a0_values : Nat → Int64) (p1 : Int32) (p2 : Int32) (p3 : Int64) (Q : (Nat → Int64) → Prop) : Prop :=
  wp_X5_isPlace p1 p2 (fun r_1 => ((r_1 = (0 : Int32) → Q a0_values) ∧ (¬ r_1 = (0 : Int32) → (vp_in (((p1 * (600 : Int32)) + p2) - (1 : Int32)) 9600 ∧ Q (vp_updL a0_values (((p1 * (600 : Int32)) + p2) - (1 : Int32)).toNatClampNeg p3)))))
abbrev rm_X5_put : Room := { frames := 1, cells := 0, slots := 0, locals := 21 }
abbrev qc_X5_put (dC : Nat → ClassId) (dI : Nat → Nat → Nat) (cI cJ cZ : ClassId) (h_a0 : Nat) (a0_values : Nat → Int64) (q_a0_values : Nat) (a0_many : Int32) (Q : (Nat → Int64) → Prop) (A : Nat → Prop) : Array Value → State → Outcome → State → Prop := va_Qv (fun (u : (Nat → Int64)) => Q u) (post_ dC dI A (fun (u : (Nat → Int64)) => [(h_a0, .inr (5, [.ref q_a0_values, .int a0_many])), (q_a0_values, .inl (cJ, 9600, .inr (.inl u)))])) A
set_option maxHeartbeats 4000000 in
set_option maxRecDepth 100000 in
theorem c_X5_put (l : Launch) (dC : Nat → ClassId) (dI : Nat → Nat → Nat) (cI cJ cZ : ClassId) (sz : Nat) (h_a0 : Nat) (a0_values : Nat → Int64) (q_a0_values : Nat) (a0_many : Int32) (p1 : Int32) (p2 : Int32) (p3 : Int64) (Q : (Nat → Int64) → Prop) (hQ : wp_X5_put a0_values p1 p2 p3 Q) : Met l yX5_put wsX5_put rm_X5_put (pre_ dC dI cI cJ cZ [.ref h_a0, .int p1, .int p2, .long p3] [(h_a0, .inr (5, [.ref q_a0_values, .int a0_many])), (q_a0_values, .inl (cJ, 9600, .inr (.inl a0_values)))] sz) (qc_X5_put dC dI cI cJ cZ h_a0 a0_values q_a0_values a0_many Q (va_A [(h_a0, .inr (5, [.ref q_a0_values, .int a0_many])), (q_a0_values, .inl (cJ, 9600, .inr (.inl a0_values)))] sz)) 0 0 (va_A [(h_a0, .inr (5, [.ref q_a0_values, .int a0_many])), (q_a0_values, .inl (cJ, 9600, .inr (.inl a0_values)))] sz) := by
  refine Met.ofW (cc := cX5_put) (maxL := 5) (ret := none) (by decide) rfl ?_
  intro p e s m args below meth c s₁ B hml hv
  obtain ⟨rfl, hsz, hP, hK, hN, hD0⟩ := hv
  have hx := B.exec
  have hb := B.bytes
  have hr := B.returns
  have hts := atoms_spec (ws := wsX5_put) B.pre
  have hown : s.vm.findClass RX5 = some m.cls := findClass_of_methodNamed B.named
  subst hsz
  have hD := hD0.self (sz := s.heap.size)
  generalize hAe : va_A [(h_a0, .inr (5, [.ref q_a0_values, .int a0_many])), (q_a0_values, .inl (cJ, 9600, .inr (.inl a0_values)))] s.heap.size = A at hD ⊢
  have hA : ∀ q : Nat, s.heap.size ≤ q → A q := fun q h => by rw [← hAe]; exact Or.inr h
  have hS : va_S A s.heap s.heap [] := va_S.rf
  have hl := lv_entry ([.ref h_a0, .int p1, .int p2, .long p3]) (n := 5) (Nat.le_of_ble_eq_true rfl)
  rw [lg_entry_eq]
  generalize (lg_sl ([.ref h_a0, .int p1, .int p2, .long p3]) ++ List.replicate (5 - (lg_sl ([.ref h_a0, .int p1, .int p2, .long p3])).length) Slot.unset).toArray = ls at hl ⊢
  have hl : lv_has ls 5 [(0, .ref h_a0), (1, .int p1), (2, .int p2), (3, .long p3)] := hl
  have h := hQ
  unfold wp_X5_put at h
  have hw_0 := hts (.fieldLink RX5 9 "NumberSieves$Rows" "values" "[J") (by decide +kernel)
  have hin_X5 : ∀ w ∈ wsX50, w ∈ wsX5_put := by decide +kernel
  refine lv_iload_n hx hb dX5_put_0 rfl (lv_at hl 1 rfl) ?_
  refine lv_iload_n hx hb dX5_put_1 rfl (lv_at hl 2 rfl) ?_
  have hPc := hP.sub (ws' := []) [] rfl
  have hDc := hD.sub (ws' := []) [] (by decide) rfl
  have hFc := va_free (wc := []) hD hS hA [] rfl
  refine va_calli (va_runS (As := [.int p1, .int p2]) (rest := []) ⟨hx, hb, hml, hown, hts⟩ (c_X5_isPlace l dC dI cI cJ cZ _ p1 p2 _ h) (va_cwS 2 hts gX5_put_X5_isPlace rfl rfl rfl (by decide +kernel) ⟨Nat.le_of_ble_eq_true rfl, Nat.le_of_ble_eq_true rfl⟩) ⟨pre_fb, pre_of hPc hDc hK hN⟩ rfl rfl hl.1 rfl (lv_room (Nat.le_of_ble_eq_true rfl)) dX5_put_2 ⟨by first | exact Nat.le_of_ble_eq_true rfl | exact Nat.le_refl _, by first | exact Nat.le_of_ble_eq_true rfl | exact Nat.le_refl _⟩) hS (fun q _ h => hFc q h) hFc (fun r_1 u t H1 locs ht hvm h hB hz1 hk1 hS => ?_)
  obtain ⟨hP1, hD1⟩ := hB
  rw [ht] at hP1
  try dsimp only at h
  obtain ⟨hP, hD⟩ := va_join (wr := [(h_a0, .inr (5, [.ref q_a0_values, .int a0_many])), (q_a0_values, .inl (cJ, 9600, .inr (.inl a0_values)))]) (w1 := []) hP hD [] [0, 1] rfl rfl (by decide) (by decide) hk1 hFc hP1 hD1
  generalize H1 = H at hP hS ⊢
  have hP : va_P (dC, dI) vwCl [(h_a0, .inr (5, [.ref q_a0_values, .int a0_many])), (q_a0_values, .inl (cJ, 9600, .inr (.inl a0_values)))] H := hP
  have hD : va_D A [(h_a0, .inr (5, [.ref q_a0_values, .int a0_many])), (q_a0_values, .inl (cJ, 9600, .inr (.inl a0_values)))] := hD
  refine lv_if_eq (tgt := 23) hx hb dX5_put_5 (by decide) (fun c_2 => ?_) (fun c_2 => ?_)
  · replace h := h.1 c_2
    have hP9 := hP.sub (ws' := [(h_a0, .inr (5, [.ref q_a0_values, .int a0_many])), (q_a0_values, .inl (cJ, 9600, .inr (.inl a0_values)))]) [0, 1] rfl
    have hD9 := hD.sub (ws' := [(h_a0, .inr (5, [.ref q_a0_values, .int a0_many])), (q_a0_values, .inl (cJ, 9600, .inr (.inl a0_values)))]) [0, 1] (by decide) rfl
    exact W.vret hx hb hr (fun t ht hW => ⟨⟨a0_values, rfl, h, by rw [ht]; exact hP9, hD9⟩, hS.F ht⟩) hS.2.2 dX5_put_23
  · replace h := h.2 c_2
    refine lv_aload_n hx hb dX5_put_8 rfl (lv_at hl 0 rfl) ?_
    refine va_get (D := (dC, dI)) (ci := 5) (v := .ref q_a0_values) (C := RX5) (T := TX5) (N := 2) hx hb hts hin_X5 hown hK hP 0 rfl rfl 0 (by decide) hw_0 (fun _ h9 => h9) rfl dX5_put_9 ?_
    refine lv_iload_n hx hb dX5_put_12 rfl (lv_at hl 1 rfl) ?_
    refine lv_sipush (v := (600 : Int32)) hx hb dX5_put_13 (by decide) ?_
    refine lv_imul hx hb dX5_put_16 ?_
    refine lv_iload_n hx hb dX5_put_17 rfl (lv_at hl 2 rfl) ?_
    refine lv_iadd hx hb dX5_put_18 ?_
    refine lv_iconst (v := (1 : Int32)) hx hb dX5_put_19 (by decide) ?_
    refine lv_isub hx hb dX5_put_20 ?_
    refine lv_lload_n hx hb dX5_put_21 rfl (lv_at hl 3 rfl) ?_
    obtain ⟨hin_3, h⟩ := h
    refine va_last hx hb hK hP hD hS 1 1 rfl rfl hin_3 dX5_put_22 (fun H locs hP hD hS => ?_)
    have hP : va_P (dC, dI) vwCl [(h_a0, .inr (5, [.ref q_a0_values, .int a0_many])), (q_a0_values, .inl (cJ, 9600, .inr (.inl (vp_updL a0_values (((p1 * (600 : Int32)) + p2) - (1 : Int32)).toNatClampNeg p3))))] H := hP
    have hD : va_D A [(h_a0, .inr (5, [.ref q_a0_values, .int a0_many])), (q_a0_values, .inl (cJ, 9600, .inr (.inl (vp_updL a0_values (((p1 * (600 : Int32)) + p2) - (1 : Int32)).toNatClampNeg p3))))] := hD
    have hP9 := hP.sub (ws' := [(h_a0, .inr (5, [.ref q_a0_values, .int a0_many])), (q_a0_values, .inl (cJ, 9600, .inr (.inl (vp_updL a0_values (((p1 * (600 : Int32)) + p2) - (1 : Int32)).toNatClampNeg p3))))]) [0, 1] rfl
    have hD9 := hD.sub (ws' := [(h_a0, .inr (5, [.ref q_a0_values, .int a0_many])), (q_a0_values, .inl (cJ, 9600, .inr (.inl (vp_updL a0_values (((p1 * (600 : Int32)) + p2) - (1 : Int32)).toNatClampNeg p3))))]) [0, 1] (by decide) rfl
    exact W.vret hx hb hr (fun t ht hW => ⟨⟨(vp_updL a0_values (((p1 * (600 : Int32)) + p2) - (1 : Int32)).toNatClampNeg p3), rfl, h, by rw [ht]; exact hP9, hD9⟩, hS.F ht⟩) hS.2.2 dX5_put_23
def wp_X5_increase (a0_values : Nat → Int64) (p1 : Int32) (p2 : Int32) (p3 : Int64) (Q : (Nat → Int64) → Prop) : Prop :=
  wp_X5_look a0_values p1 p2 (fun r_1 => wp_X5_put a0_values p1 p2 (r_1 + p3) (fun o_2 => Q o_2))
abbrev rm_X5_increase : Room := { frames := 2, cells := 0, slots := 0, locals := 45 }
abbrev qc_X5_increase (dC : Nat → ClassId) (dI : Nat → Nat → Nat) (cI cJ cZ : ClassId) (h_a0 : Nat) (a0_values : Nat → Int64) (q_a0_values : Nat) (a0_many : Int32) (Q : (Nat → Int64) → Prop) (A : Nat → Prop) : Array Value → State → Outcome → State → Prop := va_Qv (fun (u : (Nat → Int64)) => Q u) (post_ dC dI A (fun (u : (Nat → Int64)) => [(h_a0, .inr (5, [.ref q_a0_values, .int a0_many])), (q_a0_values, .inl (cJ, 9600, .inr (.inl u)))])) A
set_option maxHeartbeats 4000000 in
set_option maxRecDepth 100000 in
theorem c_X5_increase (l : Launch) (dC : Nat → ClassId) (dI : Nat → Nat → Nat) (cI cJ cZ : ClassId) (sz : Nat) (h_a0 : Nat) (a0_values : Nat → Int64) (q_a0_values : Nat) (a0_many : Int32) (p1 : Int32) (p2 : Int32) (p3 : Int64) (Q : (Nat → Int64) → Prop) (hQ : wp_X5_increase a0_values p1 p2 p3 Q) : Met l yX5_increase wsX5_increase rm_X5_increase (pre_ dC dI cI cJ cZ [.ref h_a0, .int p1, .int p2, .long p3] [(h_a0, .inr (5, [.ref q_a0_values, .int a0_many])), (q_a0_values, .inl (cJ, 9600, .inr (.inl a0_values)))] sz) (qc_X5_increase dC dI cI cJ cZ h_a0 a0_values q_a0_values a0_many Q (va_A [(h_a0, .inr (5, [.ref q_a0_values, .int a0_many])), (q_a0_values, .inl (cJ, 9600, .inr (.inl a0_values)))] sz)) 0 0 (va_A [(h_a0, .inr (5, [.ref q_a0_values, .int a0_many])), (q_a0_values, .inl (cJ, 9600, .inr (.inl a0_values)))] sz) := by
  refine Met.ofW (cc := cX5_increase) (maxL := 5) (ret := none) (by decide) rfl ?_
  intro p e s m args below meth c s₁ B hml hv
  obtain ⟨rfl, hsz, hP, hK, hN, hD0⟩ := hv
  have hx := B.exec
  have hb := B.bytes
  have hr := B.returns
  have hts := atoms_spec (ws := wsX5_increase) B.pre
  have hown : s.vm.findClass RX5 = some m.cls := findClass_of_methodNamed B.named
  subst hsz
  have hD := hD0.self (sz := s.heap.size)
  generalize hAe : va_A [(h_a0, .inr (5, [.ref q_a0_values, .int a0_many])), (q_a0_values, .inl (cJ, 9600, .inr (.inl a0_values)))] s.heap.size = A at hD ⊢
  have hA : ∀ q : Nat, s.heap.size ≤ q → A q := fun q h => by rw [← hAe]; exact Or.inr h
  have hS : va_S A s.heap s.heap [] := va_S.rf
  have hl := lv_entry ([.ref h_a0, .int p1, .int p2, .long p3]) (n := 5) (Nat.le_of_ble_eq_true rfl)
  rw [lg_entry_eq]
  generalize (lg_sl ([.ref h_a0, .int p1, .int p2, .long p3]) ++ List.replicate (5 - (lg_sl ([.ref h_a0, .int p1, .int p2, .long p3])).length) Slot.unset).toArray = ls at hl ⊢
  have hl : lv_has ls 5 [(0, .ref h_a0), (1, .int p1), (2, .int p2), (3, .long p3)] := hl
  have h := hQ
  unfold wp_X5_increase at h
  refine lv_aload_n hx hb dX5_increase_0 rfl (lv_at hl 0 rfl) ?_
  refine lv_iload_n hx hb dX5_increase_1 rfl (lv_at hl 1 rfl) ?_
  refine lv_iload_n hx hb dX5_increase_2 rfl (lv_at hl 2 rfl) ?_
  refine lv_aload_n hx hb dX5_increase_3 rfl (lv_at hl 0 rfl) ?_
  refine lv_iload_n hx hb dX5_increase_4 rfl (lv_at hl 1 rfl) ?_
  refine lv_iload_n hx hb dX5_increase_5 rfl (lv_at hl 2 rfl) ?_
  have hPc := hP.sub (ws' := [(h_a0, .inr (5, [.ref q_a0_values, .int a0_many])), (q_a0_values, .inl (cJ, 9600, .inr (.inl a0_values)))]) [0, 1] rfl
  have hDc := hD.sub (ws' := [(h_a0, .inr (5, [.ref q_a0_values, .int a0_many])), (q_a0_values, .inl (cJ, 9600, .inr (.inl a0_values)))]) [0, 1] (by decide) rfl
  have hFc := va_free (wc := [(h_a0, .inr (5, [.ref q_a0_values, .int a0_many])), (q_a0_values, .inl (cJ, 9600, .inr (.inl a0_values)))]) hD hS hA [0, 1] rfl
  refine va_calll (va_runV (As := [.int p1, .int p2]) (rest := [.int p2, .int p1, .ref h_a0]) ⟨hx, hb, hml, hown, hts⟩ (c_X5_look l dC dI cI cJ cZ _ h_a0 a0_values q_a0_values a0_many p1 p2 _ h) (cwV 2 hts gX5_increase_X5_look rfl rfl rfl (by decide +kernel) ⟨Nat.le_of_ble_eq_true rfl, Nat.le_of_ble_eq_true rfl⟩) ⟨pre_fb, va_recv hK hPc (ci := 5) (q0 := 0) rfl rfl, pre_of hPc hDc hK hN⟩ rfl rfl hl.1 rfl (lv_room (Nat.le_of_ble_eq_true rfl)) dX5_increase_6 ⟨by first | exact Nat.le_of_ble_eq_true rfl | exact Nat.le_refl _, by first | exact Nat.le_of_ble_eq_true rfl | exact Nat.le_refl _⟩) hS (fun q _ h => hFc q h) hFc (fun r_1 u t H1 locs ht hvm h hB hz1 hk1 hS => ?_)
  obtain ⟨hP1, hD1⟩ := hB
  rw [ht] at hP1
  try dsimp only at h
  obtain ⟨hP, hD⟩ := va_join (wr := []) (w1 := [(h_a0, .inr (5, [.ref q_a0_values, .int a0_many])), (q_a0_values, .inl (cJ, 9600, .inr (.inl a0_values)))]) hP hD [0, 1] [] rfl rfl (by decide) (by decide) hk1 hFc hP1 hD1
  generalize H1 = H at hP hS ⊢
  have hP : va_P (dC, dI) vwCl [(h_a0, .inr (5, [.ref q_a0_values, .int a0_many])), (q_a0_values, .inl (cJ, 9600, .inr (.inl a0_values)))] H := hP
  have hD : va_D A [(h_a0, .inr (5, [.ref q_a0_values, .int a0_many])), (q_a0_values, .inl (cJ, 9600, .inr (.inl a0_values)))] := hD
  refine lv_lload_n hx hb dX5_increase_9 rfl (lv_at hl 3 rfl) ?_
  refine lv_ladd hx hb dX5_increase_10 ?_
  have hPc := hP.sub (ws' := [(h_a0, .inr (5, [.ref q_a0_values, .int a0_many])), (q_a0_values, .inl (cJ, 9600, .inr (.inl a0_values)))]) [0, 1] rfl
  have hDc := hD.sub (ws' := [(h_a0, .inr (5, [.ref q_a0_values, .int a0_many])), (q_a0_values, .inl (cJ, 9600, .inr (.inl a0_values)))]) [0, 1] (by decide) rfl
  have hFc := va_free (wc := [(h_a0, .inr (5, [.ref q_a0_values, .int a0_many])), (q_a0_values, .inl (cJ, 9600, .inr (.inl a0_values)))]) hD hS hA [0, 1] rfl
  refine va_callv (va_runV (As := [.int p1, .int p2, .long (r_1 + p3)]) (rest := []) ⟨hx, hb, hml, hown, hts⟩ (c_X5_put l dC dI cI cJ cZ _ h_a0 a0_values q_a0_values a0_many p1 p2 (r_1 + p3) _ h) (cwV 3 hts gX5_increase_X5_put rfl rfl rfl (by decide +kernel) ⟨Nat.le_of_ble_eq_true rfl, Nat.le_of_ble_eq_true rfl⟩) ⟨pre_fb, va_recv hK hPc (ci := 5) (q0 := 0) rfl rfl, pre_of hPc hDc hK hN⟩ rfl rfl hl.1 rfl (lv_room (Nat.le_of_ble_eq_true rfl)) dX5_increase_11 ⟨by first | exact Nat.le_of_ble_eq_true rfl | exact Nat.le_refl _, by first | exact Nat.le_of_ble_eq_true rfl | exact Nat.le_refl _⟩) hS (fun q _ h => hFc q h) hFc (fun u t H1 locs ht hvm h hB hz1 hk1 hS => ?_)
  obtain ⟨o_2, rfl⟩ : ∃ z, z = u := ⟨_, rfl⟩
  obtain ⟨hP1, hD1⟩ := hB
  rw [ht] at hP1
  try dsimp only at h
  obtain ⟨hP, hD⟩ := va_join (wr := []) (w1 := [(h_a0, .inr (5, [.ref q_a0_values, .int a0_many])), (q_a0_values, .inl (cJ, 9600, .inr (.inl o_2)))]) hP hD [0, 1] [] rfl rfl (by decide) (by decide) hk1 hFc hP1 hD1
  generalize H1 = H at hP hS ⊢
  have hP : va_P (dC, dI) vwCl [(h_a0, .inr (5, [.ref q_a0_values, .int a0_many])), (q_a0_values, .inl (cJ, 9600, .inr (.inl o_2)))] H := hP
  have hD : va_D A [(h_a0, .inr (5, [.ref q_a0_values, .int a0_many])), (q_a0_values, .inl (cJ, 9600, .inr (.inl o_2)))] := hD
  have hP9 := hP.sub (ws' := [(h_a0, .inr (5, [.ref q_a0_values, .int a0_many])), (q_a0_values, .inl (cJ, 9600, .inr (.inl o_2)))]) [0, 1] rfl
  have hD9 := hD.sub (ws' := [(h_a0, .inr (5, [.ref q_a0_values, .int a0_many])), (q_a0_values, .inl (cJ, 9600, .inr (.inl o_2)))]) [0, 1] (by decide) rfl
  exact W.vret hx hb hr (fun t ht hW => ⟨⟨o_2, rfl, h, by rw [ht]; exact hP9, hD9⟩, hS.F ht⟩) hS.2.2 dX5_increase_14
def wp_X5_addZeros (a0_values : Nat → Int64) (a0_many : Int32)  (Q : Int32 → Int32 → (Nat → Int64) → Prop) : Prop :=
  ((a0_many < (0 : Int32) → Q (-1 : Int32) a0_many a0_values) ∧ (¬ a0_many < (0 : Int32) → ((a0_many < (16 : Int32) → (∀ y_3 : Int32, y_3 = (a0_many + (1 : Int32)) → (∃ (I_35_3 : Int32 → (Nat → Int64) → Prop) (m_35_3 : Int32 → (Nat → Int64) → Nat), I_35_3 (1 : Int32) a0_values ∧ ∀ (l2_35_3 : Int32) (a0_values_35_3 : Nat → Int64), I_35_3 l2_35_3 a0_values_35_3 → (((600 : Int32) < l2_35_3 → Q a0_many y_3 a0_values_35_3) ∧ (¬ (600 : Int32) < l2_35_3 → wp_X5_put a0_values_35_3 a0_many l2_35_3 (0 : Int64) (fun o_6 => (∀ x2_7 : Int32, x2_7 = l2_35_3 + (1 : Int32) → (I_35_3 x2_7 o_6 ∧ m_35_3 x2_7 o_6 < m_35_3 l2_35_3 a0_values_35_3)))))))) ∧ (¬ a0_many < (16 : Int32) → Q (-1 : Int32) a0_many a0_values))))
abbrev rm_X5_addZeros : Room := { frames := 2, cells := 0, slots := 0, locals := 45 }
abbrev qc_X5_addZeros (dC : Nat → ClassId) (dI : Nat → Nat → Nat) (cI cJ cZ : ClassId) (h_a0 : Nat) (a0_values : Nat → Int64) (q_a0_values : Nat) (a0_many : Int32) (Q : Int32 → Int32 → (Nat → Int64) → Prop) (A : Nat → Prop) : Array Value → State → Outcome → State → Prop := va_Qi (fun (r : Int32) (u : Int32 × (Nat → Int64)) => Q r u.1 u.2) (post_ dC dI A (fun (u : Int32 × (Nat → Int64)) => [(h_a0, .inr (5, [.ref q_a0_values, .int u.1])), (q_a0_values, .inl (cJ, 9600, .inr (.inl (u.2))))])) A
set_option maxHeartbeats 4000000 in
set_option maxRecDepth 100000 in
theorem c_X5_addZeros (l : Launch) (dC : Nat → ClassId) (dI : Nat → Nat → Nat) (cI cJ cZ : ClassId) (sz : Nat) (h_a0 : Nat) (a0_values : Nat → Int64) (q_a0_values : Nat) (a0_many : Int32)  (Q : Int32 → Int32 → (Nat → Int64) → Prop) (hQ : wp_X5_addZeros a0_values a0_many Q) : Met l yX5_addZeros wsX5_addZeros rm_X5_addZeros (pre_ dC dI cI cJ cZ [.ref h_a0] [(h_a0, .inr (5, [.ref q_a0_values, .int a0_many])), (q_a0_values, .inl (cJ, 9600, .inr (.inl a0_values)))] sz) (qc_X5_addZeros dC dI cI cJ cZ h_a0 a0_values q_a0_values a0_many Q (va_A [(h_a0, .inr (5, [.ref q_a0_values, .int a0_many])), (q_a0_values, .inl (cJ, 9600, .inr (.inl a0_values)))] sz)) 0 0 (va_A [(h_a0, .inr (5, [.ref q_a0_values, .int a0_many])), (q_a0_values, .inl (cJ, 9600, .inr (.inl a0_values)))] sz) := by
  refine Met.ofW (cc := cX5_addZeros) (maxL := 3) (ret := (some .int)) (by decide) rfl ?_
  intro p e s m args below meth c s₁ B hml hv
  obtain ⟨rfl, hsz, hP, hK, hN, hD0⟩ := hv
  have hx := B.exec
  have hb := B.bytes
  have hr := B.returns
  have hts := atoms_spec (ws := wsX5_addZeros) B.pre
  have hown : s.vm.findClass RX5 = some m.cls := findClass_of_methodNamed B.named
  subst hsz
  have hD := hD0.self (sz := s.heap.size)
  generalize hAe : va_A [(h_a0, .inr (5, [.ref q_a0_values, .int a0_many])), (q_a0_values, .inl (cJ, 9600, .inr (.inl a0_values)))] s.heap.size = A at hD ⊢
  have hA : ∀ q : Nat, s.heap.size ≤ q → A q := fun q h => by rw [← hAe]; exact Or.inr h
  have hS : va_S A s.heap s.heap [] := va_S.rf
  have hl := lv_entry ([.ref h_a0]) (n := 3) (Nat.le_of_ble_eq_true rfl)
  rw [lg_entry_eq]
  generalize (lg_sl ([.ref h_a0]) ++ List.replicate (3 - (lg_sl ([.ref h_a0])).length) Slot.unset).toArray = ls at hl ⊢
  have hl : lv_has ls 3 [(0, .ref h_a0)] := hl
  have h := hQ
  unfold wp_X5_addZeros at h
  have hw_0 := hts (.fieldLink RX5 15 "NumberSieves$Rows" "many" "I") (by decide +kernel)
  have hin_X5 : ∀ w ∈ wsX50, w ∈ wsX5_addZeros := by decide +kernel
  refine lv_aload_n hx hb dX5_addZeros_0 rfl (lv_at hl 0 rfl) ?_
  refine va_get (D := (dC, dI)) (ci := 5) (v := .int a0_many) (C := RX5) (T := TX5) (N := 2) hx hb hts hin_X5 hown hK hP 0 rfl rfl 1 (by decide) hw_0 (fun _ h9 => h9) rfl dX5_addZeros_1 ?_
  refine lv_if_lt (tgt := 16) hx hb dX5_addZeros_4 (by decide) (fun c_1 => ?_) (fun c_1 => ?_)
  · replace h := h.1 c_1
    refine lv_iconst (v := (-1 : Int32)) hx hb dX5_addZeros_16 (by decide) ?_
    have hP9 := hP.sub (ws' := [(h_a0, .inr (5, [.ref q_a0_values, .int a0_many])), (q_a0_values, .inl (cJ, 9600, .inr (.inl a0_values)))]) [0, 1] rfl
    have hD9 := hD.sub (ws' := [(h_a0, .inr (5, [.ref q_a0_values, .int a0_many])), (q_a0_values, .inl (cJ, 9600, .inr (.inl a0_values)))]) [0, 1] (by decide) rfl
    exact W.iret (v := (-1 : Int32)) hx hb hr (fun t ht hW => ⟨⟨_, (a0_many, a0_values), rfl, h, by rw [ht]; exact hP9, hD9⟩, hS.F ht⟩) hS.2.2 dX5_addZeros_17
  · replace h := h.2 c_1
    refine lv_aload_n hx hb dX5_addZeros_7 rfl (lv_at hl 0 rfl) ?_
    refine va_get (D := (dC, dI)) (ci := 5) (v := .int a0_many) (C := RX5) (T := TX5) (N := 2) hx hb hts hin_X5 hown hK hP 0 rfl rfl 1 (by decide) hw_0 (fun _ h9 => h9) rfl dX5_addZeros_8 ?_
    refine lv_bipush (v := (16 : Int32)) hx hb dX5_addZeros_11 (by decide) ?_
    refine lv_icmp_lt (tgt := 18) hx hb dX5_addZeros_13 (by decide) (fun c_2 => ?_) (fun c_2 => ?_)
    · replace h := h.1 c_2
      refine lv_aload_n hx hb dX5_addZeros_18 rfl (lv_at hl 0 rfl) ?_
      refine va_get (D := (dC, dI)) (ci := 5) (v := .int a0_many) (C := RX5) (T := TX5) (N := 2) hx hb hts hin_X5 hown hK hP 0 rfl rfl 1 (by decide) hw_0 (fun _ h9 => h9) rfl dX5_addZeros_19 ?_
      refine lv_istore_n (lv' := [(1, .int a0_many), (0, .ref h_a0)]) hx hb dX5_addZeros_22 rfl hl (by decide) rfl (fun ls hl => ?_)
      refine lv_aload_n hx hb dX5_addZeros_23 rfl (lv_at hl 1 rfl) ?_
      refine lv_dup hx hb dX5_addZeros_24 rfl ?_
      refine va_get (D := (dC, dI)) (ci := 5) (v := .int a0_many) (C := RX5) (T := TX5) (N := 2) hx hb hts hin_X5 hown hK hP 0 rfl rfl 1 (by decide) hw_0 (fun _ h9 => h9) rfl dX5_addZeros_25 ?_
      refine lv_iconst (v := (1 : Int32)) hx hb dX5_addZeros_28 (by decide) ?_
      refine lv_iadd hx hb dX5_addZeros_29 ?_
      refine lv_topi (fun y_3 e_y_3 => ?_)
      replace h := h y_3 e_y_3
      refine va_put (D := (dC, dI)) (ci := 5) (v := .int y_3) (ty := .int) (C := RX5) (T := TX5) (N := 2) hx hb hts hin_X5 tyX5 tyX5_ok nmX5 hown hK hP hD hS 0 rfl rfl 1 (by decide) hw_0 (fun _ h9 => h9) rfl (by decide +kernel) rfl rfl (Nat.le_of_ble_eq_true rfl) dX5_addZeros_30 (fun H locs hP hD hS => ?_)
      have hP : va_P (dC, dI) vwCl [(h_a0, .inr (5, [.ref q_a0_values, .int y_3])), (q_a0_values, .inl (cJ, 9600, .inr (.inl a0_values)))] H := hP
      have hD : va_D A [(h_a0, .inr (5, [.ref q_a0_values, .int y_3])), (q_a0_values, .inl (cJ, 9600, .inr (.inl a0_values)))] := hD
      refine lv_iconst (v := (1 : Int32)) hx hb dX5_addZeros_33 (by decide) ?_
      refine lv_istore_n (lv' := [(2, .int (1 : Int32)), (1, .int a0_many), (0, .ref h_a0)]) hx hb dX5_addZeros_34 rfl hl (by decide) rfl (fun ls hl => ?_)
      obtain ⟨I_35_3, m_35_3, h0_35_3, hs_35_3⟩ := h
      have key_35_3 : ∀ (n : Nat) (l2_35_3 : Int32) (a0_values_35_3 : Nat → Int64), m_35_3 l2_35_3 a0_values_35_3 < n → I_35_3 l2_35_3 a0_values_35_3 → ∀ (ls : Array Slot) (H : Heap) (locs : List Loc), lv_has ls 3 [(2, .int l2_35_3), (1, .int a0_many), (0, .ref h_a0)] → va_P (dC, dI) vwCl [(h_a0, .inr (5, [.ref q_a0_values, .int y_3])), (q_a0_values, .inl (cJ, 9600, .inr (.inl a0_values_35_3)))] H → va_D A [(h_a0, .inr (5, [.ref q_a0_values, .int y_3])), (q_a0_values, .inl (cJ, 9600, .inr (.inl a0_values_35_3)))] → va_S A s.heap H locs → W p l e (headSpec wsX5_addZeros rm_X5_addZeros).room s m ([.ref h_a0] : List Value).toArray below meth c H locs 0 0 (MQ below (qc_X5_addZeros dC dI cI cJ cZ h_a0 a0_values q_a0_values a0_many Q A) ([.ref h_a0] : List Value).toArray s 0 0 A) (F0 m 35 ls []) := by
        intro n
        induction n with
        | zero =>
          intro l2_35_3 a0_values_35_3 hm
          exact absurd hm (Nat.not_lt_zero _)
        | succ n ih_35_3 =>
          intro l2_35_3 a0_values_35_3 hm_35_3 hI ls H locs hl hP hD hS
          have h := hs_35_3 l2_35_3 a0_values_35_3 hI
          refine lv_iload_n hx hb dX5_addZeros_35 rfl (lv_at hl 0 rfl) ?_
          refine lv_sipush (v := (600 : Int32)) hx hb dX5_addZeros_36 (by decide) ?_
          refine lv_icmp_gt (tgt := 55) hx hb dX5_addZeros_39 (by decide) (fun c_5 => ?_) (fun c_5 => ?_)
          · replace h := h.1 c_5
            refine lv_iload_n hx hb dX5_addZeros_55 rfl (lv_at hl 1 rfl) ?_
            have hP9 := hP.sub (ws' := [(h_a0, .inr (5, [.ref q_a0_values, .int y_3])), (q_a0_values, .inl (cJ, 9600, .inr (.inl a0_values_35_3)))]) [0, 1] rfl
            have hD9 := hD.sub (ws' := [(h_a0, .inr (5, [.ref q_a0_values, .int y_3])), (q_a0_values, .inl (cJ, 9600, .inr (.inl a0_values_35_3)))]) [0, 1] (by decide) rfl
            exact W.iret (v := a0_many) hx hb hr (fun t ht hW => ⟨⟨_, (y_3, a0_values_35_3), rfl, h, by rw [ht]; exact hP9, hD9⟩, hS.F ht⟩) hS.2.2 dX5_addZeros_56
          · replace h := h.2 c_5
            refine lv_aload_n hx hb dX5_addZeros_42 rfl (lv_at hl 2 rfl) ?_
            refine lv_iload_n hx hb dX5_addZeros_43 rfl (lv_at hl 1 rfl) ?_
            refine lv_iload_n hx hb dX5_addZeros_44 rfl (lv_at hl 0 rfl) ?_
            refine lv_lconst (v := (0 : Int64)) hx hb dX5_addZeros_45 (by decide) ?_
            have hPc := hP.sub (ws' := [(h_a0, .inr (5, [.ref q_a0_values, .int y_3])), (q_a0_values, .inl (cJ, 9600, .inr (.inl a0_values_35_3)))]) [0, 1] rfl
            have hDc := hD.sub (ws' := [(h_a0, .inr (5, [.ref q_a0_values, .int y_3])), (q_a0_values, .inl (cJ, 9600, .inr (.inl a0_values_35_3)))]) [0, 1] (by decide) rfl
            have hFc := va_free (wc := [(h_a0, .inr (5, [.ref q_a0_values, .int y_3])), (q_a0_values, .inl (cJ, 9600, .inr (.inl a0_values_35_3)))]) hD hS hA [0, 1] rfl
            refine va_callv (va_runV (As := [.int a0_many, .int l2_35_3, .long (0 : Int64)]) (rest := []) ⟨hx, hb, hml, hown, hts⟩ (c_X5_put l dC dI cI cJ cZ _ h_a0 a0_values_35_3 q_a0_values y_3 a0_many l2_35_3 (0 : Int64) _ h) (cwV 3 hts gX5_addZeros_X5_put rfl rfl rfl (by decide +kernel) ⟨Nat.le_of_ble_eq_true rfl, Nat.le_of_ble_eq_true rfl⟩) ⟨pre_fb, va_recv hK hPc (ci := 5) (q0 := 0) rfl rfl, pre_of hPc hDc hK hN⟩ rfl rfl hl.1 rfl (lv_room (Nat.le_of_ble_eq_true rfl)) dX5_addZeros_46 ⟨by first | exact Nat.le_of_ble_eq_true rfl | exact Nat.le_refl _, by first | exact Nat.le_of_ble_eq_true rfl | exact Nat.le_refl _⟩) hS (fun q _ h => hFc q h) hFc (fun u t H1 locs ht hvm h hB hz1 hk1 hS => ?_)
            obtain ⟨o_6, rfl⟩ : ∃ z, z = u := ⟨_, rfl⟩
            obtain ⟨hP1, hD1⟩ := hB
            rw [ht] at hP1
            try dsimp only at h
            obtain ⟨hP, hD⟩ := va_join (wr := []) (w1 := [(h_a0, .inr (5, [.ref q_a0_values, .int y_3])), (q_a0_values, .inl (cJ, 9600, .inr (.inl o_6)))]) hP hD [0, 1] [] rfl rfl (by decide) (by decide) hk1 hFc hP1 hD1
            generalize H1 = H at hP hS ⊢
            have hP : va_P (dC, dI) vwCl [(h_a0, .inr (5, [.ref q_a0_values, .int y_3])), (q_a0_values, .inl (cJ, 9600, .inr (.inl o_6)))] H := hP
            have hD : va_D A [(h_a0, .inr (5, [.ref q_a0_values, .int y_3])), (q_a0_values, .inl (cJ, 9600, .inr (.inl o_6)))] := hD
            obtain ⟨x2_7, e_x2_7⟩ : ∃ y : Int32, y = l2_35_3 + (1 : Int32) := ⟨_, rfl⟩
            replace h := h x2_7 e_x2_7
            refine lv_iinc (v := x2_7) (lv' := [(2, .int x2_7), (1, .int a0_many), (0, .ref h_a0)]) hx hb dX5_addZeros_49 hl (k := 0) rfl (by rw [e_x2_7]; rfl) (by decide) rfl (fun ls hl => ?_)
            refine lv_goto (tgt := 35) hx hb dX5_addZeros_52 (by decide) ?_
            exact ih_35_3 x2_7 o_6 (Nat.lt_of_lt_of_le h.2 (Nat.le_of_lt_succ hm_35_3)) h.1 _ _ _ (lv_sub hl [0, 1, 2] rfl) (hP.sub [0, 1] rfl) (hD.sub [0, 1] (by decide) rfl) hS
      exact key_35_3 _ (1 : Int32) a0_values (Nat.lt_succ_self _) h0_35_3 _ _ _ (lv_sub hl [0, 1, 2] rfl) (hP.sub [0, 1] rfl) (hD.sub [0, 1] (by decide) rfl) hS
    · replace h := h.2 c_2
      refine lv_iconst (v := (-1 : Int32)) hx hb dX5_addZeros_16 (by decide) ?_
      have hP9 := hP.sub (ws' := [(h_a0, .inr (5, [.ref q_a0_values, .int a0_many])), (q_a0_values, .inl (cJ, 9600, .inr (.inl a0_values)))]) [0, 1] rfl
      have hD9 := hD.sub (ws' := [(h_a0, .inr (5, [.ref q_a0_values, .int a0_many])), (q_a0_values, .inl (cJ, 9600, .inr (.inl a0_values)))]) [0, 1] (by decide) rfl
      exact W.iret (v := (-1 : Int32)) hx hb hr (fun t ht hW => ⟨⟨_, (a0_many, a0_values), rfl, h, by rw [ht]; exact hP9, hD9⟩, hS.F ht⟩) hS.2.2 dX5_addZeros_17
def wp_X5_leastDivisor  (p0 : Int32) (Q : Int32 → Prop) : Prop :=
  (∃ (I_2_0 : Int32 → Prop) (m_2_0 : Int32 → Nat), I_2_0 (2 : Int32) ∧ ∀ (l1_2_0 : Int32), I_2_0 l1_2_0 → ((p0 < (l1_2_0 * l1_2_0) → Q p0) ∧ (¬ p0 < (l1_2_0 * l1_2_0) → (((600 : Int32) < l1_2_0 → Q p0) ∧ (¬ (600 : Int32) < l1_2_0 → (¬ l1_2_0 = 0 ∧ (((p0 - p0 / l1_2_0 * l1_2_0) = (0 : Int32) → Q l1_2_0) ∧ (¬ (p0 - p0 / l1_2_0 * l1_2_0) = (0 : Int32) → (∀ x1_6 : Int32, x1_6 = l1_2_0 + (1 : Int32) → (I_2_0 x1_6 ∧ m_2_0 x1_6 < m_2_0 l1_2_0))))))))))
abbrev rm_X5_leastDivisor : Room := { frames := 0, cells := 0, slots := 0, locals := 0 }
abbrev qc_X5_leastDivisor (dC : Nat → ClassId) (dI : Nat → Nat → Nat) (cI cJ cZ : ClassId)  (Q : Int32 → Prop) (A : Nat → Prop) : Array Value → State → Outcome → State → Prop := va_Qi (fun (r : Int32) (_ : Unit) => Q r) (post_ dC dI A (fun (_ : Unit) => ([] : va_W))) A
set_option maxHeartbeats 4000000 in
set_option maxRecDepth 100000 in
theorem c_X5_leastDivisor (l : Launch) (dC : Nat → ClassId) (dI : Nat → Nat → Nat) (cI cJ cZ : ClassId) (sz : Nat)  (p0 : Int32) (Q : Int32 → Prop) (hQ : wp_X5_leastDivisor p0 Q) : Met l yX5_leastDivisor wsX5_leastDivisor rm_X5_leastDivisor (pre_ dC dI cI cJ cZ [.int p0] ([] : va_W) sz) (qc_X5_leastDivisor dC dI cI cJ cZ Q (va_A ([] : va_W) sz)) 0 0 (va_A ([] : va_W) sz) := by
  refine Met.ofW (cc := cX5_leastDivisor) (maxL := 2) (ret := (some .int)) (by decide) rfl ?_
  intro p e s m args below meth c s₁ B hml hv
  obtain ⟨rfl, hsz, hP, hK, hN, hD0⟩ := hv
  have hx := B.exec
  have hb := B.bytes
  have hr := B.returns
  have hts := atoms_spec (ws := wsX5_leastDivisor) B.pre
  have hown : s.vm.findClass RX5 = some m.cls := findClass_of_methodNamed B.named
  subst hsz
  have hD := hD0.self (sz := s.heap.size)
  generalize hAe : va_A ([] : va_W) s.heap.size = A at hD ⊢
  have hA : ∀ q : Nat, s.heap.size ≤ q → A q := fun q h => by rw [← hAe]; exact Or.inr h
  have hS : va_S A s.heap s.heap [] := va_S.rf
  have hl := lv_entry ([.int p0]) (n := 2) (Nat.le_of_ble_eq_true rfl)
  rw [lg_entry_eq]
  generalize (lg_sl ([.int p0]) ++ List.replicate (2 - (lg_sl ([.int p0])).length) Slot.unset).toArray = ls at hl ⊢
  have hl : lv_has ls 2 [(0, .int p0)] := hl
  have h := hQ
  unfold wp_X5_leastDivisor at h
  refine lv_iconst (v := (2 : Int32)) hx hb dX5_leastDivisor_0 (by decide) ?_
  refine lv_istore_n (lv' := [(1, .int (2 : Int32)), (0, .int p0)]) hx hb dX5_leastDivisor_1 rfl hl (by decide) rfl (fun ls hl => ?_)
  obtain ⟨I_2_0, m_2_0, h0_2_0, hs_2_0⟩ := h
  have key_2_0 : ∀ (n : Nat) (l1_2_0 : Int32), m_2_0 l1_2_0 < n → I_2_0 l1_2_0 → ∀ (ls : Array Slot) (H : Heap) (locs : List Loc), lv_has ls 2 [(1, .int l1_2_0), (0, .int p0)] → va_P (dC, dI) vwCl [] H → va_D A [] → va_S A s.heap H locs → W p l e (headSpec wsX5_leastDivisor rm_X5_leastDivisor).room s m ([.int p0] : List Value).toArray below meth c H locs 0 0 (MQ below (qc_X5_leastDivisor dC dI cI cJ cZ Q A) ([.int p0] : List Value).toArray s 0 0 A) (F0 m 2 ls []) := by
    intro n
    induction n with
    | zero =>
      intro l1_2_0 hm
      exact absurd hm (Nat.not_lt_zero _)
    | succ n ih_2_0 =>
      intro l1_2_0 hm_2_0 hI ls H locs hl hP hD hS
      have h := hs_2_0 l1_2_0 hI
      refine lv_iload_n hx hb dX5_leastDivisor_2 rfl (lv_at hl 0 rfl) ?_
      refine lv_iload_n hx hb dX5_leastDivisor_3 rfl (lv_at hl 0 rfl) ?_
      refine lv_imul hx hb dX5_leastDivisor_4 ?_
      refine lv_iload_n hx hb dX5_leastDivisor_5 rfl (lv_at hl 1 rfl) ?_
      refine lv_icmp_gt (tgt := 30) hx hb dX5_leastDivisor_6 (by decide) (fun c_2 => ?_) (fun c_2 => ?_)
      · replace h := h.1 c_2
        refine lv_iload_n hx hb dX5_leastDivisor_30 rfl (lv_at hl 1 rfl) ?_
        have hP9 := hP.sub (ws' := []) [] rfl
        have hD9 := hD.sub (ws' := []) [] (by decide) rfl
        exact W.iret (v := p0) hx hb hr (fun t ht hW => ⟨⟨_, (), rfl, h, by rw [ht]; exact hP9, hD9⟩, hS.F ht⟩) hS.2.2 dX5_leastDivisor_31
      · replace h := h.2 c_2
        refine lv_iload_n hx hb dX5_leastDivisor_9 rfl (lv_at hl 0 rfl) ?_
        refine lv_sipush (v := (600 : Int32)) hx hb dX5_leastDivisor_10 (by decide) ?_
        refine lv_icmp_gt (tgt := 30) hx hb dX5_leastDivisor_13 (by decide) (fun c_3 => ?_) (fun c_3 => ?_)
        · replace h := h.1 c_3
          refine lv_iload_n hx hb dX5_leastDivisor_30 rfl (lv_at hl 1 rfl) ?_
          have hP9 := hP.sub (ws' := []) [] rfl
          have hD9 := hD.sub (ws' := []) [] (by decide) rfl
          exact W.iret (v := p0) hx hb hr (fun t ht hW => ⟨⟨_, (), rfl, h, by rw [ht]; exact hP9, hD9⟩, hS.F ht⟩) hS.2.2 dX5_leastDivisor_31
        · replace h := h.2 c_3
          refine lv_iload_n hx hb dX5_leastDivisor_16 rfl (lv_at hl 1 rfl) ?_
          refine lv_iload_n hx hb dX5_leastDivisor_17 rfl (lv_at hl 0 rfl) ?_
          obtain ⟨hne_4, h⟩ := h
          refine lv_irem hx hb dX5_leastDivisor_18 hne_4 ?_
          refine lv_if_ne (tgt := 24) hx hb dX5_leastDivisor_19 (by decide) (fun c_5 => ?_) (fun c_5 => ?_)
          · replace h := h.2 c_5
            obtain ⟨x1_6, e_x1_6⟩ : ∃ y : Int32, y = l1_2_0 + (1 : Int32) := ⟨_, rfl⟩
            replace h := h x1_6 e_x1_6
            refine lv_iinc (v := x1_6) (lv' := [(1, .int x1_6), (0, .int p0)]) hx hb dX5_leastDivisor_24 hl (k := 0) rfl (by rw [e_x1_6]; rfl) (by decide) rfl (fun ls hl => ?_)
            refine lv_goto (tgt := 2) hx hb dX5_leastDivisor_27 (by decide) ?_
            exact ih_2_0 x1_6 (Nat.lt_of_lt_of_le h.2 (Nat.le_of_lt_succ hm_2_0)) h.1 _ _ _ (lv_sub hl [0, 1] rfl) (hP.sub [] rfl) (hD.sub [] (by decide) rfl) hS
          · replace h := h.1 c_5
            refine lv_iload_n hx hb dX5_leastDivisor_22 rfl (lv_at hl 0 rfl) ?_
            have hP9 := hP.sub (ws' := []) [] rfl
            have hD9 := hD.sub (ws' := []) [] (by decide) rfl
            exact W.iret (v := l1_2_0) hx hb hr (fun t ht hW => ⟨⟨_, (), rfl, h, by rw [ht]; exact hP9, hD9⟩, hS.F ht⟩) hS.2.2 dX5_leastDivisor_23
  exact key_2_0 _ (2 : Int32) (Nat.lt_succ_self _) h0_2_0 _ _ _ (lv_sub hl [0, 1] rfl) (hP.sub [] rfl) (hD.sub [] (by decide) rfl) hS
def wp_X5_power  (p0 : Int64) (p1 : Int32) (Q : Int64 → Prop) : Prop :=
  (∃ (I_5_0 : Int32 → Int64 → Prop) (m_5_0 : Int32 → Int64 → Nat), I_5_0 (0 : Int32) (1 : Int64) ∧ ∀ (l5_5_0 : Int32) (l3_5_0 : Int64), I_5_0 l5_5_0 l3_5_0 → ((p1 ≤ l5_5_0 → Q l3_5_0) ∧ (¬ p1 ≤ l5_5_0 → (∀ x3_3 : Int64, x3_3 = (l3_5_0 * p0) → (∀ x5_4 : Int32, x5_4 = l5_5_0 + (1 : Int32) → (I_5_0 x5_4 x3_3 ∧ m_5_0 x5_4 x3_3 < m_5_0 l5_5_0 l3_5_0))))))
abbrev rm_X5_power : Room := { frames := 0, cells := 0, slots := 0, locals := 0 }
abbrev qc_X5_power (dC : Nat → ClassId) (dI : Nat → Nat → Nat) (cI cJ cZ : ClassId)  (Q : Int64 → Prop) (A : Nat → Prop) : Array Value → State → Outcome → State → Prop := va_Ql (fun (r : Int64) (_ : Unit) => Q r) (post_ dC dI A (fun (_ : Unit) => ([] : va_W))) A
set_option maxHeartbeats 4000000 in
set_option maxRecDepth 100000 in
theorem c_X5_power (l : Launch) (dC : Nat → ClassId) (dI : Nat → Nat → Nat) (cI cJ cZ : ClassId) (sz : Nat)  (p0 : Int64) (p1 : Int32) (Q : Int64 → Prop) (hQ : wp_X5_power p0 p1 Q) : Met l yX5_power wsX5_power rm_X5_power (pre_ dC dI cI cJ cZ [.long p0, .int p1] ([] : va_W) sz) (qc_X5_power dC dI cI cJ cZ Q (va_A ([] : va_W) sz)) 0 0 (va_A ([] : va_W) sz) := by
  refine Met.ofW (cc := cX5_power) (maxL := 6) (ret := (some .long)) (by decide) rfl ?_
  intro p e s m args below meth c s₁ B hml hv
  obtain ⟨rfl, hsz, hP, hK, hN, hD0⟩ := hv
  have hx := B.exec
  have hb := B.bytes
  have hr := B.returns
  have hts := atoms_spec (ws := wsX5_power) B.pre
  have hown : s.vm.findClass RX5 = some m.cls := findClass_of_methodNamed B.named
  subst hsz
  have hD := hD0.self (sz := s.heap.size)
  generalize hAe : va_A ([] : va_W) s.heap.size = A at hD ⊢
  have hA : ∀ q : Nat, s.heap.size ≤ q → A q := fun q h => by rw [← hAe]; exact Or.inr h
  have hS : va_S A s.heap s.heap [] := va_S.rf
  have hl := lv_entry ([.long p0, .int p1]) (n := 6) (Nat.le_of_ble_eq_true rfl)
  rw [lg_entry_eq]
  generalize (lg_sl ([.long p0, .int p1]) ++ List.replicate (6 - (lg_sl ([.long p0, .int p1])).length) Slot.unset).toArray = ls at hl ⊢
  have hl : lv_has ls 6 [(0, .long p0), (2, .int p1)] := hl
  have h := hQ
  unfold wp_X5_power at h
  refine lv_lconst (v := (1 : Int64)) hx hb dX5_power_0 (by decide) ?_
  refine lv_lstore_n (lv' := [(3, .long (1 : Int64)), (0, .long p0), (2, .int p1)]) hx hb dX5_power_1 rfl hl (by decide) rfl (fun ls hl => ?_)
  refine lv_iconst (v := (0 : Int32)) hx hb dX5_power_2 (by decide) ?_
  refine lv_istore (lv' := [(5, .int (0 : Int32)), (3, .long (1 : Int64)), (0, .long p0), (2, .int p1)]) hx hb dX5_power_3 hl (by decide) rfl (fun ls hl => ?_)
  obtain ⟨I_5_0, m_5_0, h0_5_0, hs_5_0⟩ := h
  have key_5_0 : ∀ (n : Nat) (l5_5_0 : Int32) (l3_5_0 : Int64), m_5_0 l5_5_0 l3_5_0 < n → I_5_0 l5_5_0 l3_5_0 → ∀ (ls : Array Slot) (H : Heap) (locs : List Loc), lv_has ls 6 [(5, .int l5_5_0), (3, .long l3_5_0), (0, .long p0), (2, .int p1)] → va_P (dC, dI) vwCl [] H → va_D A [] → va_S A s.heap H locs → W p l e (headSpec wsX5_power rm_X5_power).room s m ([.long p0, .int p1] : List Value).toArray below meth c H locs 0 0 (MQ below (qc_X5_power dC dI cI cJ cZ Q A) ([.long p0, .int p1] : List Value).toArray s 0 0 A) (F0 m 5 ls []) := by
    intro n
    induction n with
    | zero =>
      intro l5_5_0 l3_5_0 hm
      exact absurd hm (Nat.not_lt_zero _)
    | succ n ih_5_0 =>
      intro l5_5_0 l3_5_0 hm_5_0 hI ls H locs hl hP hD hS
      have h := hs_5_0 l5_5_0 l3_5_0 hI
      refine lv_iload hx hb dX5_power_5 (lv_at hl 0 rfl) ?_
      refine lv_iload_n hx hb dX5_power_7 rfl (lv_at hl 3 rfl) ?_
      refine lv_icmp_ge (tgt := 21) hx hb dX5_power_8 (by decide) (fun c_2 => ?_) (fun c_2 => ?_)
      · replace h := h.1 c_2
        refine lv_lload_n hx hb dX5_power_21 rfl (lv_at hl 1 rfl) ?_
        have hP9 := hP.sub (ws' := []) [] rfl
        have hD9 := hD.sub (ws' := []) [] (by decide) rfl
        exact W.lret (v := l3_5_0) hx hb hr (fun t ht hW => ⟨⟨_, (), rfl, h, by rw [ht]; exact hP9, hD9⟩, hS.F ht⟩) hS.2.2 dX5_power_22
      · replace h := h.2 c_2
        refine lv_lload_n hx hb dX5_power_11 rfl (lv_at hl 1 rfl) ?_
        refine lv_lload_n hx hb dX5_power_12 rfl (lv_at hl 2 rfl) ?_
        refine lv_lmul hx hb dX5_power_13 ?_
        refine lv_topl (fun x3_3 e_x3_3 => ?_)
        replace h := h x3_3 e_x3_3
        refine lv_lstore_n (lv' := [(3, .long x3_3), (5, .int l5_5_0), (0, .long p0), (2, .int p1)]) hx hb dX5_power_14 rfl hl (by decide) rfl (fun ls hl => ?_)
        obtain ⟨x5_4, e_x5_4⟩ : ∃ y : Int32, y = l5_5_0 + (1 : Int32) := ⟨_, rfl⟩
        replace h := h x5_4 e_x5_4
        refine lv_iinc (v := x5_4) (lv' := [(5, .int x5_4), (3, .long x3_3), (0, .long p0), (2, .int p1)]) hx hb dX5_power_15 hl (k := 1) rfl (by rw [e_x5_4]; rfl) (by decide) rfl (fun ls hl => ?_)
        refine lv_goto (tgt := 5) hx hb dX5_power_18 (by decide) ?_
        exact ih_5_0 x5_4 x3_3 (Nat.lt_of_lt_of_le h.2 (Nat.le_of_lt_succ hm_5_0)) h.1 _ _ _ (lv_sub hl [0, 1, 2, 3] rfl) (hP.sub [] rfl) (hD.sub [] (by decide) rfl) hS
  exact key_5_0 _ (0 : Int32) (1 : Int64) (Nat.lt_succ_self _) h0_5_0 _ _ _ (lv_sub hl [0, 1, 2, 3] rfl) (hP.sub [] rfl) (hD.sub [] (by decide) rfl) hS
def wp_X5_powersUpTo  (p0 : Int64) (p1 : Int32) (Q : Int64 → Prop) : Prop :=
  (∃ (I_5_0 : Int32 → Int64 → Prop) (m_5_0 : Int32 → Int64 → Nat), I_5_0 (0 : Int32) (1 : Int64) ∧ ∀ (l5_5_0 : Int32) (l3_5_0 : Int64), I_5_0 l5_5_0 l3_5_0 → ((p1 ≤ l5_5_0 → Q l3_5_0) ∧ (¬ p1 ≤ l5_5_0 → (∀ x3_3 : Int64, x3_3 = ((l3_5_0 * p0) + (1 : Int64)) → (∀ x5_4 : Int32, x5_4 = l5_5_0 + (1 : Int32) → (I_5_0 x5_4 x3_3 ∧ m_5_0 x5_4 x3_3 < m_5_0 l5_5_0 l3_5_0))))))
abbrev rm_X5_powersUpTo : Room := { frames := 0, cells := 0, slots := 0, locals := 0 }
abbrev qc_X5_powersUpTo (dC : Nat → ClassId) (dI : Nat → Nat → Nat) (cI cJ cZ : ClassId)  (Q : Int64 → Prop) (A : Nat → Prop) : Array Value → State → Outcome → State → Prop := va_Ql (fun (r : Int64) (_ : Unit) => Q r) (post_ dC dI A (fun (_ : Unit) => ([] : va_W))) A
set_option maxHeartbeats 4000000 in
set_option maxRecDepth 100000 in
theorem c_X5_powersUpTo (l : Launch) (dC : Nat → ClassId) (dI : Nat → Nat → Nat) (cI cJ cZ : ClassId) (sz : Nat)  (p0 : Int64) (p1 : Int32) (Q : Int64 → Prop) (hQ : wp_X5_powersUpTo p0 p1 Q) : Met l yX5_powersUpTo wsX5_powersUpTo rm_X5_powersUpTo (pre_ dC dI cI cJ cZ [.long p0, .int p1] ([] : va_W) sz) (qc_X5_powersUpTo dC dI cI cJ cZ Q (va_A ([] : va_W) sz)) 0 0 (va_A ([] : va_W) sz) := by
  refine Met.ofW (cc := cX5_powersUpTo) (maxL := 6) (ret := (some .long)) (by decide) rfl ?_
  intro p e s m args below meth c s₁ B hml hv
  obtain ⟨rfl, hsz, hP, hK, hN, hD0⟩ := hv
  have hx := B.exec
  have hb := B.bytes
  have hr := B.returns
  have hts := atoms_spec (ws := wsX5_powersUpTo) B.pre
  have hown : s.vm.findClass RX5 = some m.cls := findClass_of_methodNamed B.named
  subst hsz
  have hD := hD0.self (sz := s.heap.size)
  generalize hAe : va_A ([] : va_W) s.heap.size = A at hD ⊢
  have hA : ∀ q : Nat, s.heap.size ≤ q → A q := fun q h => by rw [← hAe]; exact Or.inr h
  have hS : va_S A s.heap s.heap [] := va_S.rf
  have hl := lv_entry ([.long p0, .int p1]) (n := 6) (Nat.le_of_ble_eq_true rfl)
  rw [lg_entry_eq]
  generalize (lg_sl ([.long p0, .int p1]) ++ List.replicate (6 - (lg_sl ([.long p0, .int p1])).length) Slot.unset).toArray = ls at hl ⊢
  have hl : lv_has ls 6 [(0, .long p0), (2, .int p1)] := hl
  have h := hQ
  unfold wp_X5_powersUpTo at h
  refine lv_lconst (v := (1 : Int64)) hx hb dX5_powersUpTo_0 (by decide) ?_
  refine lv_lstore_n (lv' := [(3, .long (1 : Int64)), (0, .long p0), (2, .int p1)]) hx hb dX5_powersUpTo_1 rfl hl (by decide) rfl (fun ls hl => ?_)
  refine lv_iconst (v := (0 : Int32)) hx hb dX5_powersUpTo_2 (by decide) ?_
  refine lv_istore (lv' := [(5, .int (0 : Int32)), (3, .long (1 : Int64)), (0, .long p0), (2, .int p1)]) hx hb dX5_powersUpTo_3 hl (by decide) rfl (fun ls hl => ?_)
  obtain ⟨I_5_0, m_5_0, h0_5_0, hs_5_0⟩ := h
  have key_5_0 : ∀ (n : Nat) (l5_5_0 : Int32) (l3_5_0 : Int64), m_5_0 l5_5_0 l3_5_0 < n → I_5_0 l5_5_0 l3_5_0 → ∀ (ls : Array Slot) (H : Heap) (locs : List Loc), lv_has ls 6 [(5, .int l5_5_0), (3, .long l3_5_0), (0, .long p0), (2, .int p1)] → va_P (dC, dI) vwCl [] H → va_D A [] → va_S A s.heap H locs → W p l e (headSpec wsX5_powersUpTo rm_X5_powersUpTo).room s m ([.long p0, .int p1] : List Value).toArray below meth c H locs 0 0 (MQ below (qc_X5_powersUpTo dC dI cI cJ cZ Q A) ([.long p0, .int p1] : List Value).toArray s 0 0 A) (F0 m 5 ls []) := by
    intro n
    induction n with
    | zero =>
      intro l5_5_0 l3_5_0 hm
      exact absurd hm (Nat.not_lt_zero _)
    | succ n ih_5_0 =>
      intro l5_5_0 l3_5_0 hm_5_0 hI ls H locs hl hP hD hS
      have h := hs_5_0 l5_5_0 l3_5_0 hI
      refine lv_iload hx hb dX5_powersUpTo_5 (lv_at hl 0 rfl) ?_
      refine lv_iload_n hx hb dX5_powersUpTo_7 rfl (lv_at hl 3 rfl) ?_
      refine lv_icmp_ge (tgt := 23) hx hb dX5_powersUpTo_8 (by decide) (fun c_2 => ?_) (fun c_2 => ?_)
      · replace h := h.1 c_2
        refine lv_lload_n hx hb dX5_powersUpTo_23 rfl (lv_at hl 1 rfl) ?_
        have hP9 := hP.sub (ws' := []) [] rfl
        have hD9 := hD.sub (ws' := []) [] (by decide) rfl
        exact W.lret (v := l3_5_0) hx hb hr (fun t ht hW => ⟨⟨_, (), rfl, h, by rw [ht]; exact hP9, hD9⟩, hS.F ht⟩) hS.2.2 dX5_powersUpTo_24
      · replace h := h.2 c_2
        refine lv_lload_n hx hb dX5_powersUpTo_11 rfl (lv_at hl 1 rfl) ?_
        refine lv_lload_n hx hb dX5_powersUpTo_12 rfl (lv_at hl 2 rfl) ?_
        refine lv_lmul hx hb dX5_powersUpTo_13 ?_
        refine lv_lconst (v := (1 : Int64)) hx hb dX5_powersUpTo_14 (by decide) ?_
        refine lv_ladd hx hb dX5_powersUpTo_15 ?_
        refine lv_topl (fun x3_3 e_x3_3 => ?_)
        replace h := h x3_3 e_x3_3
        refine lv_lstore_n (lv' := [(3, .long x3_3), (5, .int l5_5_0), (0, .long p0), (2, .int p1)]) hx hb dX5_powersUpTo_16 rfl hl (by decide) rfl (fun ls hl => ?_)
        obtain ⟨x5_4, e_x5_4⟩ : ∃ y : Int32, y = l5_5_0 + (1 : Int32) := ⟨_, rfl⟩
        replace h := h x5_4 e_x5_4
        refine lv_iinc (v := x5_4) (lv' := [(5, .int x5_4), (3, .long x3_3), (0, .long p0), (2, .int p1)]) hx hb dX5_powersUpTo_17 hl (k := 1) rfl (by rw [e_x5_4]; rfl) (by decide) rfl (fun ls hl => ?_)
        refine lv_goto (tgt := 5) hx hb dX5_powersUpTo_20 (by decide) ?_
        exact ih_5_0 x5_4 x3_3 (Nat.lt_of_lt_of_le h.2 (Nat.le_of_lt_succ hm_5_0)) h.1 _ _ _ (lv_sub hl [0, 1, 2, 3] rfl) (hP.sub [] rfl) (hD.sub [] (by decide) rfl) hS
  exact key_5_0 _ (0 : Int32) (1 : Int64) (Nat.lt_succ_self _) h0_5_0 _ _ _ (lv_sub hl [0, 1, 2, 3] rfl) (hP.sub [] rfl) (hD.sub [] (by decide) rfl) hS
def wp_X5_atPower  (p0 : Int32) (p1 : Int64) (p2 : Int32) (Q : Int64 → Prop) : Prop :=
  ((p0 = (1 : Int32) → Q (1 : Int64)) ∧ (p0 = (2 : Int32) → wp_X5_power p1 p2 (fun r_3 => Q r_3)) ∧ (p0 = (3 : Int32) → ((p2 = (1 : Int32) → Q (-1 : Int64)) ∧ (¬ p2 = (1 : Int32) → Q (0 : Int64)))) ∧ (p0 = (4 : Int32) → wp_X5_power p1 p2 (fun r_7 => wp_X5_power p1 (p2 - (1 : Int32)) (fun r_8 => Q (r_7 - r_8)))) ∧ (p0 = (5 : Int32) → Q ((p2 + (1 : Int32)).toInt64)) ∧ (p0 = (6 : Int32) → wp_X5_powersUpTo p1 p2 (fun r_11 => Q r_11)) ∧ (p0 = (7 : Int32) → (((p2 - p2 / (2 : Int32) * (2 : Int32)) = (0 : Int32) → Q (1 : Int64)) ∧ (¬ (p2 - p2 / (2 : Int32) * (2 : Int32)) = (0 : Int32) → Q (-1 : Int64)))) ∧ (p0 = (8 : Int32) → ((p2 = (1 : Int32) → Q (1 : Int64)) ∧ (¬ p2 = (1 : Int32) → Q (0 : Int64)))) ∧ (p0 = (9 : Int32) → wp_X5_power p1 ((2 : Int32) * p2) (fun r_17 => Q r_17)) ∧ (¬ p0 = (1 : Int32) → ¬ p0 = (2 : Int32) → ¬ p0 = (3 : Int32) → ¬ p0 = (4 : Int32) → ¬ p0 = (5 : Int32) → ¬ p0 = (6 : Int32) → ¬ p0 = (7 : Int32) → ¬ p0 = (8 : Int32) → ¬ p0 = (9 : Int32) → Q (0 : Int64)))
abbrev rm_X5_atPower : Room := { frames := 1, cells := 0, slots := 0, locals := 25 }
abbrev qc_X5_atPower (dC : Nat → ClassId) (dI : Nat → Nat → Nat) (cI cJ cZ : ClassId)  (Q : Int64 → Prop) (A : Nat → Prop) : Array Value → State → Outcome → State → Prop := va_Ql (fun (r : Int64) (_ : Unit) => Q r) (post_ dC dI A (fun (_ : Unit) => ([] : va_W))) A
set_option maxHeartbeats 4000000 in
set_option maxRecDepth 100000 in
theorem c_X5_atPower (l : Launch) (dC : Nat → ClassId) (dI : Nat → Nat → Nat) (cI cJ cZ : ClassId) (sz : Nat)  (p0 : Int32) (p1 : Int64) (p2 : Int32) (Q : Int64 → Prop) (hQ : wp_X5_atPower p0 p1 p2 Q) : Met l yX5_atPower wsX5_atPower rm_X5_atPower (pre_ dC dI cI cJ cZ [.int p0, .long p1, .int p2] ([] : va_W) sz) (qc_X5_atPower dC dI cI cJ cZ Q (va_A ([] : va_W) sz)) 0 0 (va_A ([] : va_W) sz) := by
  refine Met.ofW (cc := cX5_atPower) (maxL := 4) (ret := (some .long)) (by decide) rfl ?_
  intro p e s m args below meth c s₁ B hml hv
  obtain ⟨rfl, hsz, hP, hK, hN, hD0⟩ := hv
  have hx := B.exec
  have hb := B.bytes
  have hr := B.returns
  have hts := atoms_spec (ws := wsX5_atPower) B.pre
  have hown : s.vm.findClass RX5 = some m.cls := findClass_of_methodNamed B.named
  subst hsz
  have hD := hD0.self (sz := s.heap.size)
  generalize hAe : va_A ([] : va_W) s.heap.size = A at hD ⊢
  have hA : ∀ q : Nat, s.heap.size ≤ q → A q := fun q h => by rw [← hAe]; exact Or.inr h
  have hS : va_S A s.heap s.heap [] := va_S.rf
  have hl := lv_entry ([.int p0, .long p1, .int p2]) (n := 4) (Nat.le_of_ble_eq_true rfl)
  rw [lg_entry_eq]
  generalize (lg_sl ([.int p0, .long p1, .int p2]) ++ List.replicate (4 - (lg_sl ([.int p0, .long p1, .int p2])).length) Slot.unset).toArray = ls at hl ⊢
  have hl : lv_has ls 4 [(0, .int p0), (1, .long p1), (3, .int p2)] := hl
  have h := hQ
  unfold wp_X5_atPower at h
  have hw_0 := hts (.constantLong RX5 43 (-1)) (by decide +kernel)
  refine lv_iload_n hx hb dX5_atPower_0 rfl (lv_at hl 0 rfl) ?_
  by_cases c_1 : p0 = (1 : Int32)
  · refine lv_tableIn (off := 51) (tgt := 52) hx hb dX5_atPower_1 (by rw [c_1]; decide) (by rw [c_1]; decide) (by rw [c_1]; rfl) (by decide) ?_
    replace h := h.1 c_1
    refine lv_lconst (v := (1 : Int64)) hx hb dX5_atPower_52 (by decide) ?_
    have hP9 := hP.sub (ws' := []) [] rfl
    have hD9 := hD.sub (ws' := []) [] (by decide) rfl
    exact W.lret (v := (1 : Int64)) hx hb hr (fun t ht hW => ⟨⟨_, (), rfl, h, by rw [ht]; exact hP9, hD9⟩, hS.F ht⟩) hS.2.2 dX5_atPower_53
  by_cases c_2 : p0 = (2 : Int32)
  · refine lv_tableIn (off := 53) (tgt := 54) hx hb dX5_atPower_1 (by rw [c_2]; decide) (by rw [c_2]; decide) (by rw [c_2]; rfl) (by decide) ?_
    replace h := h.2.1 c_2
    refine lv_lload_n hx hb dX5_atPower_54 rfl (lv_at hl 1 rfl) ?_
    refine lv_iload_n hx hb dX5_atPower_55 rfl (lv_at hl 2 rfl) ?_
    have hPc := hP.sub (ws' := []) [] rfl
    have hDc := hD.sub (ws' := []) [] (by decide) rfl
    have hFc := va_free (wc := []) hD hS hA [] rfl
    refine va_calll (va_runS (As := [.long p1, .int p2]) (rest := []) ⟨hx, hb, hml, hown, hts⟩ (c_X5_power l dC dI cI cJ cZ _ p1 p2 _ h) (va_cwS 2 hts gX5_atPower_X5_power rfl rfl rfl (by decide +kernel) ⟨Nat.le_of_ble_eq_true rfl, Nat.le_of_ble_eq_true rfl⟩) ⟨pre_fb, pre_of hPc hDc hK hN⟩ rfl rfl hl.1 rfl (lv_room (Nat.le_of_ble_eq_true rfl)) dX5_atPower_56 ⟨by first | exact Nat.le_of_ble_eq_true rfl | exact Nat.le_refl _, by first | exact Nat.le_of_ble_eq_true rfl | exact Nat.le_refl _⟩) hS (fun q _ h => hFc q h) hFc (fun r_3 u t H1 locs ht hvm h hB hz1 hk1 hS => ?_)
    obtain ⟨hP1, hD1⟩ := hB
    rw [ht] at hP1
    try dsimp only at h
    obtain ⟨hP, hD⟩ := va_join (wr := []) (w1 := []) hP hD [] [] rfl rfl (by decide) (by decide) hk1 hFc hP1 hD1
    generalize H1 = H at hP hS ⊢
    have hP : va_P (dC, dI) vwCl [] H := hP
    have hD : va_D A [] := hD
    have hP9 := hP.sub (ws' := []) [] rfl
    have hD9 := hD.sub (ws' := []) [] (by decide) rfl
    exact W.lret (v := r_3) hx hb hr (fun t ht hW => ⟨⟨_, (), rfl, h, by rw [ht]; exact hP9, hD9⟩, hS.F ht⟩) hS.2.2 dX5_atPower_59
  by_cases c_4 : p0 = (3 : Int32)
  · refine lv_tableIn (off := 59) (tgt := 60) hx hb dX5_atPower_1 (by rw [c_4]; decide) (by rw [c_4]; decide) (by rw [c_4]; rfl) (by decide) ?_
    replace h := h.2.2.1 c_4
    refine lv_iload_n hx hb dX5_atPower_60 rfl (lv_at hl 2 rfl) ?_
    refine lv_iconst (v := (1 : Int32)) hx hb dX5_atPower_61 (by decide) ?_
    refine lv_icmp_ne (tgt := 71) hx hb dX5_atPower_62 (by decide) (fun c_5 => ?_) (fun c_5 => ?_)
    · replace h := h.2 c_5
      refine lv_lconst (v := (0 : Int64)) hx hb dX5_atPower_71 (by decide) ?_
      have hP9 := hP.sub (ws' := []) [] rfl
      have hD9 := hD.sub (ws' := []) [] (by decide) rfl
      exact W.lret (v := (0 : Int64)) hx hb hr (fun t ht hW => ⟨⟨_, (), rfl, h, by rw [ht]; exact hP9, hD9⟩, hS.F ht⟩) hS.2.2 dX5_atPower_72
    · replace h := h.1 c_5
      refine lv_ldc2 hx hb hown hw_0 dX5_atPower_65 ?_
      refine lv_goto (tgt := 72) hx hb dX5_atPower_68 (by decide) ?_
      have hP9 := hP.sub (ws' := []) [] rfl
      have hD9 := hD.sub (ws' := []) [] (by decide) rfl
      exact W.lret (v := (-1 : Int64)) hx hb hr (fun t ht hW => ⟨⟨_, (), rfl, h, by rw [ht]; exact hP9, hD9⟩, hS.F ht⟩) hS.2.2 dX5_atPower_72
  by_cases c_6 : p0 = (4 : Int32)
  · refine lv_tableIn (off := 72) (tgt := 73) hx hb dX5_atPower_1 (by rw [c_6]; decide) (by rw [c_6]; decide) (by rw [c_6]; rfl) (by decide) ?_
    replace h := h.2.2.2.1 c_6
    refine lv_lload_n hx hb dX5_atPower_73 rfl (lv_at hl 1 rfl) ?_
    refine lv_iload_n hx hb dX5_atPower_74 rfl (lv_at hl 2 rfl) ?_
    have hPc := hP.sub (ws' := []) [] rfl
    have hDc := hD.sub (ws' := []) [] (by decide) rfl
    have hFc := va_free (wc := []) hD hS hA [] rfl
    refine va_calll (va_runS (As := [.long p1, .int p2]) (rest := []) ⟨hx, hb, hml, hown, hts⟩ (c_X5_power l dC dI cI cJ cZ _ p1 p2 _ h) (va_cwS 2 hts gX5_atPower_X5_power rfl rfl rfl (by decide +kernel) ⟨Nat.le_of_ble_eq_true rfl, Nat.le_of_ble_eq_true rfl⟩) ⟨pre_fb, pre_of hPc hDc hK hN⟩ rfl rfl hl.1 rfl (lv_room (Nat.le_of_ble_eq_true rfl)) dX5_atPower_75 ⟨by first | exact Nat.le_of_ble_eq_true rfl | exact Nat.le_refl _, by first | exact Nat.le_of_ble_eq_true rfl | exact Nat.le_refl _⟩) hS (fun q _ h => hFc q h) hFc (fun r_7 u t H1 locs ht hvm h hB hz1 hk1 hS => ?_)
    obtain ⟨hP1, hD1⟩ := hB
    rw [ht] at hP1
    try dsimp only at h
    obtain ⟨hP, hD⟩ := va_join (wr := []) (w1 := []) hP hD [] [] rfl rfl (by decide) (by decide) hk1 hFc hP1 hD1
    generalize H1 = H at hP hS ⊢
    have hP : va_P (dC, dI) vwCl [] H := hP
    have hD : va_D A [] := hD
    refine lv_lload_n hx hb dX5_atPower_78 rfl (lv_at hl 1 rfl) ?_
    refine lv_iload_n hx hb dX5_atPower_79 rfl (lv_at hl 2 rfl) ?_
    refine lv_iconst (v := (1 : Int32)) hx hb dX5_atPower_80 (by decide) ?_
    refine lv_isub hx hb dX5_atPower_81 ?_
    have hPc := hP.sub (ws' := []) [] rfl
    have hDc := hD.sub (ws' := []) [] (by decide) rfl
    have hFc := va_free (wc := []) hD hS hA [] rfl
    refine va_calll (va_runS (As := [.long p1, .int (p2 - (1 : Int32))]) (rest := [.long r_7]) ⟨hx, hb, hml, hown, hts⟩ (c_X5_power l dC dI cI cJ cZ _ p1 (p2 - (1 : Int32)) _ h) (va_cwS 2 hts gX5_atPower_X5_power rfl rfl rfl (by decide +kernel) ⟨Nat.le_of_ble_eq_true rfl, Nat.le_of_ble_eq_true rfl⟩) ⟨pre_fb, pre_of hPc hDc hK hN⟩ rfl rfl hl.1 rfl (lv_room (Nat.le_of_ble_eq_true rfl)) dX5_atPower_82 ⟨by first | exact Nat.le_of_ble_eq_true rfl | exact Nat.le_refl _, by first | exact Nat.le_of_ble_eq_true rfl | exact Nat.le_refl _⟩) hS (fun q _ h => hFc q h) hFc (fun r_8 u t H1 locs ht hvm h hB hz1 hk1 hS => ?_)
    obtain ⟨hP1, hD1⟩ := hB
    rw [ht] at hP1
    try dsimp only at h
    obtain ⟨hP, hD⟩ := va_join (wr := []) (w1 := []) hP hD [] [] rfl rfl (by decide) (by decide) hk1 hFc hP1 hD1
    generalize H1 = H at hP hS ⊢
    have hP : va_P (dC, dI) vwCl [] H := hP
    have hD : va_D A [] := hD
    refine lv_lsub hx hb dX5_atPower_85 ?_
    have hP9 := hP.sub (ws' := []) [] rfl
    have hD9 := hD.sub (ws' := []) [] (by decide) rfl
    exact W.lret (v := (r_7 - r_8)) hx hb hr (fun t ht hW => ⟨⟨_, (), rfl, h, by rw [ht]; exact hP9, hD9⟩, hS.F ht⟩) hS.2.2 dX5_atPower_86
  by_cases c_9 : p0 = (5 : Int32)
  · refine lv_tableIn (off := 86) (tgt := 87) hx hb dX5_atPower_1 (by rw [c_9]; decide) (by rw [c_9]; decide) (by rw [c_9]; rfl) (by decide) ?_
    replace h := h.2.2.2.2.1 c_9
    refine lv_iload_n hx hb dX5_atPower_87 rfl (lv_at hl 2 rfl) ?_
    refine lv_iconst (v := (1 : Int32)) hx hb dX5_atPower_88 (by decide) ?_
    refine lv_iadd hx hb dX5_atPower_89 ?_
    refine lv_i2l hx hb dX5_atPower_90 rfl ?_
    have hP9 := hP.sub (ws' := []) [] rfl
    have hD9 := hD.sub (ws' := []) [] (by decide) rfl
    exact W.lret (v := (p2 + (1 : Int32)).toInt64) hx hb hr (fun t ht hW => ⟨⟨_, (), rfl, h, by rw [ht]; exact hP9, hD9⟩, hS.F ht⟩) hS.2.2 dX5_atPower_91
  by_cases c_10 : p0 = (6 : Int32)
  · refine lv_tableIn (off := 91) (tgt := 92) hx hb dX5_atPower_1 (by rw [c_10]; decide) (by rw [c_10]; decide) (by rw [c_10]; rfl) (by decide) ?_
    replace h := h.2.2.2.2.2.1 c_10
    refine lv_lload_n hx hb dX5_atPower_92 rfl (lv_at hl 1 rfl) ?_
    refine lv_iload_n hx hb dX5_atPower_93 rfl (lv_at hl 2 rfl) ?_
    have hPc := hP.sub (ws' := []) [] rfl
    have hDc := hD.sub (ws' := []) [] (by decide) rfl
    have hFc := va_free (wc := []) hD hS hA [] rfl
    refine va_calll (va_runS (As := [.long p1, .int p2]) (rest := []) ⟨hx, hb, hml, hown, hts⟩ (c_X5_powersUpTo l dC dI cI cJ cZ _ p1 p2 _ h) (va_cwS 2 hts gX5_atPower_X5_powersUpTo rfl rfl rfl (by decide +kernel) ⟨Nat.le_of_ble_eq_true rfl, Nat.le_of_ble_eq_true rfl⟩) ⟨pre_fb, pre_of hPc hDc hK hN⟩ rfl rfl hl.1 rfl (lv_room (Nat.le_of_ble_eq_true rfl)) dX5_atPower_94 ⟨by first | exact Nat.le_of_ble_eq_true rfl | exact Nat.le_refl _, by first | exact Nat.le_of_ble_eq_true rfl | exact Nat.le_refl _⟩) hS (fun q _ h => hFc q h) hFc (fun r_11 u t H1 locs ht hvm h hB hz1 hk1 hS => ?_)
    obtain ⟨hP1, hD1⟩ := hB
    rw [ht] at hP1
    try dsimp only at h
    obtain ⟨hP, hD⟩ := va_join (wr := []) (w1 := []) hP hD [] [] rfl rfl (by decide) (by decide) hk1 hFc hP1 hD1
    generalize H1 = H at hP hS ⊢
    have hP : va_P (dC, dI) vwCl [] H := hP
    have hD : va_D A [] := hD
    have hP9 := hP.sub (ws' := []) [] rfl
    have hD9 := hD.sub (ws' := []) [] (by decide) rfl
    exact W.lret (v := r_11) hx hb hr (fun t ht hW => ⟨⟨_, (), rfl, h, by rw [ht]; exact hP9, hD9⟩, hS.F ht⟩) hS.2.2 dX5_atPower_97
  by_cases c_12 : p0 = (7 : Int32)
  · refine lv_tableIn (off := 97) (tgt := 98) hx hb dX5_atPower_1 (by rw [c_12]; decide) (by rw [c_12]; decide) (by rw [c_12]; rfl) (by decide) ?_
    replace h := h.2.2.2.2.2.2.1 c_12
    refine lv_iload_n hx hb dX5_atPower_98 rfl (lv_at hl 2 rfl) ?_
    refine lv_iconst (v := (2 : Int32)) hx hb dX5_atPower_99 (by decide) ?_
    refine lv_irem hx hb dX5_atPower_100 (by decide) ?_
    refine lv_if_ne (tgt := 108) hx hb dX5_atPower_101 (by decide) (fun c_13 => ?_) (fun c_13 => ?_)
    · replace h := h.2 c_13
      refine lv_ldc2 hx hb hown hw_0 dX5_atPower_108 ?_
      have hP9 := hP.sub (ws' := []) [] rfl
      have hD9 := hD.sub (ws' := []) [] (by decide) rfl
      exact W.lret (v := (-1 : Int64)) hx hb hr (fun t ht hW => ⟨⟨_, (), rfl, h, by rw [ht]; exact hP9, hD9⟩, hS.F ht⟩) hS.2.2 dX5_atPower_111
    · replace h := h.1 c_13
      refine lv_lconst (v := (1 : Int64)) hx hb dX5_atPower_104 (by decide) ?_
      refine lv_goto (tgt := 111) hx hb dX5_atPower_105 (by decide) ?_
      have hP9 := hP.sub (ws' := []) [] rfl
      have hD9 := hD.sub (ws' := []) [] (by decide) rfl
      exact W.lret (v := (1 : Int64)) hx hb hr (fun t ht hW => ⟨⟨_, (), rfl, h, by rw [ht]; exact hP9, hD9⟩, hS.F ht⟩) hS.2.2 dX5_atPower_111
  by_cases c_14 : p0 = (8 : Int32)
  · refine lv_tableIn (off := 111) (tgt := 112) hx hb dX5_atPower_1 (by rw [c_14]; decide) (by rw [c_14]; decide) (by rw [c_14]; rfl) (by decide) ?_
    replace h := h.2.2.2.2.2.2.2.1 c_14
    refine lv_iload_n hx hb dX5_atPower_112 rfl (lv_at hl 2 rfl) ?_
    refine lv_iconst (v := (1 : Int32)) hx hb dX5_atPower_113 (by decide) ?_
    refine lv_icmp_ne (tgt := 121) hx hb dX5_atPower_114 (by decide) (fun c_15 => ?_) (fun c_15 => ?_)
    · replace h := h.2 c_15
      refine lv_lconst (v := (0 : Int64)) hx hb dX5_atPower_121 (by decide) ?_
      have hP9 := hP.sub (ws' := []) [] rfl
      have hD9 := hD.sub (ws' := []) [] (by decide) rfl
      exact W.lret (v := (0 : Int64)) hx hb hr (fun t ht hW => ⟨⟨_, (), rfl, h, by rw [ht]; exact hP9, hD9⟩, hS.F ht⟩) hS.2.2 dX5_atPower_122
    · replace h := h.1 c_15
      refine lv_lconst (v := (1 : Int64)) hx hb dX5_atPower_117 (by decide) ?_
      refine lv_goto (tgt := 122) hx hb dX5_atPower_118 (by decide) ?_
      have hP9 := hP.sub (ws' := []) [] rfl
      have hD9 := hD.sub (ws' := []) [] (by decide) rfl
      exact W.lret (v := (1 : Int64)) hx hb hr (fun t ht hW => ⟨⟨_, (), rfl, h, by rw [ht]; exact hP9, hD9⟩, hS.F ht⟩) hS.2.2 dX5_atPower_122
  by_cases c_16 : p0 = (9 : Int32)
  · refine lv_tableIn (off := 122) (tgt := 123) hx hb dX5_atPower_1 (by rw [c_16]; decide) (by rw [c_16]; decide) (by rw [c_16]; rfl) (by decide) ?_
    replace h := h.2.2.2.2.2.2.2.2.1 c_16
    refine lv_lload_n hx hb dX5_atPower_123 rfl (lv_at hl 1 rfl) ?_
    refine lv_iconst (v := (2 : Int32)) hx hb dX5_atPower_124 (by decide) ?_
    refine lv_iload_n hx hb dX5_atPower_125 rfl (lv_at hl 2 rfl) ?_
    refine lv_imul hx hb dX5_atPower_126 ?_
    have hPc := hP.sub (ws' := []) [] rfl
    have hDc := hD.sub (ws' := []) [] (by decide) rfl
    have hFc := va_free (wc := []) hD hS hA [] rfl
    refine va_calll (va_runS (As := [.long p1, .int ((2 : Int32) * p2)]) (rest := []) ⟨hx, hb, hml, hown, hts⟩ (c_X5_power l dC dI cI cJ cZ _ p1 ((2 : Int32) * p2) _ h) (va_cwS 2 hts gX5_atPower_X5_power rfl rfl rfl (by decide +kernel) ⟨Nat.le_of_ble_eq_true rfl, Nat.le_of_ble_eq_true rfl⟩) ⟨pre_fb, pre_of hPc hDc hK hN⟩ rfl rfl hl.1 rfl (lv_room (Nat.le_of_ble_eq_true rfl)) dX5_atPower_127 ⟨by first | exact Nat.le_of_ble_eq_true rfl | exact Nat.le_refl _, by first | exact Nat.le_of_ble_eq_true rfl | exact Nat.le_refl _⟩) hS (fun q _ h => hFc q h) hFc (fun r_17 u t H1 locs ht hvm h hB hz1 hk1 hS => ?_)
    obtain ⟨hP1, hD1⟩ := hB
    rw [ht] at hP1
    try dsimp only at h
    obtain ⟨hP, hD⟩ := va_join (wr := []) (w1 := []) hP hD [] [] rfl rfl (by decide) (by decide) hk1 hFc hP1 hD1
    generalize H1 = H at hP hS ⊢
    have hP : va_P (dC, dI) vwCl [] H := hP
    have hD : va_D A [] := hD
    have hP9 := hP.sub (ws' := []) [] rfl
    have hD9 := hD.sub (ws' := []) [] (by decide) rfl
    exact W.lret (v := r_17) hx hb hr (fun t ht hW => ⟨⟨_, (), rfl, h, by rw [ht]; exact hP9, hD9⟩, hS.F ht⟩) hS.2.2 dX5_atPower_130
  have t0 : p0.toInt ≠ 1 := fun q => c_1 (Int32.toInt_inj.mp (q.trans (by decide)))
  have t1 : p0.toInt ≠ 2 := fun q => c_2 (Int32.toInt_inj.mp (q.trans (by decide)))
  have t2 : p0.toInt ≠ 3 := fun q => c_4 (Int32.toInt_inj.mp (q.trans (by decide)))
  have t3 : p0.toInt ≠ 4 := fun q => c_6 (Int32.toInt_inj.mp (q.trans (by decide)))
  have t4 : p0.toInt ≠ 5 := fun q => c_9 (Int32.toInt_inj.mp (q.trans (by decide)))
  have t5 : p0.toInt ≠ 6 := fun q => c_10 (Int32.toInt_inj.mp (q.trans (by decide)))
  have t6 : p0.toInt ≠ 7 := fun q => c_12 (Int32.toInt_inj.mp (q.trans (by decide)))
  have t7 : p0.toInt ≠ 8 := fun q => c_14 (Int32.toInt_inj.mp (q.trans (by decide)))
  have t8 : p0.toInt ≠ 9 := fun q => c_16 (Int32.toInt_inj.mp (q.trans (by decide)))
  refine lv_tableOut (tgt := 131) hx hb dX5_atPower_1 (by omega) (by decide) ?_
  replace h := h.2.2.2.2.2.2.2.2.2 c_1 c_2 c_4 c_6 c_9 c_10 c_12 c_14 c_16
  refine lv_lconst (v := (0 : Int64)) hx hb dX5_atPower_131 (by decide) ?_
  have hP9 := hP.sub (ws' := []) [] rfl
  have hD9 := hD.sub (ws' := []) [] (by decide) rfl
  exact W.lret (v := (0 : Int64)) hx hb hr (fun t ht hW => ⟨⟨_, (), rfl, h, by rw [ht]; exact hP9, hD9⟩, hS.F ht⟩) hS.2.2 dX5_atPower_132
def wp_X5_fillByRule (a0_values : Nat → Int64) (p1 : Int32) (p2 : Int32) (Q : (Nat → Int64) → Prop) : Prop :=
  wp_X5_put a0_values p1 (1 : Int32) (1 : Int64) (fun o_1 => (∃ (I_9_1 : Int32 → (Nat → Int64) → Prop) (m_9_1 : Int32 → (Nat → Int64) → Nat), I_9_1 (2 : Int32) o_1 ∧ ∀ (l3_9_1 : Int32) (a0_values_9_1 : Nat → Int64), I_9_1 l3_9_1 a0_values_9_1 → (((600 : Int32) < l3_9_1 → Q a0_values_9_1) ∧ (¬ (600 : Int32) < l3_9_1 → wp_X5_leastDivisor l3_9_1 (fun r_4 => (∃ (I_31_4 : Int32 → Int32 → Int32 → Prop) (m_31_4 : Int32 → Int32 → Int32 → Nat), I_31_4 (0 : Int32) (0 : Int32) l3_9_1 ∧ ∀ (l7_31_4 : Int32) (l6_31_4 : Int32) (l5_31_4 : Int32), I_31_4 l7_31_4 l6_31_4 l5_31_4 → (((10 : Int32) ≤ l7_31_4 → wp_X5_atPower p2 (r_4.toInt64) l6_31_4 (fun r_7 => wp_X5_look a0_values_9_1 p1 l5_31_4 (fun r_8 => wp_X5_put a0_values_9_1 p1 l3_9_1 (r_7 * r_8) (fun o_9 => (∀ x3_10 : Int32, x3_10 = l3_9_1 + (1 : Int32) → (I_9_1 x3_10 o_9 ∧ m_9_1 x3_10 o_9 < m_9_1 l3_9_1 a0_values_9_1)))))) ∧ (¬ (10 : Int32) ≤ l7_31_4 → ((r_4 ≤ (1 : Int32) → wp_X5_atPower p2 (r_4.toInt64) l6_31_4 (fun r_12 => wp_X5_look a0_values_9_1 p1 l5_31_4 (fun r_13 => wp_X5_put a0_values_9_1 p1 l3_9_1 (r_12 * r_13) (fun o_14 => (∀ x3_15 : Int32, x3_15 = l3_9_1 + (1 : Int32) → (I_9_1 x3_15 o_14 ∧ m_9_1 x3_15 o_14 < m_9_1 l3_9_1 a0_values_9_1)))))) ∧ (¬ r_4 ≤ (1 : Int32) → (¬ r_4 = 0 ∧ (((l5_31_4 - l5_31_4 / r_4 * r_4) = (0 : Int32) → (¬ r_4 = 0 ∧ (∀ x5_23 : Int32, x5_23 = (l5_31_4 / r_4) → (∀ x6_24 : Int32, x6_24 = l6_31_4 + (1 : Int32) → (∀ x7_25 : Int32, x7_25 = l7_31_4 + (1 : Int32) → (I_31_4 x7_25 x6_24 x5_23 ∧ m_31_4 x7_25 x6_24 x5_23 < m_31_4 l7_31_4 l6_31_4 l5_31_4)))))) ∧ (¬ (l5_31_4 - l5_31_4 / r_4 * r_4) = (0 : Int32) → wp_X5_atPower p2 (r_4.toInt64) l6_31_4 (fun r_18 => wp_X5_look a0_values_9_1 p1 l5_31_4 (fun r_19 => wp_X5_put a0_values_9_1 p1 l3_9_1 (r_18 * r_19) (fun o_20 => (∀ x3_21 : Int32, x3_21 = l3_9_1 + (1 : Int32) → (I_9_1 x3_21 o_20 ∧ m_9_1 x3_21 o_20 < m_9_1 l3_9_1 a0_values_9_1))))))))))))))))))
abbrev rm_X5_fillByRule : Room := { frames := 2, cells := 0, slots := 0, locals := 48 }
abbrev qc_X5_fillByRule (dC : Nat → ClassId) (dI : Nat → Nat → Nat) (cI cJ cZ : ClassId) (h_a0 : Nat) (a0_values : Nat → Int64) (q_a0_values : Nat) (a0_many : Int32) (Q : (Nat → Int64) → Prop) (A : Nat → Prop) : Array Value → State → Outcome → State → Prop := va_Qv (fun (u : (Nat → Int64)) => Q u) (post_ dC dI A (fun (u : (Nat → Int64)) => [(h_a0, .inr (5, [.ref q_a0_values, .int a0_many])), (q_a0_values, .inl (cJ, 9600, .inr (.inl u)))])) A
set_option maxHeartbeats 4000000 in
set_option maxRecDepth 100000 in
theorem c_X5_fillByRule (l : Launch) (dC : Nat → ClassId) (dI : Nat → Nat → Nat) (cI cJ cZ : ClassId) (sz : Nat) (h_a0 : Nat) (a0_values : Nat → Int64) (q_a0_values : Nat) (a0_many : Int32) (p1 : Int32) (p2 : Int32) (Q : (Nat → Int64) → Prop) (hQ : wp_X5_fillByRule a0_values p1 p2 Q) : Met l yX5_fillByRule wsX5_fillByRule rm_X5_fillByRule (pre_ dC dI cI cJ cZ [.ref h_a0, .int p1, .int p2] [(h_a0, .inr (5, [.ref q_a0_values, .int a0_many])), (q_a0_values, .inl (cJ, 9600, .inr (.inl a0_values)))] sz) (qc_X5_fillByRule dC dI cI cJ cZ h_a0 a0_values q_a0_values a0_many Q (va_A [(h_a0, .inr (5, [.ref q_a0_values, .int a0_many])), (q_a0_values, .inl (cJ, 9600, .inr (.inl a0_values)))] sz)) 0 0 (va_A [(h_a0, .inr (5, [.ref q_a0_values, .int a0_many])), (q_a0_values, .inl (cJ, 9600, .inr (.inl a0_values)))] sz) := by
  refine Met.ofW (cc := cX5_fillByRule) (maxL := 8) (ret := none) (by decide) rfl ?_
  intro p e s m args below meth c s₁ B hml hv
  obtain ⟨rfl, hsz, hP, hK, hN, hD0⟩ := hv
  have hx := B.exec
  have hb := B.bytes
  have hr := B.returns
  have hts := atoms_spec (ws := wsX5_fillByRule) B.pre
  have hown : s.vm.findClass RX5 = some m.cls := findClass_of_methodNamed B.named
  subst hsz
  have hD := hD0.self (sz := s.heap.size)
  generalize hAe : va_A [(h_a0, .inr (5, [.ref q_a0_values, .int a0_many])), (q_a0_values, .inl (cJ, 9600, .inr (.inl a0_values)))] s.heap.size = A at hD ⊢
  have hA : ∀ q : Nat, s.heap.size ≤ q → A q := fun q h => by rw [← hAe]; exact Or.inr h
  have hS : va_S A s.heap s.heap [] := va_S.rf
  have hl := lv_entry ([.ref h_a0, .int p1, .int p2]) (n := 8) (Nat.le_of_ble_eq_true rfl)
  rw [lg_entry_eq]
  generalize (lg_sl ([.ref h_a0, .int p1, .int p2]) ++ List.replicate (8 - (lg_sl ([.ref h_a0, .int p1, .int p2])).length) Slot.unset).toArray = ls at hl ⊢
  have hl : lv_has ls 8 [(0, .ref h_a0), (1, .int p1), (2, .int p2)] := hl
  have h := hQ
  unfold wp_X5_fillByRule at h
  refine lv_aload_n hx hb dX5_fillByRule_0 rfl (lv_at hl 0 rfl) ?_
  refine lv_iload_n hx hb dX5_fillByRule_1 rfl (lv_at hl 1 rfl) ?_
  refine lv_iconst (v := (1 : Int32)) hx hb dX5_fillByRule_2 (by decide) ?_
  refine lv_lconst (v := (1 : Int64)) hx hb dX5_fillByRule_3 (by decide) ?_
  have hPc := hP.sub (ws' := [(h_a0, .inr (5, [.ref q_a0_values, .int a0_many])), (q_a0_values, .inl (cJ, 9600, .inr (.inl a0_values)))]) [0, 1] rfl
  have hDc := hD.sub (ws' := [(h_a0, .inr (5, [.ref q_a0_values, .int a0_many])), (q_a0_values, .inl (cJ, 9600, .inr (.inl a0_values)))]) [0, 1] (by decide) rfl
  have hFc := va_free (wc := [(h_a0, .inr (5, [.ref q_a0_values, .int a0_many])), (q_a0_values, .inl (cJ, 9600, .inr (.inl a0_values)))]) hD hS hA [0, 1] rfl
  refine va_callv (va_runV (As := [.int p1, .int (1 : Int32), .long (1 : Int64)]) (rest := []) ⟨hx, hb, hml, hown, hts⟩ (c_X5_put l dC dI cI cJ cZ _ h_a0 a0_values q_a0_values a0_many p1 (1 : Int32) (1 : Int64) _ h) (cwV 3 hts gX5_fillByRule_X5_put rfl rfl rfl (by decide +kernel) ⟨Nat.le_of_ble_eq_true rfl, Nat.le_of_ble_eq_true rfl⟩) ⟨pre_fb, va_recv hK hPc (ci := 5) (q0 := 0) rfl rfl, pre_of hPc hDc hK hN⟩ rfl rfl hl.1 rfl (lv_room (Nat.le_of_ble_eq_true rfl)) dX5_fillByRule_4 ⟨by first | exact Nat.le_of_ble_eq_true rfl | exact Nat.le_refl _, by first | exact Nat.le_of_ble_eq_true rfl | exact Nat.le_refl _⟩) hS (fun q _ h => hFc q h) hFc (fun u t H1 locs ht hvm h hB hz1 hk1 hS => ?_)
  obtain ⟨o_1, rfl⟩ : ∃ z, z = u := ⟨_, rfl⟩
  obtain ⟨hP1, hD1⟩ := hB
  rw [ht] at hP1
  try dsimp only at h
  obtain ⟨hP, hD⟩ := va_join (wr := []) (w1 := [(h_a0, .inr (5, [.ref q_a0_values, .int a0_many])), (q_a0_values, .inl (cJ, 9600, .inr (.inl o_1)))]) hP hD [0, 1] [] rfl rfl (by decide) (by decide) hk1 hFc hP1 hD1
  generalize H1 = H at hP hS ⊢
  have hP : va_P (dC, dI) vwCl [(h_a0, .inr (5, [.ref q_a0_values, .int a0_many])), (q_a0_values, .inl (cJ, 9600, .inr (.inl o_1)))] H := hP
  have hD : va_D A [(h_a0, .inr (5, [.ref q_a0_values, .int a0_many])), (q_a0_values, .inl (cJ, 9600, .inr (.inl o_1)))] := hD
  refine lv_iconst (v := (2 : Int32)) hx hb dX5_fillByRule_7 (by decide) ?_
  refine lv_istore_n (lv' := [(3, .int (2 : Int32)), (0, .ref h_a0), (1, .int p1), (2, .int p2)]) hx hb dX5_fillByRule_8 rfl hl (by decide) rfl (fun ls hl => ?_)
  obtain ⟨I_9_1, m_9_1, h0_9_1, hs_9_1⟩ := h
  have key_9_1 : ∀ (n : Nat) (l3_9_1 : Int32) (a0_values_9_1 : Nat → Int64), m_9_1 l3_9_1 a0_values_9_1 < n → I_9_1 l3_9_1 a0_values_9_1 → ∀ (ls : Array Slot) (H : Heap) (locs : List Loc), lv_has ls 8 [(3, .int l3_9_1), (0, .ref h_a0), (1, .int p1), (2, .int p2)] → va_P (dC, dI) vwCl [(h_a0, .inr (5, [.ref q_a0_values, .int a0_many])), (q_a0_values, .inl (cJ, 9600, .inr (.inl a0_values_9_1)))] H → va_D A [(h_a0, .inr (5, [.ref q_a0_values, .int a0_many])), (q_a0_values, .inl (cJ, 9600, .inr (.inl a0_values_9_1)))] → va_S A s.heap H locs → W p l e (headSpec wsX5_fillByRule rm_X5_fillByRule).room s m ([.ref h_a0, .int p1, .int p2] : List Value).toArray below meth c H locs 0 0 (MQ below (qc_X5_fillByRule dC dI cI cJ cZ h_a0 a0_values q_a0_values a0_many Q A) ([.ref h_a0, .int p1, .int p2] : List Value).toArray s 0 0 A) (F0 m 9 ls []) := by
    intro n
    induction n with
    | zero =>
      intro l3_9_1 a0_values_9_1 hm
      exact absurd hm (Nat.not_lt_zero _)
    | succ n ih_9_1 =>
      intro l3_9_1 a0_values_9_1 hm_9_1 hI ls H locs hl hP hD hS
      have h := hs_9_1 l3_9_1 a0_values_9_1 hI
      refine lv_iload_n hx hb dX5_fillByRule_9 rfl (lv_at hl 0 rfl) ?_
      refine lv_sipush (v := (600 : Int32)) hx hb dX5_fillByRule_10 (by decide) ?_
      refine lv_icmp_gt (tgt := 97) hx hb dX5_fillByRule_13 (by decide) (fun c_3 => ?_) (fun c_3 => ?_)
      · replace h := h.1 c_3
        have hP9 := hP.sub (ws' := [(h_a0, .inr (5, [.ref q_a0_values, .int a0_many])), (q_a0_values, .inl (cJ, 9600, .inr (.inl a0_values_9_1)))]) [0, 1] rfl
        have hD9 := hD.sub (ws' := [(h_a0, .inr (5, [.ref q_a0_values, .int a0_many])), (q_a0_values, .inl (cJ, 9600, .inr (.inl a0_values_9_1)))]) [0, 1] (by decide) rfl
        exact W.vret hx hb hr (fun t ht hW => ⟨⟨a0_values_9_1, rfl, h, by rw [ht]; exact hP9, hD9⟩, hS.F ht⟩) hS.2.2 dX5_fillByRule_97
      · replace h := h.2 c_3
        refine lv_iload_n hx hb dX5_fillByRule_16 rfl (lv_at hl 0 rfl) ?_
        have hPc := hP.sub (ws' := []) [] rfl
        have hDc := hD.sub (ws' := []) [] (by decide) rfl
        have hFc := va_free (wc := []) hD hS hA [] rfl
        refine va_calli (va_runS (As := [.int l3_9_1]) (rest := []) ⟨hx, hb, hml, hown, hts⟩ (c_X5_leastDivisor l dC dI cI cJ cZ _ l3_9_1 _ h) (va_cwS 1 hts gX5_fillByRule_X5_leastDivisor rfl rfl rfl (by decide +kernel) ⟨Nat.le_of_ble_eq_true rfl, Nat.le_of_ble_eq_true rfl⟩) ⟨pre_fb, pre_of hPc hDc hK hN⟩ rfl rfl hl.1 rfl (lv_room (Nat.le_of_ble_eq_true rfl)) dX5_fillByRule_17 ⟨by first | exact Nat.le_of_ble_eq_true rfl | exact Nat.le_refl _, by first | exact Nat.le_of_ble_eq_true rfl | exact Nat.le_refl _⟩) hS (fun q _ h => hFc q h) hFc (fun r_4 u t H1 locs ht hvm h hB hz1 hk1 hS => ?_)
        obtain ⟨hP1, hD1⟩ := hB
        rw [ht] at hP1
        try dsimp only at h
        obtain ⟨hP, hD⟩ := va_join (wr := [(h_a0, .inr (5, [.ref q_a0_values, .int a0_many])), (q_a0_values, .inl (cJ, 9600, .inr (.inl a0_values_9_1)))]) (w1 := []) hP hD [] [0, 1] rfl rfl (by decide) (by decide) hk1 hFc hP1 hD1
        generalize H1 = H at hP hS ⊢
        have hP : va_P (dC, dI) vwCl [(h_a0, .inr (5, [.ref q_a0_values, .int a0_many])), (q_a0_values, .inl (cJ, 9600, .inr (.inl a0_values_9_1)))] H := hP
        have hD : va_D A [(h_a0, .inr (5, [.ref q_a0_values, .int a0_many])), (q_a0_values, .inl (cJ, 9600, .inr (.inl a0_values_9_1)))] := hD
        refine lv_istore (lv' := [(4, .int r_4), (3, .int l3_9_1), (0, .ref h_a0), (1, .int p1), (2, .int p2)]) hx hb dX5_fillByRule_20 hl (by decide) rfl (fun ls hl => ?_)
        refine lv_iload_n hx hb dX5_fillByRule_22 rfl (lv_at hl 1 rfl) ?_
        refine lv_istore (lv' := [(5, .int l3_9_1), (4, .int r_4), (3, .int l3_9_1), (0, .ref h_a0), (1, .int p1), (2, .int p2)]) hx hb dX5_fillByRule_23 hl (by decide) rfl (fun ls hl => ?_)
        refine lv_iconst (v := (0 : Int32)) hx hb dX5_fillByRule_25 (by decide) ?_
        refine lv_istore (lv' := [(6, .int (0 : Int32)), (5, .int l3_9_1), (4, .int r_4), (3, .int l3_9_1), (0, .ref h_a0), (1, .int p1), (2, .int p2)]) hx hb dX5_fillByRule_26 hl (by decide) rfl (fun ls hl => ?_)
        refine lv_iconst (v := (0 : Int32)) hx hb dX5_fillByRule_28 (by decide) ?_
        refine lv_istore (lv' := [(7, .int (0 : Int32)), (6, .int (0 : Int32)), (5, .int l3_9_1), (4, .int r_4), (3, .int l3_9_1), (0, .ref h_a0), (1, .int p1), (2, .int p2)]) hx hb dX5_fillByRule_29 hl (by decide) rfl (fun ls hl => ?_)
        obtain ⟨I_31_4, m_31_4, h0_31_4, hs_31_4⟩ := h
        have key_31_4 : ∀ (n : Nat) (l7_31_4 : Int32) (l6_31_4 : Int32) (l5_31_4 : Int32), m_31_4 l7_31_4 l6_31_4 l5_31_4 < n → I_31_4 l7_31_4 l6_31_4 l5_31_4 → ∀ (ls : Array Slot) (H : Heap) (locs : List Loc), lv_has ls 8 [(7, .int l7_31_4), (6, .int l6_31_4), (5, .int l5_31_4), (4, .int r_4), (3, .int l3_9_1), (0, .ref h_a0), (1, .int p1), (2, .int p2)] → va_P (dC, dI) vwCl [(h_a0, .inr (5, [.ref q_a0_values, .int a0_many])), (q_a0_values, .inl (cJ, 9600, .inr (.inl a0_values_9_1)))] H → va_D A [(h_a0, .inr (5, [.ref q_a0_values, .int a0_many])), (q_a0_values, .inl (cJ, 9600, .inr (.inl a0_values_9_1)))] → va_S A s.heap H locs → W p l e (headSpec wsX5_fillByRule rm_X5_fillByRule).room s m ([.ref h_a0, .int p1, .int p2] : List Value).toArray below meth c H locs 0 0 (MQ below (qc_X5_fillByRule dC dI cI cJ cZ h_a0 a0_values q_a0_values a0_many Q A) ([.ref h_a0, .int p1, .int p2] : List Value).toArray s 0 0 A) (F0 m 31 ls []) := by
          intro n
          induction n with
          | zero =>
            intro l7_31_4 l6_31_4 l5_31_4 hm
            exact absurd hm (Nat.not_lt_zero _)
          | succ n ih_31_4 =>
            intro l7_31_4 l6_31_4 l5_31_4 hm_31_4 hI ls H locs hl hP hD hS
            have h := hs_31_4 l7_31_4 l6_31_4 l5_31_4 hI
            refine lv_iload hx hb dX5_fillByRule_31 (lv_at hl 0 rfl) ?_
            refine lv_bipush (v := (10 : Int32)) hx hb dX5_fillByRule_33 (by decide) ?_
            refine lv_icmp_ge (tgt := 68) hx hb dX5_fillByRule_35 (by decide) (fun c_6 => ?_) (fun c_6 => ?_)
            · replace h := h.1 c_6
              refine lv_aload_n hx hb dX5_fillByRule_68 rfl (lv_at hl 5 rfl) ?_
              refine lv_iload_n hx hb dX5_fillByRule_69 rfl (lv_at hl 6 rfl) ?_
              refine lv_iload_n hx hb dX5_fillByRule_70 rfl (lv_at hl 4 rfl) ?_
              refine lv_iload_n hx hb dX5_fillByRule_71 rfl (lv_at hl 7 rfl) ?_
              refine lv_iload hx hb dX5_fillByRule_72 (lv_at hl 3 rfl) ?_
              refine lv_i2l hx hb dX5_fillByRule_74 rfl ?_
              refine lv_iload hx hb dX5_fillByRule_75 (lv_at hl 1 rfl) ?_
              have hPc := hP.sub (ws' := []) [] rfl
              have hDc := hD.sub (ws' := []) [] (by decide) rfl
              have hFc := va_free (wc := []) hD hS hA [] rfl
              refine va_calll (va_runS (As := [.int p2, .long r_4.toInt64, .int l6_31_4]) (rest := [.int l3_9_1, .int p1, .ref h_a0]) ⟨hx, hb, hml, hown, hts⟩ (c_X5_atPower l dC dI cI cJ cZ _ p2 (r_4.toInt64) l6_31_4 _ h) (va_cwS 3 hts gX5_fillByRule_X5_atPower rfl rfl rfl (by decide +kernel) ⟨Nat.le_of_ble_eq_true rfl, Nat.le_of_ble_eq_true rfl⟩) ⟨pre_fb, pre_of hPc hDc hK hN⟩ rfl rfl hl.1 rfl (lv_room (Nat.le_of_ble_eq_true rfl)) dX5_fillByRule_77 ⟨by first | exact Nat.le_of_ble_eq_true rfl | exact Nat.le_refl _, by first | exact Nat.le_of_ble_eq_true rfl | exact Nat.le_refl _⟩) hS (fun q _ h => hFc q h) hFc (fun r_7 u t H1 locs ht hvm h hB hz1 hk1 hS => ?_)
              obtain ⟨hP1, hD1⟩ := hB
              rw [ht] at hP1
              try dsimp only at h
              obtain ⟨hP, hD⟩ := va_join (wr := [(h_a0, .inr (5, [.ref q_a0_values, .int a0_many])), (q_a0_values, .inl (cJ, 9600, .inr (.inl a0_values_9_1)))]) (w1 := []) hP hD [] [0, 1] rfl rfl (by decide) (by decide) hk1 hFc hP1 hD1
              generalize H1 = H at hP hS ⊢
              have hP : va_P (dC, dI) vwCl [(h_a0, .inr (5, [.ref q_a0_values, .int a0_many])), (q_a0_values, .inl (cJ, 9600, .inr (.inl a0_values_9_1)))] H := hP
              have hD : va_D A [(h_a0, .inr (5, [.ref q_a0_values, .int a0_many])), (q_a0_values, .inl (cJ, 9600, .inr (.inl a0_values_9_1)))] := hD
              refine lv_aload_n hx hb dX5_fillByRule_80 rfl (lv_at hl 5 rfl) ?_
              refine lv_iload_n hx hb dX5_fillByRule_81 rfl (lv_at hl 6 rfl) ?_
              refine lv_iload hx hb dX5_fillByRule_82 (lv_at hl 2 rfl) ?_
              have hPc := hP.sub (ws' := [(h_a0, .inr (5, [.ref q_a0_values, .int a0_many])), (q_a0_values, .inl (cJ, 9600, .inr (.inl a0_values_9_1)))]) [0, 1] rfl
              have hDc := hD.sub (ws' := [(h_a0, .inr (5, [.ref q_a0_values, .int a0_many])), (q_a0_values, .inl (cJ, 9600, .inr (.inl a0_values_9_1)))]) [0, 1] (by decide) rfl
              have hFc := va_free (wc := [(h_a0, .inr (5, [.ref q_a0_values, .int a0_many])), (q_a0_values, .inl (cJ, 9600, .inr (.inl a0_values_9_1)))]) hD hS hA [0, 1] rfl
              refine va_calll (va_runV (As := [.int p1, .int l5_31_4]) (rest := [.long r_7, .int l3_9_1, .int p1, .ref h_a0]) ⟨hx, hb, hml, hown, hts⟩ (c_X5_look l dC dI cI cJ cZ _ h_a0 a0_values_9_1 q_a0_values a0_many p1 l5_31_4 _ h) (cwV 2 hts gX5_fillByRule_X5_look rfl rfl rfl (by decide +kernel) ⟨Nat.le_of_ble_eq_true rfl, Nat.le_of_ble_eq_true rfl⟩) ⟨pre_fb, va_recv hK hPc (ci := 5) (q0 := 0) rfl rfl, pre_of hPc hDc hK hN⟩ rfl rfl hl.1 rfl (lv_room (Nat.le_of_ble_eq_true rfl)) dX5_fillByRule_84 ⟨by first | exact Nat.le_of_ble_eq_true rfl | exact Nat.le_refl _, by first | exact Nat.le_of_ble_eq_true rfl | exact Nat.le_refl _⟩) hS (fun q _ h => hFc q h) hFc (fun r_8 u t H1 locs ht hvm h hB hz1 hk1 hS => ?_)
              obtain ⟨hP1, hD1⟩ := hB
              rw [ht] at hP1
              try dsimp only at h
              obtain ⟨hP, hD⟩ := va_join (wr := []) (w1 := [(h_a0, .inr (5, [.ref q_a0_values, .int a0_many])), (q_a0_values, .inl (cJ, 9600, .inr (.inl a0_values_9_1)))]) hP hD [0, 1] [] rfl rfl (by decide) (by decide) hk1 hFc hP1 hD1
              generalize H1 = H at hP hS ⊢
              have hP : va_P (dC, dI) vwCl [(h_a0, .inr (5, [.ref q_a0_values, .int a0_many])), (q_a0_values, .inl (cJ, 9600, .inr (.inl a0_values_9_1)))] H := hP
              have hD : va_D A [(h_a0, .inr (5, [.ref q_a0_values, .int a0_many])), (q_a0_values, .inl (cJ, 9600, .inr (.inl a0_values_9_1)))] := hD
              refine lv_lmul hx hb dX5_fillByRule_87 ?_
              have hPc := hP.sub (ws' := [(h_a0, .inr (5, [.ref q_a0_values, .int a0_many])), (q_a0_values, .inl (cJ, 9600, .inr (.inl a0_values_9_1)))]) [0, 1] rfl
              have hDc := hD.sub (ws' := [(h_a0, .inr (5, [.ref q_a0_values, .int a0_many])), (q_a0_values, .inl (cJ, 9600, .inr (.inl a0_values_9_1)))]) [0, 1] (by decide) rfl
              have hFc := va_free (wc := [(h_a0, .inr (5, [.ref q_a0_values, .int a0_many])), (q_a0_values, .inl (cJ, 9600, .inr (.inl a0_values_9_1)))]) hD hS hA [0, 1] rfl
              refine va_callv (va_runV (As := [.int p1, .int l3_9_1, .long (r_7 * r_8)]) (rest := []) ⟨hx, hb, hml, hown, hts⟩ (c_X5_put l dC dI cI cJ cZ _ h_a0 a0_values_9_1 q_a0_values a0_many p1 l3_9_1 (r_7 * r_8) _ h) (cwV 3 hts gX5_fillByRule_X5_put rfl rfl rfl (by decide +kernel) ⟨Nat.le_of_ble_eq_true rfl, Nat.le_of_ble_eq_true rfl⟩) ⟨pre_fb, va_recv hK hPc (ci := 5) (q0 := 0) rfl rfl, pre_of hPc hDc hK hN⟩ rfl rfl hl.1 rfl (lv_room (Nat.le_of_ble_eq_true rfl)) dX5_fillByRule_88 ⟨by first | exact Nat.le_of_ble_eq_true rfl | exact Nat.le_refl _, by first | exact Nat.le_of_ble_eq_true rfl | exact Nat.le_refl _⟩) hS (fun q _ h => hFc q h) hFc (fun u t H1 locs ht hvm h hB hz1 hk1 hS => ?_)
              obtain ⟨o_9, rfl⟩ : ∃ z, z = u := ⟨_, rfl⟩
              obtain ⟨hP1, hD1⟩ := hB
              rw [ht] at hP1
              try dsimp only at h
              obtain ⟨hP, hD⟩ := va_join (wr := []) (w1 := [(h_a0, .inr (5, [.ref q_a0_values, .int a0_many])), (q_a0_values, .inl (cJ, 9600, .inr (.inl o_9)))]) hP hD [0, 1] [] rfl rfl (by decide) (by decide) hk1 hFc hP1 hD1
              generalize H1 = H at hP hS ⊢
              have hP : va_P (dC, dI) vwCl [(h_a0, .inr (5, [.ref q_a0_values, .int a0_many])), (q_a0_values, .inl (cJ, 9600, .inr (.inl o_9)))] H := hP
              have hD : va_D A [(h_a0, .inr (5, [.ref q_a0_values, .int a0_many])), (q_a0_values, .inl (cJ, 9600, .inr (.inl o_9)))] := hD
              obtain ⟨x3_10, e_x3_10⟩ : ∃ y : Int32, y = l3_9_1 + (1 : Int32) := ⟨_, rfl⟩
              replace h := h x3_10 e_x3_10
              refine lv_iinc (v := x3_10) (lv' := [(3, .int x3_10), (7, .int l7_31_4), (6, .int l6_31_4), (5, .int l5_31_4), (4, .int r_4), (0, .ref h_a0), (1, .int p1), (2, .int p2)]) hx hb dX5_fillByRule_91 hl (k := 4) rfl (by rw [e_x3_10]; rfl) (by decide) rfl (fun ls hl => ?_)
              refine lv_goto (tgt := 9) hx hb dX5_fillByRule_94 (by decide) ?_
              exact ih_9_1 x3_10 o_9 (Nat.lt_of_lt_of_le h.2 (Nat.le_of_lt_succ hm_9_1)) h.1 _ _ _ (lv_sub hl [0, 5, 6, 7] rfl) (hP.sub [0, 1] rfl) (hD.sub [0, 1] (by decide) rfl) hS
            · replace h := h.2 c_6
              refine lv_iload hx hb dX5_fillByRule_38 (lv_at hl 3 rfl) ?_
              refine lv_iconst (v := (1 : Int32)) hx hb dX5_fillByRule_40 (by decide) ?_
              refine lv_icmp_le (tgt := 68) hx hb dX5_fillByRule_41 (by decide) (fun c_11 => ?_) (fun c_11 => ?_)
              · replace h := h.1 c_11
                refine lv_aload_n hx hb dX5_fillByRule_68 rfl (lv_at hl 5 rfl) ?_
                refine lv_iload_n hx hb dX5_fillByRule_69 rfl (lv_at hl 6 rfl) ?_
                refine lv_iload_n hx hb dX5_fillByRule_70 rfl (lv_at hl 4 rfl) ?_
                refine lv_iload_n hx hb dX5_fillByRule_71 rfl (lv_at hl 7 rfl) ?_
                refine lv_iload hx hb dX5_fillByRule_72 (lv_at hl 3 rfl) ?_
                refine lv_i2l hx hb dX5_fillByRule_74 rfl ?_
                refine lv_iload hx hb dX5_fillByRule_75 (lv_at hl 1 rfl) ?_
                have hPc := hP.sub (ws' := []) [] rfl
                have hDc := hD.sub (ws' := []) [] (by decide) rfl
                have hFc := va_free (wc := []) hD hS hA [] rfl
                refine va_calll (va_runS (As := [.int p2, .long r_4.toInt64, .int l6_31_4]) (rest := [.int l3_9_1, .int p1, .ref h_a0]) ⟨hx, hb, hml, hown, hts⟩ (c_X5_atPower l dC dI cI cJ cZ _ p2 (r_4.toInt64) l6_31_4 _ h) (va_cwS 3 hts gX5_fillByRule_X5_atPower rfl rfl rfl (by decide +kernel) ⟨Nat.le_of_ble_eq_true rfl, Nat.le_of_ble_eq_true rfl⟩) ⟨pre_fb, pre_of hPc hDc hK hN⟩ rfl rfl hl.1 rfl (lv_room (Nat.le_of_ble_eq_true rfl)) dX5_fillByRule_77 ⟨by first | exact Nat.le_of_ble_eq_true rfl | exact Nat.le_refl _, by first | exact Nat.le_of_ble_eq_true rfl | exact Nat.le_refl _⟩) hS (fun q _ h => hFc q h) hFc (fun r_12 u t H1 locs ht hvm h hB hz1 hk1 hS => ?_)
                obtain ⟨hP1, hD1⟩ := hB
                rw [ht] at hP1
                try dsimp only at h
                obtain ⟨hP, hD⟩ := va_join (wr := [(h_a0, .inr (5, [.ref q_a0_values, .int a0_many])), (q_a0_values, .inl (cJ, 9600, .inr (.inl a0_values_9_1)))]) (w1 := []) hP hD [] [0, 1] rfl rfl (by decide) (by decide) hk1 hFc hP1 hD1
                generalize H1 = H at hP hS ⊢
                have hP : va_P (dC, dI) vwCl [(h_a0, .inr (5, [.ref q_a0_values, .int a0_many])), (q_a0_values, .inl (cJ, 9600, .inr (.inl a0_values_9_1)))] H := hP
                have hD : va_D A [(h_a0, .inr (5, [.ref q_a0_values, .int a0_many])), (q_a0_values, .inl (cJ, 9600, .inr (.inl a0_values_9_1)))] := hD
                refine lv_aload_n hx hb dX5_fillByRule_80 rfl (lv_at hl 5 rfl) ?_
                refine lv_iload_n hx hb dX5_fillByRule_81 rfl (lv_at hl 6 rfl) ?_
                refine lv_iload hx hb dX5_fillByRule_82 (lv_at hl 2 rfl) ?_
                have hPc := hP.sub (ws' := [(h_a0, .inr (5, [.ref q_a0_values, .int a0_many])), (q_a0_values, .inl (cJ, 9600, .inr (.inl a0_values_9_1)))]) [0, 1] rfl
                have hDc := hD.sub (ws' := [(h_a0, .inr (5, [.ref q_a0_values, .int a0_many])), (q_a0_values, .inl (cJ, 9600, .inr (.inl a0_values_9_1)))]) [0, 1] (by decide) rfl
                have hFc := va_free (wc := [(h_a0, .inr (5, [.ref q_a0_values, .int a0_many])), (q_a0_values, .inl (cJ, 9600, .inr (.inl a0_values_9_1)))]) hD hS hA [0, 1] rfl
                refine va_calll (va_runV (As := [.int p1, .int l5_31_4]) (rest := [.long r_12, .int l3_9_1, .int p1, .ref h_a0]) ⟨hx, hb, hml, hown, hts⟩ (c_X5_look l dC dI cI cJ cZ _ h_a0 a0_values_9_1 q_a0_values a0_many p1 l5_31_4 _ h) (cwV 2 hts gX5_fillByRule_X5_look rfl rfl rfl (by decide +kernel) ⟨Nat.le_of_ble_eq_true rfl, Nat.le_of_ble_eq_true rfl⟩) ⟨pre_fb, va_recv hK hPc (ci := 5) (q0 := 0) rfl rfl, pre_of hPc hDc hK hN⟩ rfl rfl hl.1 rfl (lv_room (Nat.le_of_ble_eq_true rfl)) dX5_fillByRule_84 ⟨by first | exact Nat.le_of_ble_eq_true rfl | exact Nat.le_refl _, by first | exact Nat.le_of_ble_eq_true rfl | exact Nat.le_refl _⟩) hS (fun q _ h => hFc q h) hFc (fun r_13 u t H1 locs ht hvm h hB hz1 hk1 hS => ?_)
                obtain ⟨hP1, hD1⟩ := hB
                rw [ht] at hP1
                try dsimp only at h
                obtain ⟨hP, hD⟩ := va_join (wr := []) (w1 := [(h_a0, .inr (5, [.ref q_a0_values, .int a0_many])), (q_a0_values, .inl (cJ, 9600, .inr (.inl a0_values_9_1)))]) hP hD [0, 1] [] rfl rfl (by decide) (by decide) hk1 hFc hP1 hD1
                generalize H1 = H at hP hS ⊢
                have hP : va_P (dC, dI) vwCl [(h_a0, .inr (5, [.ref q_a0_values, .int a0_many])), (q_a0_values, .inl (cJ, 9600, .inr (.inl a0_values_9_1)))] H := hP
                have hD : va_D A [(h_a0, .inr (5, [.ref q_a0_values, .int a0_many])), (q_a0_values, .inl (cJ, 9600, .inr (.inl a0_values_9_1)))] := hD
                refine lv_lmul hx hb dX5_fillByRule_87 ?_
                have hPc := hP.sub (ws' := [(h_a0, .inr (5, [.ref q_a0_values, .int a0_many])), (q_a0_values, .inl (cJ, 9600, .inr (.inl a0_values_9_1)))]) [0, 1] rfl
                have hDc := hD.sub (ws' := [(h_a0, .inr (5, [.ref q_a0_values, .int a0_many])), (q_a0_values, .inl (cJ, 9600, .inr (.inl a0_values_9_1)))]) [0, 1] (by decide) rfl
                have hFc := va_free (wc := [(h_a0, .inr (5, [.ref q_a0_values, .int a0_many])), (q_a0_values, .inl (cJ, 9600, .inr (.inl a0_values_9_1)))]) hD hS hA [0, 1] rfl
                refine va_callv (va_runV (As := [.int p1, .int l3_9_1, .long (r_12 * r_13)]) (rest := []) ⟨hx, hb, hml, hown, hts⟩ (c_X5_put l dC dI cI cJ cZ _ h_a0 a0_values_9_1 q_a0_values a0_many p1 l3_9_1 (r_12 * r_13) _ h) (cwV 3 hts gX5_fillByRule_X5_put rfl rfl rfl (by decide +kernel) ⟨Nat.le_of_ble_eq_true rfl, Nat.le_of_ble_eq_true rfl⟩) ⟨pre_fb, va_recv hK hPc (ci := 5) (q0 := 0) rfl rfl, pre_of hPc hDc hK hN⟩ rfl rfl hl.1 rfl (lv_room (Nat.le_of_ble_eq_true rfl)) dX5_fillByRule_88 ⟨by first | exact Nat.le_of_ble_eq_true rfl | exact Nat.le_refl _, by first | exact Nat.le_of_ble_eq_true rfl | exact Nat.le_refl _⟩) hS (fun q _ h => hFc q h) hFc (fun u t H1 locs ht hvm h hB hz1 hk1 hS => ?_)
                obtain ⟨o_14, rfl⟩ : ∃ z, z = u := ⟨_, rfl⟩
                obtain ⟨hP1, hD1⟩ := hB
                rw [ht] at hP1
                try dsimp only at h
                obtain ⟨hP, hD⟩ := va_join (wr := []) (w1 := [(h_a0, .inr (5, [.ref q_a0_values, .int a0_many])), (q_a0_values, .inl (cJ, 9600, .inr (.inl o_14)))]) hP hD [0, 1] [] rfl rfl (by decide) (by decide) hk1 hFc hP1 hD1
                generalize H1 = H at hP hS ⊢
                have hP : va_P (dC, dI) vwCl [(h_a0, .inr (5, [.ref q_a0_values, .int a0_many])), (q_a0_values, .inl (cJ, 9600, .inr (.inl o_14)))] H := hP
                have hD : va_D A [(h_a0, .inr (5, [.ref q_a0_values, .int a0_many])), (q_a0_values, .inl (cJ, 9600, .inr (.inl o_14)))] := hD
                obtain ⟨x3_15, e_x3_15⟩ : ∃ y : Int32, y = l3_9_1 + (1 : Int32) := ⟨_, rfl⟩
                replace h := h x3_15 e_x3_15
                refine lv_iinc (v := x3_15) (lv' := [(3, .int x3_15), (7, .int l7_31_4), (6, .int l6_31_4), (5, .int l5_31_4), (4, .int r_4), (0, .ref h_a0), (1, .int p1), (2, .int p2)]) hx hb dX5_fillByRule_91 hl (k := 4) rfl (by rw [e_x3_15]; rfl) (by decide) rfl (fun ls hl => ?_)
                refine lv_goto (tgt := 9) hx hb dX5_fillByRule_94 (by decide) ?_
                exact ih_9_1 x3_15 o_14 (Nat.lt_of_lt_of_le h.2 (Nat.le_of_lt_succ hm_9_1)) h.1 _ _ _ (lv_sub hl [0, 5, 6, 7] rfl) (hP.sub [0, 1] rfl) (hD.sub [0, 1] (by decide) rfl) hS
              · replace h := h.2 c_11
                refine lv_iload hx hb dX5_fillByRule_44 (lv_at hl 2 rfl) ?_
                refine lv_iload hx hb dX5_fillByRule_46 (lv_at hl 3 rfl) ?_
                obtain ⟨hne_16, h⟩ := h
                refine lv_irem hx hb dX5_fillByRule_48 hne_16 ?_
                refine lv_if_ne (tgt := 68) hx hb dX5_fillByRule_49 (by decide) (fun c_17 => ?_) (fun c_17 => ?_)
                · replace h := h.2 c_17
                  refine lv_aload_n hx hb dX5_fillByRule_68 rfl (lv_at hl 5 rfl) ?_
                  refine lv_iload_n hx hb dX5_fillByRule_69 rfl (lv_at hl 6 rfl) ?_
                  refine lv_iload_n hx hb dX5_fillByRule_70 rfl (lv_at hl 4 rfl) ?_
                  refine lv_iload_n hx hb dX5_fillByRule_71 rfl (lv_at hl 7 rfl) ?_
                  refine lv_iload hx hb dX5_fillByRule_72 (lv_at hl 3 rfl) ?_
                  refine lv_i2l hx hb dX5_fillByRule_74 rfl ?_
                  refine lv_iload hx hb dX5_fillByRule_75 (lv_at hl 1 rfl) ?_
                  have hPc := hP.sub (ws' := []) [] rfl
                  have hDc := hD.sub (ws' := []) [] (by decide) rfl
                  have hFc := va_free (wc := []) hD hS hA [] rfl
                  refine va_calll (va_runS (As := [.int p2, .long r_4.toInt64, .int l6_31_4]) (rest := [.int l3_9_1, .int p1, .ref h_a0]) ⟨hx, hb, hml, hown, hts⟩ (c_X5_atPower l dC dI cI cJ cZ _ p2 (r_4.toInt64) l6_31_4 _ h) (va_cwS 3 hts gX5_fillByRule_X5_atPower rfl rfl rfl (by decide +kernel) ⟨Nat.le_of_ble_eq_true rfl, Nat.le_of_ble_eq_true rfl⟩) ⟨pre_fb, pre_of hPc hDc hK hN⟩ rfl rfl hl.1 rfl (lv_room (Nat.le_of_ble_eq_true rfl)) dX5_fillByRule_77 ⟨by first | exact Nat.le_of_ble_eq_true rfl | exact Nat.le_refl _, by first | exact Nat.le_of_ble_eq_true rfl | exact Nat.le_refl _⟩) hS (fun q _ h => hFc q h) hFc (fun r_18 u t H1 locs ht hvm h hB hz1 hk1 hS => ?_)
                  obtain ⟨hP1, hD1⟩ := hB
                  rw [ht] at hP1
                  try dsimp only at h
                  obtain ⟨hP, hD⟩ := va_join (wr := [(h_a0, .inr (5, [.ref q_a0_values, .int a0_many])), (q_a0_values, .inl (cJ, 9600, .inr (.inl a0_values_9_1)))]) (w1 := []) hP hD [] [0, 1] rfl rfl (by decide) (by decide) hk1 hFc hP1 hD1
                  generalize H1 = H at hP hS ⊢
                  have hP : va_P (dC, dI) vwCl [(h_a0, .inr (5, [.ref q_a0_values, .int a0_many])), (q_a0_values, .inl (cJ, 9600, .inr (.inl a0_values_9_1)))] H := hP
                  have hD : va_D A [(h_a0, .inr (5, [.ref q_a0_values, .int a0_many])), (q_a0_values, .inl (cJ, 9600, .inr (.inl a0_values_9_1)))] := hD
                  refine lv_aload_n hx hb dX5_fillByRule_80 rfl (lv_at hl 5 rfl) ?_
                  refine lv_iload_n hx hb dX5_fillByRule_81 rfl (lv_at hl 6 rfl) ?_
                  refine lv_iload hx hb dX5_fillByRule_82 (lv_at hl 2 rfl) ?_
                  have hPc := hP.sub (ws' := [(h_a0, .inr (5, [.ref q_a0_values, .int a0_many])), (q_a0_values, .inl (cJ, 9600, .inr (.inl a0_values_9_1)))]) [0, 1] rfl
                  have hDc := hD.sub (ws' := [(h_a0, .inr (5, [.ref q_a0_values, .int a0_many])), (q_a0_values, .inl (cJ, 9600, .inr (.inl a0_values_9_1)))]) [0, 1] (by decide) rfl
                  have hFc := va_free (wc := [(h_a0, .inr (5, [.ref q_a0_values, .int a0_many])), (q_a0_values, .inl (cJ, 9600, .inr (.inl a0_values_9_1)))]) hD hS hA [0, 1] rfl
                  refine va_calll (va_runV (As := [.int p1, .int l5_31_4]) (rest := [.long r_18, .int l3_9_1, .int p1, .ref h_a0]) ⟨hx, hb, hml, hown, hts⟩ (c_X5_look l dC dI cI cJ cZ _ h_a0 a0_values_9_1 q_a0_values a0_many p1 l5_31_4 _ h) (cwV 2 hts gX5_fillByRule_X5_look rfl rfl rfl (by decide +kernel) ⟨Nat.le_of_ble_eq_true rfl, Nat.le_of_ble_eq_true rfl⟩) ⟨pre_fb, va_recv hK hPc (ci := 5) (q0 := 0) rfl rfl, pre_of hPc hDc hK hN⟩ rfl rfl hl.1 rfl (lv_room (Nat.le_of_ble_eq_true rfl)) dX5_fillByRule_84 ⟨by first | exact Nat.le_of_ble_eq_true rfl | exact Nat.le_refl _, by first | exact Nat.le_of_ble_eq_true rfl | exact Nat.le_refl _⟩) hS (fun q _ h => hFc q h) hFc (fun r_19 u t H1 locs ht hvm h hB hz1 hk1 hS => ?_)
                  obtain ⟨hP1, hD1⟩ := hB
                  rw [ht] at hP1
                  try dsimp only at h
                  obtain ⟨hP, hD⟩ := va_join (wr := []) (w1 := [(h_a0, .inr (5, [.ref q_a0_values, .int a0_many])), (q_a0_values, .inl (cJ, 9600, .inr (.inl a0_values_9_1)))]) hP hD [0, 1] [] rfl rfl (by decide) (by decide) hk1 hFc hP1 hD1
                  generalize H1 = H at hP hS ⊢
                  have hP : va_P (dC, dI) vwCl [(h_a0, .inr (5, [.ref q_a0_values, .int a0_many])), (q_a0_values, .inl (cJ, 9600, .inr (.inl a0_values_9_1)))] H := hP
                  have hD : va_D A [(h_a0, .inr (5, [.ref q_a0_values, .int a0_many])), (q_a0_values, .inl (cJ, 9600, .inr (.inl a0_values_9_1)))] := hD
                  refine lv_lmul hx hb dX5_fillByRule_87 ?_
                  have hPc := hP.sub (ws' := [(h_a0, .inr (5, [.ref q_a0_values, .int a0_many])), (q_a0_values, .inl (cJ, 9600, .inr (.inl a0_values_9_1)))]) [0, 1] rfl
                  have hDc := hD.sub (ws' := [(h_a0, .inr (5, [.ref q_a0_values, .int a0_many])), (q_a0_values, .inl (cJ, 9600, .inr (.inl a0_values_9_1)))]) [0, 1] (by decide) rfl
                  have hFc := va_free (wc := [(h_a0, .inr (5, [.ref q_a0_values, .int a0_many])), (q_a0_values, .inl (cJ, 9600, .inr (.inl a0_values_9_1)))]) hD hS hA [0, 1] rfl
                  refine va_callv (va_runV (As := [.int p1, .int l3_9_1, .long (r_18 * r_19)]) (rest := []) ⟨hx, hb, hml, hown, hts⟩ (c_X5_put l dC dI cI cJ cZ _ h_a0 a0_values_9_1 q_a0_values a0_many p1 l3_9_1 (r_18 * r_19) _ h) (cwV 3 hts gX5_fillByRule_X5_put rfl rfl rfl (by decide +kernel) ⟨Nat.le_of_ble_eq_true rfl, Nat.le_of_ble_eq_true rfl⟩) ⟨pre_fb, va_recv hK hPc (ci := 5) (q0 := 0) rfl rfl, pre_of hPc hDc hK hN⟩ rfl rfl hl.1 rfl (lv_room (Nat.le_of_ble_eq_true rfl)) dX5_fillByRule_88 ⟨by first | exact Nat.le_of_ble_eq_true rfl | exact Nat.le_refl _, by first | exact Nat.le_of_ble_eq_true rfl | exact Nat.le_refl _⟩) hS (fun q _ h => hFc q h) hFc (fun u t H1 locs ht hvm h hB hz1 hk1 hS => ?_)
                  obtain ⟨o_20, rfl⟩ : ∃ z, z = u := ⟨_, rfl⟩
                  obtain ⟨hP1, hD1⟩ := hB
                  rw [ht] at hP1
                  try dsimp only at h
                  obtain ⟨hP, hD⟩ := va_join (wr := []) (w1 := [(h_a0, .inr (5, [.ref q_a0_values, .int a0_many])), (q_a0_values, .inl (cJ, 9600, .inr (.inl o_20)))]) hP hD [0, 1] [] rfl rfl (by decide) (by decide) hk1 hFc hP1 hD1
                  generalize H1 = H at hP hS ⊢
                  have hP : va_P (dC, dI) vwCl [(h_a0, .inr (5, [.ref q_a0_values, .int a0_many])), (q_a0_values, .inl (cJ, 9600, .inr (.inl o_20)))] H := hP
                  have hD : va_D A [(h_a0, .inr (5, [.ref q_a0_values, .int a0_many])), (q_a0_values, .inl (cJ, 9600, .inr (.inl o_20)))] := hD
                  obtain ⟨x3_21, e_x3_21⟩ : ∃ y : Int32, y = l3_9_1 + (1 : Int32) := ⟨_, rfl⟩
                  replace h := h x3_21 e_x3_21
                  refine lv_iinc (v := x3_21) (lv' := [(3, .int x3_21), (7, .int l7_31_4), (6, .int l6_31_4), (5, .int l5_31_4), (4, .int r_4), (0, .ref h_a0), (1, .int p1), (2, .int p2)]) hx hb dX5_fillByRule_91 hl (k := 4) rfl (by rw [e_x3_21]; rfl) (by decide) rfl (fun ls hl => ?_)
                  refine lv_goto (tgt := 9) hx hb dX5_fillByRule_94 (by decide) ?_
                  exact ih_9_1 x3_21 o_20 (Nat.lt_of_lt_of_le h.2 (Nat.le_of_lt_succ hm_9_1)) h.1 _ _ _ (lv_sub hl [0, 5, 6, 7] rfl) (hP.sub [0, 1] rfl) (hD.sub [0, 1] (by decide) rfl) hS
                · replace h := h.1 c_17
                  refine lv_iload hx hb dX5_fillByRule_52 (lv_at hl 2 rfl) ?_
                  refine lv_iload hx hb dX5_fillByRule_54 (lv_at hl 3 rfl) ?_
                  obtain ⟨hne_22, h⟩ := h
                  refine lv_idiv hx hb dX5_fillByRule_56 hne_22 ?_
                  refine lv_topi (fun x5_23 e_x5_23 => ?_)
                  replace h := h x5_23 e_x5_23
                  refine lv_istore (lv' := [(5, .int x5_23), (7, .int l7_31_4), (6, .int l6_31_4), (4, .int r_4), (3, .int l3_9_1), (0, .ref h_a0), (1, .int p1), (2, .int p2)]) hx hb dX5_fillByRule_57 hl (by decide) rfl (fun ls hl => ?_)
                  obtain ⟨x6_24, e_x6_24⟩ : ∃ y : Int32, y = l6_31_4 + (1 : Int32) := ⟨_, rfl⟩
                  replace h := h x6_24 e_x6_24
                  refine lv_iinc (v := x6_24) (lv' := [(6, .int x6_24), (5, .int x5_23), (7, .int l7_31_4), (4, .int r_4), (3, .int l3_9_1), (0, .ref h_a0), (1, .int p1), (2, .int p2)]) hx hb dX5_fillByRule_59 hl (k := 2) rfl (by rw [e_x6_24]; rfl) (by decide) rfl (fun ls hl => ?_)
                  obtain ⟨x7_25, e_x7_25⟩ : ∃ y : Int32, y = l7_31_4 + (1 : Int32) := ⟨_, rfl⟩
                  replace h := h x7_25 e_x7_25
                  refine lv_iinc (v := x7_25) (lv' := [(7, .int x7_25), (6, .int x6_24), (5, .int x5_23), (4, .int r_4), (3, .int l3_9_1), (0, .ref h_a0), (1, .int p1), (2, .int p2)]) hx hb dX5_fillByRule_62 hl (k := 2) rfl (by rw [e_x7_25]; rfl) (by decide) rfl (fun ls hl => ?_)
                  refine lv_goto (tgt := 31) hx hb dX5_fillByRule_65 (by decide) ?_
                  exact ih_31_4 x7_25 x6_24 x5_23 (Nat.lt_of_lt_of_le h.2 (Nat.le_of_lt_succ hm_31_4)) h.1 _ _ _ (lv_sub hl [0, 1, 2, 3, 4, 5, 6, 7] rfl) (hP.sub [0, 1] rfl) (hD.sub [0, 1] (by decide) rfl) hS
        exact key_31_4 _ (0 : Int32) (0 : Int32) l3_9_1 (Nat.lt_succ_self _) h0_31_4 _ _ _ (lv_sub hl [0, 1, 2, 3, 4, 5, 6, 7] rfl) (hP.sub [0, 1] rfl) (hD.sub [0, 1] (by decide) rfl) hS
  exact key_9_1 _ (2 : Int32) o_1 (Nat.lt_succ_self _) h0_9_1 _ _ _ (lv_sub hl [0, 1, 2, 3] rfl) (hP.sub [0, 1] rfl) (hD.sub [0, 1] (by decide) rfl) hS
def wp_X5_fillByProduct (a0_values : Nat → Int64) (p1 : Int32) (p2 : Int32) (p3 : Int32) (Q : (Nat → Int64) → Prop) : Prop :=
  (∃ (I_3_0 : Int32 → (Nat → Int64) → Prop) (m_3_0 : Int32 → (Nat → Int64) → Nat), I_3_0 (1 : Int32) a0_values ∧ ∀ (l4_3_0 : Int32) (a0_values_3_0 : Nat → Int64), I_3_0 l4_3_0 a0_values_3_0 → (((600 : Int32) < l4_3_0 → Q a0_values_3_0) ∧ (¬ (600 : Int32) < l4_3_0 → wp_X5_look a0_values_3_0 p2 l4_3_0 (fun r_3 => (∃ (I_23_3 : Int32 → (Nat → Int64) → Prop) (m_23_3 : Int32 → (Nat → Int64) → Nat), I_23_3 (1 : Int32) a0_values_3_0 ∧ ∀ (l7_23_3 : Int32) (a0_values_23_3 : Nat → Int64), I_23_3 l7_23_3 a0_values_23_3 → (¬ l4_3_0 = 0 ∧ ((((600 : Int32) / l4_3_0) < l7_23_3 → (∀ x4_7 : Int32, x4_7 = l4_3_0 + (1 : Int32) → (I_3_0 x4_7 a0_values_23_3 ∧ m_3_0 x4_7 a0_values_23_3 < m_3_0 l4_3_0 a0_values_3_0))) ∧ (¬ ((600 : Int32) / l4_3_0) < l7_23_3 → wp_X5_look a0_values_23_3 p3 l7_23_3 (fun r_8 => wp_X5_increase a0_values_23_3 p1 (l4_3_0 * l7_23_3) (r_3 * r_8) (fun o_9 => (∀ x7_10 : Int32, x7_10 = l7_23_3 + (1 : Int32) → (I_23_3 x7_10 o_9 ∧ m_23_3 x7_10 o_9 < m_23_3 l7_23_3 a0_values_23_3))))))))))))
abbrev rm_X5_fillByProduct : Room := { frames := 3, cells := 0, slots := 0, locals := 69 }
abbrev qc_X5_fillByProduct (dC : Nat → ClassId) (dI : Nat → Nat → Nat) (cI cJ cZ : ClassId) (h_a0 : Nat) (a0_values : Nat → Int64) (q_a0_values : Nat) (a0_many : Int32) (Q : (Nat → Int64) → Prop) (A : Nat → Prop) : Array Value → State → Outcome → State → Prop := va_Qv (fun (u : (Nat → Int64)) => Q u) (post_ dC dI A (fun (u : (Nat → Int64)) => [(h_a0, .inr (5, [.ref q_a0_values, .int a0_many])), (q_a0_values, .inl (cJ, 9600, .inr (.inl u)))])) A
set_option maxHeartbeats 4000000 in
set_option maxRecDepth 100000 in
theorem c_X5_fillByProduct (l : Launch) (dC : Nat → ClassId) (dI : Nat → Nat → Nat) (cI cJ cZ : ClassId) (sz : Nat) (h_a0 : Nat) (a0_values : Nat → Int64) (q_a0_values : Nat) (a0_many : Int32) (p1 : Int32) (p2 : Int32) (p3 : Int32) (Q : (Nat → Int64) → Prop) (hQ : wp_X5_fillByProduct a0_values p1 p2 p3 Q) : Met l yX5_fillByProduct wsX5_fillByProduct rm_X5_fillByProduct (pre_ dC dI cI cJ cZ [.ref h_a0, .int p1, .int p2, .int p3] [(h_a0, .inr (5, [.ref q_a0_values, .int a0_many])), (q_a0_values, .inl (cJ, 9600, .inr (.inl a0_values)))] sz) (qc_X5_fillByProduct dC dI cI cJ cZ h_a0 a0_values q_a0_values a0_many Q (va_A [(h_a0, .inr (5, [.ref q_a0_values, .int a0_many])), (q_a0_values, .inl (cJ, 9600, .inr (.inl a0_values)))] sz)) 0 0 (va_A [(h_a0, .inr (5, [.ref q_a0_values, .int a0_many])), (q_a0_values, .inl (cJ, 9600, .inr (.inl a0_values)))] sz) := by
  refine Met.ofW (cc := cX5_fillByProduct) (maxL := 8) (ret := none) (by decide) rfl ?_
  intro p e s m args below meth c s₁ B hml hv
  obtain ⟨rfl, hsz, hP, hK, hN, hD0⟩ := hv
  have hx := B.exec
  have hb := B.bytes
  have hr := B.returns
  have hts := atoms_spec (ws := wsX5_fillByProduct) B.pre
  have hown : s.vm.findClass RX5 = some m.cls := findClass_of_methodNamed B.named
  subst hsz
  have hD := hD0.self (sz := s.heap.size)
  generalize hAe : va_A [(h_a0, .inr (5, [.ref q_a0_values, .int a0_many])), (q_a0_values, .inl (cJ, 9600, .inr (.inl a0_values)))] s.heap.size = A at hD ⊢
  have hA : ∀ q : Nat, s.heap.size ≤ q → A q := fun q h => by rw [← hAe]; exact Or.inr h
  have hS : va_S A s.heap s.heap [] := va_S.rf
  have hl := lv_entry ([.ref h_a0, .int p1, .int p2, .int p3]) (n := 8) (Nat.le_of_ble_eq_true rfl)
  rw [lg_entry_eq]
  generalize (lg_sl ([.ref h_a0, .int p1, .int p2, .int p3]) ++ List.replicate (8 - (lg_sl ([.ref h_a0, .int p1, .int p2, .int p3])).length) Slot.unset).toArray = ls at hl ⊢
  have hl : lv_has ls 8 [(0, .ref h_a0), (1, .int p1), (2, .int p2), (3, .int p3)] := hl
  have h := hQ
  unfold wp_X5_fillByProduct at h
  refine lv_iconst (v := (1 : Int32)) hx hb dX5_fillByProduct_0 (by decide) ?_
  refine lv_istore (lv' := [(4, .int (1 : Int32)), (0, .ref h_a0), (1, .int p1), (2, .int p2), (3, .int p3)]) hx hb dX5_fillByProduct_1 hl (by decide) rfl (fun ls hl => ?_)
  obtain ⟨I_3_0, m_3_0, h0_3_0, hs_3_0⟩ := h
  have key_3_0 : ∀ (n : Nat) (l4_3_0 : Int32) (a0_values_3_0 : Nat → Int64), m_3_0 l4_3_0 a0_values_3_0 < n → I_3_0 l4_3_0 a0_values_3_0 → ∀ (ls : Array Slot) (H : Heap) (locs : List Loc), lv_has ls 8 [(4, .int l4_3_0), (0, .ref h_a0), (1, .int p1), (2, .int p2), (3, .int p3)] → va_P (dC, dI) vwCl [(h_a0, .inr (5, [.ref q_a0_values, .int a0_many])), (q_a0_values, .inl (cJ, 9600, .inr (.inl a0_values_3_0)))] H → va_D A [(h_a0, .inr (5, [.ref q_a0_values, .int a0_many])), (q_a0_values, .inl (cJ, 9600, .inr (.inl a0_values_3_0)))] → va_S A s.heap H locs → W p l e (headSpec wsX5_fillByProduct rm_X5_fillByProduct).room s m ([.ref h_a0, .int p1, .int p2, .int p3] : List Value).toArray below meth c H locs 0 0 (MQ below (qc_X5_fillByProduct dC dI cI cJ cZ h_a0 a0_values q_a0_values a0_many Q A) ([.ref h_a0, .int p1, .int p2, .int p3] : List Value).toArray s 0 0 A) (F0 m 3 ls []) := by
    intro n
    induction n with
    | zero =>
      intro l4_3_0 a0_values_3_0 hm
      exact absurd hm (Nat.not_lt_zero _)
    | succ n ih_3_0 =>
      intro l4_3_0 a0_values_3_0 hm_3_0 hI ls H locs hl hP hD hS
      have h := hs_3_0 l4_3_0 a0_values_3_0 hI
      refine lv_iload hx hb dX5_fillByProduct_3 (lv_at hl 0 rfl) ?_
      refine lv_sipush (v := (600 : Int32)) hx hb dX5_fillByProduct_5 (by decide) ?_
      refine lv_icmp_gt (tgt := 66) hx hb dX5_fillByProduct_8 (by decide) (fun c_2 => ?_) (fun c_2 => ?_)
      · replace h := h.1 c_2
        have hP9 := hP.sub (ws' := [(h_a0, .inr (5, [.ref q_a0_values, .int a0_many])), (q_a0_values, .inl (cJ, 9600, .inr (.inl a0_values_3_0)))]) [0, 1] rfl
        have hD9 := hD.sub (ws' := [(h_a0, .inr (5, [.ref q_a0_values, .int a0_many])), (q_a0_values, .inl (cJ, 9600, .inr (.inl a0_values_3_0)))]) [0, 1] (by decide) rfl
        exact W.vret hx hb hr (fun t ht hW => ⟨⟨a0_values_3_0, rfl, h, by rw [ht]; exact hP9, hD9⟩, hS.F ht⟩) hS.2.2 dX5_fillByProduct_66
      · replace h := h.2 c_2
        refine lv_aload_n hx hb dX5_fillByProduct_11 rfl (lv_at hl 1 rfl) ?_
        refine lv_iload_n hx hb dX5_fillByProduct_12 rfl (lv_at hl 3 rfl) ?_
        refine lv_iload hx hb dX5_fillByProduct_13 (lv_at hl 0 rfl) ?_
        have hPc := hP.sub (ws' := [(h_a0, .inr (5, [.ref q_a0_values, .int a0_many])), (q_a0_values, .inl (cJ, 9600, .inr (.inl a0_values_3_0)))]) [0, 1] rfl
        have hDc := hD.sub (ws' := [(h_a0, .inr (5, [.ref q_a0_values, .int a0_many])), (q_a0_values, .inl (cJ, 9600, .inr (.inl a0_values_3_0)))]) [0, 1] (by decide) rfl
        have hFc := va_free (wc := [(h_a0, .inr (5, [.ref q_a0_values, .int a0_many])), (q_a0_values, .inl (cJ, 9600, .inr (.inl a0_values_3_0)))]) hD hS hA [0, 1] rfl
        refine va_calll (va_runV (As := [.int p2, .int l4_3_0]) (rest := []) ⟨hx, hb, hml, hown, hts⟩ (c_X5_look l dC dI cI cJ cZ _ h_a0 a0_values_3_0 q_a0_values a0_many p2 l4_3_0 _ h) (cwV 2 hts gX5_fillByProduct_X5_look rfl rfl rfl (by decide +kernel) ⟨Nat.le_of_ble_eq_true rfl, Nat.le_of_ble_eq_true rfl⟩) ⟨pre_fb, va_recv hK hPc (ci := 5) (q0 := 0) rfl rfl, pre_of hPc hDc hK hN⟩ rfl rfl hl.1 rfl (lv_room (Nat.le_of_ble_eq_true rfl)) dX5_fillByProduct_15 ⟨by first | exact Nat.le_of_ble_eq_true rfl | exact Nat.le_refl _, by first | exact Nat.le_of_ble_eq_true rfl | exact Nat.le_refl _⟩) hS (fun q _ h => hFc q h) hFc (fun r_3 u t H1 locs ht hvm h hB hz1 hk1 hS => ?_)
        obtain ⟨hP1, hD1⟩ := hB
        rw [ht] at hP1
        try dsimp only at h
        obtain ⟨hP, hD⟩ := va_join (wr := []) (w1 := [(h_a0, .inr (5, [.ref q_a0_values, .int a0_many])), (q_a0_values, .inl (cJ, 9600, .inr (.inl a0_values_3_0)))]) hP hD [0, 1] [] rfl rfl (by decide) (by decide) hk1 hFc hP1 hD1
        generalize H1 = H at hP hS ⊢
        have hP : va_P (dC, dI) vwCl [(h_a0, .inr (5, [.ref q_a0_values, .int a0_many])), (q_a0_values, .inl (cJ, 9600, .inr (.inl a0_values_3_0)))] H := hP
        have hD : va_D A [(h_a0, .inr (5, [.ref q_a0_values, .int a0_many])), (q_a0_values, .inl (cJ, 9600, .inr (.inl a0_values_3_0)))] := hD
        refine lv_lstore (lv' := [(5, .long r_3), (4, .int l4_3_0), (0, .ref h_a0), (1, .int p1), (2, .int p2), (3, .int p3)]) hx hb dX5_fillByProduct_18 hl (by decide) rfl (fun ls hl => ?_)
        refine lv_iconst (v := (1 : Int32)) hx hb dX5_fillByProduct_20 (by decide) ?_
        refine lv_istore (lv' := [(7, .int (1 : Int32)), (5, .long r_3), (4, .int l4_3_0), (0, .ref h_a0), (1, .int p1), (2, .int p2), (3, .int p3)]) hx hb dX5_fillByProduct_21 hl (by decide) rfl (fun ls hl => ?_)
        obtain ⟨I_23_3, m_23_3, h0_23_3, hs_23_3⟩ := h
        have key_23_3 : ∀ (n : Nat) (l7_23_3 : Int32) (a0_values_23_3 : Nat → Int64), m_23_3 l7_23_3 a0_values_23_3 < n → I_23_3 l7_23_3 a0_values_23_3 → ∀ (ls : Array Slot) (H : Heap) (locs : List Loc), lv_has ls 8 [(7, .int l7_23_3), (5, .long r_3), (4, .int l4_3_0), (0, .ref h_a0), (1, .int p1), (2, .int p2), (3, .int p3)] → va_P (dC, dI) vwCl [(h_a0, .inr (5, [.ref q_a0_values, .int a0_many])), (q_a0_values, .inl (cJ, 9600, .inr (.inl a0_values_23_3)))] H → va_D A [(h_a0, .inr (5, [.ref q_a0_values, .int a0_many])), (q_a0_values, .inl (cJ, 9600, .inr (.inl a0_values_23_3)))] → va_S A s.heap H locs → W p l e (headSpec wsX5_fillByProduct rm_X5_fillByProduct).room s m ([.ref h_a0, .int p1, .int p2, .int p3] : List Value).toArray below meth c H locs 0 0 (MQ below (qc_X5_fillByProduct dC dI cI cJ cZ h_a0 a0_values q_a0_values a0_many Q A) ([.ref h_a0, .int p1, .int p2, .int p3] : List Value).toArray s 0 0 A) (F0 m 23 ls []) := by
          intro n
          induction n with
          | zero =>
            intro l7_23_3 a0_values_23_3 hm
            exact absurd hm (Nat.not_lt_zero _)
          | succ n ih_23_3 =>
            intro l7_23_3 a0_values_23_3 hm_23_3 hI ls H locs hl hP hD hS
            have h := hs_23_3 l7_23_3 a0_values_23_3 hI
            refine lv_iload hx hb dX5_fillByProduct_23 (lv_at hl 0 rfl) ?_
            refine lv_sipush (v := (600 : Int32)) hx hb dX5_fillByProduct_25 (by decide) ?_
            refine lv_iload hx hb dX5_fillByProduct_28 (lv_at hl 2 rfl) ?_
            obtain ⟨hne_5, h⟩ := h
            refine lv_idiv hx hb dX5_fillByProduct_30 hne_5 ?_
            refine lv_icmp_gt (tgt := 60) hx hb dX5_fillByProduct_31 (by decide) (fun c_6 => ?_) (fun c_6 => ?_)
            · replace h := h.1 c_6
              obtain ⟨x4_7, e_x4_7⟩ : ∃ y : Int32, y = l4_3_0 + (1 : Int32) := ⟨_, rfl⟩
              replace h := h x4_7 e_x4_7
              refine lv_iinc (v := x4_7) (lv' := [(4, .int x4_7), (7, .int l7_23_3), (5, .long r_3), (0, .ref h_a0), (1, .int p1), (2, .int p2), (3, .int p3)]) hx hb dX5_fillByProduct_60 hl (k := 2) rfl (by rw [e_x4_7]; rfl) (by decide) rfl (fun ls hl => ?_)
              refine lv_goto (tgt := 3) hx hb dX5_fillByProduct_63 (by decide) ?_
              exact ih_3_0 x4_7 a0_values_23_3 (Nat.lt_of_lt_of_le h.2 (Nat.le_of_lt_succ hm_3_0)) h.1 _ _ _ (lv_sub hl [0, 3, 4, 5, 6] rfl) (hP.sub [0, 1] rfl) (hD.sub [0, 1] (by decide) rfl) hS
            · replace h := h.2 c_6
              refine lv_aload_n hx hb dX5_fillByProduct_34 rfl (lv_at hl 3 rfl) ?_
              refine lv_iload_n hx hb dX5_fillByProduct_35 rfl (lv_at hl 4 rfl) ?_
              refine lv_iload hx hb dX5_fillByProduct_36 (lv_at hl 2 rfl) ?_
              refine lv_iload hx hb dX5_fillByProduct_38 (lv_at hl 0 rfl) ?_
              refine lv_imul hx hb dX5_fillByProduct_40 ?_
              refine lv_lload hx hb dX5_fillByProduct_41 (lv_at hl 1 rfl) ?_
              refine lv_aload_n hx hb dX5_fillByProduct_43 rfl (lv_at hl 3 rfl) ?_
              refine lv_iload_n hx hb dX5_fillByProduct_44 rfl (lv_at hl 6 rfl) ?_
              refine lv_iload hx hb dX5_fillByProduct_45 (lv_at hl 0 rfl) ?_
              have hPc := hP.sub (ws' := [(h_a0, .inr (5, [.ref q_a0_values, .int a0_many])), (q_a0_values, .inl (cJ, 9600, .inr (.inl a0_values_23_3)))]) [0, 1] rfl
              have hDc := hD.sub (ws' := [(h_a0, .inr (5, [.ref q_a0_values, .int a0_many])), (q_a0_values, .inl (cJ, 9600, .inr (.inl a0_values_23_3)))]) [0, 1] (by decide) rfl
              have hFc := va_free (wc := [(h_a0, .inr (5, [.ref q_a0_values, .int a0_many])), (q_a0_values, .inl (cJ, 9600, .inr (.inl a0_values_23_3)))]) hD hS hA [0, 1] rfl
              refine va_calll (va_runV (As := [.int p3, .int l7_23_3]) (rest := [.long r_3, .int (l4_3_0 * l7_23_3), .int p1, .ref h_a0]) ⟨hx, hb, hml, hown, hts⟩ (c_X5_look l dC dI cI cJ cZ _ h_a0 a0_values_23_3 q_a0_values a0_many p3 l7_23_3 _ h) (cwV 2 hts gX5_fillByProduct_X5_look rfl rfl rfl (by decide +kernel) ⟨Nat.le_of_ble_eq_true rfl, Nat.le_of_ble_eq_true rfl⟩) ⟨pre_fb, va_recv hK hPc (ci := 5) (q0 := 0) rfl rfl, pre_of hPc hDc hK hN⟩ rfl rfl hl.1 rfl (lv_room (Nat.le_of_ble_eq_true rfl)) dX5_fillByProduct_47 ⟨by first | exact Nat.le_of_ble_eq_true rfl | exact Nat.le_refl _, by first | exact Nat.le_of_ble_eq_true rfl | exact Nat.le_refl _⟩) hS (fun q _ h => hFc q h) hFc (fun r_8 u t H1 locs ht hvm h hB hz1 hk1 hS => ?_)
              obtain ⟨hP1, hD1⟩ := hB
              rw [ht] at hP1
              try dsimp only at h
              obtain ⟨hP, hD⟩ := va_join (wr := []) (w1 := [(h_a0, .inr (5, [.ref q_a0_values, .int a0_many])), (q_a0_values, .inl (cJ, 9600, .inr (.inl a0_values_23_3)))]) hP hD [0, 1] [] rfl rfl (by decide) (by decide) hk1 hFc hP1 hD1
              generalize H1 = H at hP hS ⊢
              have hP : va_P (dC, dI) vwCl [(h_a0, .inr (5, [.ref q_a0_values, .int a0_many])), (q_a0_values, .inl (cJ, 9600, .inr (.inl a0_values_23_3)))] H := hP
              have hD : va_D A [(h_a0, .inr (5, [.ref q_a0_values, .int a0_many])), (q_a0_values, .inl (cJ, 9600, .inr (.inl a0_values_23_3)))] := hD
              refine lv_lmul hx hb dX5_fillByProduct_50 ?_
              have hPc := hP.sub (ws' := [(h_a0, .inr (5, [.ref q_a0_values, .int a0_many])), (q_a0_values, .inl (cJ, 9600, .inr (.inl a0_values_23_3)))]) [0, 1] rfl
              have hDc := hD.sub (ws' := [(h_a0, .inr (5, [.ref q_a0_values, .int a0_many])), (q_a0_values, .inl (cJ, 9600, .inr (.inl a0_values_23_3)))]) [0, 1] (by decide) rfl
              have hFc := va_free (wc := [(h_a0, .inr (5, [.ref q_a0_values, .int a0_many])), (q_a0_values, .inl (cJ, 9600, .inr (.inl a0_values_23_3)))]) hD hS hA [0, 1] rfl
              refine va_callv (va_runV (As := [.int p1, .int (l4_3_0 * l7_23_3), .long (r_3 * r_8)]) (rest := []) ⟨hx, hb, hml, hown, hts⟩ (c_X5_increase l dC dI cI cJ cZ _ h_a0 a0_values_23_3 q_a0_values a0_many p1 (l4_3_0 * l7_23_3) (r_3 * r_8) _ h) (cwV 3 hts gX5_fillByProduct_X5_increase rfl rfl rfl (by decide +kernel) ⟨Nat.le_of_ble_eq_true rfl, Nat.le_of_ble_eq_true rfl⟩) ⟨pre_fb, va_recv hK hPc (ci := 5) (q0 := 0) rfl rfl, pre_of hPc hDc hK hN⟩ rfl rfl hl.1 rfl (lv_room (Nat.le_of_ble_eq_true rfl)) dX5_fillByProduct_51 ⟨by first | exact Nat.le_of_ble_eq_true rfl | exact Nat.le_refl _, by first | exact Nat.le_of_ble_eq_true rfl | exact Nat.le_refl _⟩) hS (fun q _ h => hFc q h) hFc (fun u t H1 locs ht hvm h hB hz1 hk1 hS => ?_)
              obtain ⟨o_9, rfl⟩ : ∃ z, z = u := ⟨_, rfl⟩
              obtain ⟨hP1, hD1⟩ := hB
              rw [ht] at hP1
              try dsimp only at h
              obtain ⟨hP, hD⟩ := va_join (wr := []) (w1 := [(h_a0, .inr (5, [.ref q_a0_values, .int a0_many])), (q_a0_values, .inl (cJ, 9600, .inr (.inl o_9)))]) hP hD [0, 1] [] rfl rfl (by decide) (by decide) hk1 hFc hP1 hD1
              generalize H1 = H at hP hS ⊢
              have hP : va_P (dC, dI) vwCl [(h_a0, .inr (5, [.ref q_a0_values, .int a0_many])), (q_a0_values, .inl (cJ, 9600, .inr (.inl o_9)))] H := hP
              have hD : va_D A [(h_a0, .inr (5, [.ref q_a0_values, .int a0_many])), (q_a0_values, .inl (cJ, 9600, .inr (.inl o_9)))] := hD
              obtain ⟨x7_10, e_x7_10⟩ : ∃ y : Int32, y = l7_23_3 + (1 : Int32) := ⟨_, rfl⟩
              replace h := h x7_10 e_x7_10
              refine lv_iinc (v := x7_10) (lv' := [(7, .int x7_10), (5, .long r_3), (4, .int l4_3_0), (0, .ref h_a0), (1, .int p1), (2, .int p2), (3, .int p3)]) hx hb dX5_fillByProduct_54 hl (k := 0) rfl (by rw [e_x7_10]; rfl) (by decide) rfl (fun ls hl => ?_)
              refine lv_goto (tgt := 23) hx hb dX5_fillByProduct_57 (by decide) ?_
              exact ih_23_3 x7_10 o_9 (Nat.lt_of_lt_of_le h.2 (Nat.le_of_lt_succ hm_23_3)) h.1 _ _ _ (lv_sub hl [0, 1, 2, 3, 4, 5, 6] rfl) (hP.sub [0, 1] rfl) (hD.sub [0, 1] (by decide) rfl) hS
        exact key_23_3 _ (1 : Int32) a0_values_3_0 (Nat.lt_succ_self _) h0_23_3 _ _ _ (lv_sub hl [0, 1, 2, 3, 4, 5, 6] rfl) (hP.sub [0, 1] rfl) (hD.sub [0, 1] (by decide) rfl) hS
  exact key_3_0 _ (1 : Int32) a0_values (Nat.lt_succ_self _) h0_3_0 _ _ _ (lv_sub hl [0, 1, 2, 3, 4] rfl) (hP.sub [0, 1] rfl) (hD.sub [0, 1] (by decide) rfl) hS
def wp_X5_canTurn (a0_values : Nat → Int64) (p1 : Int32) (Q : Int32 → Prop) : Prop :=
  wp_X5_look a0_values p1 (1 : Int32) (fun r_1 => ((r_1 = (1 : Int64) → Q (1 : Int32)) ∧ (¬ r_1 = (1 : Int64) → ((r_1 = (-1 : Int64) → Q (1 : Int32)) ∧ (¬ r_1 = (-1 : Int64) → Q (0 : Int32))))))
abbrev rm_X5_canTurn : Room := { frames := 2, cells := 0, slots := 0, locals := 43 }
abbrev qc_X5_canTurn (dC : Nat → ClassId) (dI : Nat → Nat → Nat) (cI cJ cZ : ClassId) (h_a0 : Nat) (a0_values : Nat → Int64) (q_a0_values : Nat) (a0_many : Int32) (Q : Int32 → Prop) (A : Nat → Prop) : Array Value → State → Outcome → State → Prop := va_Qi (fun (r : Int32) (_ : Unit) => Q r) (post_ dC dI A (fun (u : Unit) => [(h_a0, .inr (5, [.ref q_a0_values, .int a0_many])), (q_a0_values, .inl (cJ, 9600, .inr (.inl a0_values)))])) A
set_option maxHeartbeats 4000000 in
set_option maxRecDepth 100000 in
theorem c_X5_canTurn (l : Launch) (dC : Nat → ClassId) (dI : Nat → Nat → Nat) (cI cJ cZ : ClassId) (sz : Nat) (h_a0 : Nat) (a0_values : Nat → Int64) (q_a0_values : Nat) (a0_many : Int32) (p1 : Int32) (Q : Int32 → Prop) (hQ : wp_X5_canTurn a0_values p1 Q) : Met l yX5_canTurn wsX5_canTurn rm_X5_canTurn (pre_ dC dI cI cJ cZ [.ref h_a0, .int p1] [(h_a0, .inr (5, [.ref q_a0_values, .int a0_many])), (q_a0_values, .inl (cJ, 9600, .inr (.inl a0_values)))] sz) (qc_X5_canTurn dC dI cI cJ cZ h_a0 a0_values q_a0_values a0_many Q (va_A [(h_a0, .inr (5, [.ref q_a0_values, .int a0_many])), (q_a0_values, .inl (cJ, 9600, .inr (.inl a0_values)))] sz)) 0 0 (va_A [(h_a0, .inr (5, [.ref q_a0_values, .int a0_many])), (q_a0_values, .inl (cJ, 9600, .inr (.inl a0_values)))] sz) := by
  refine Met.ofW (cc := cX5_canTurn) (maxL := 4) (ret := (some .boolean)) (by decide) rfl ?_
  intro p e s m args below meth c s₁ B hml hv
  obtain ⟨rfl, hsz, hP, hK, hN, hD0⟩ := hv
  have hx := B.exec
  have hb := B.bytes
  have hr := B.returns
  have hts := atoms_spec (ws := wsX5_canTurn) B.pre
  have hown : s.vm.findClass RX5 = some m.cls := findClass_of_methodNamed B.named
  subst hsz
  have hD := hD0.self (sz := s.heap.size)
  generalize hAe : va_A [(h_a0, .inr (5, [.ref q_a0_values, .int a0_many])), (q_a0_values, .inl (cJ, 9600, .inr (.inl a0_values)))] s.heap.size = A at hD ⊢
  have hA : ∀ q : Nat, s.heap.size ≤ q → A q := fun q h => by rw [← hAe]; exact Or.inr h
  have hS : va_S A s.heap s.heap [] := va_S.rf
  have hl := lv_entry ([.ref h_a0, .int p1]) (n := 4) (Nat.le_of_ble_eq_true rfl)
  rw [lg_entry_eq]
  generalize (lg_sl ([.ref h_a0, .int p1]) ++ List.replicate (4 - (lg_sl ([.ref h_a0, .int p1])).length) Slot.unset).toArray = ls at hl ⊢
  have hl : lv_has ls 4 [(0, .ref h_a0), (1, .int p1)] := hl
  have h := hQ
  unfold wp_X5_canTurn at h
  have hw_0 := hts (.constantLong RX5 43 (-1)) (by decide +kernel)
  refine lv_aload_n hx hb dX5_canTurn_0 rfl (lv_at hl 0 rfl) ?_
  refine lv_iload_n hx hb dX5_canTurn_1 rfl (lv_at hl 1 rfl) ?_
  refine lv_iconst (v := (1 : Int32)) hx hb dX5_canTurn_2 (by decide) ?_
  have hPc := hP.sub (ws' := [(h_a0, .inr (5, [.ref q_a0_values, .int a0_many])), (q_a0_values, .inl (cJ, 9600, .inr (.inl a0_values)))]) [0, 1] rfl
  have hDc := hD.sub (ws' := [(h_a0, .inr (5, [.ref q_a0_values, .int a0_many])), (q_a0_values, .inl (cJ, 9600, .inr (.inl a0_values)))]) [0, 1] (by decide) rfl
  have hFc := va_free (wc := [(h_a0, .inr (5, [.ref q_a0_values, .int a0_many])), (q_a0_values, .inl (cJ, 9600, .inr (.inl a0_values)))]) hD hS hA [0, 1] rfl
  refine va_calll (va_runV (As := [.int p1, .int (1 : Int32)]) (rest := []) ⟨hx, hb, hml, hown, hts⟩ (c_X5_look l dC dI cI cJ cZ _ h_a0 a0_values q_a0_values a0_many p1 (1 : Int32) _ h) (cwV 2 hts gX5_canTurn_X5_look rfl rfl rfl (by decide +kernel) ⟨Nat.le_of_ble_eq_true rfl, Nat.le_of_ble_eq_true rfl⟩) ⟨pre_fb, va_recv hK hPc (ci := 5) (q0 := 0) rfl rfl, pre_of hPc hDc hK hN⟩ rfl rfl hl.1 rfl (lv_room (Nat.le_of_ble_eq_true rfl)) dX5_canTurn_3 ⟨by first | exact Nat.le_of_ble_eq_true rfl | exact Nat.le_refl _, by first | exact Nat.le_of_ble_eq_true rfl | exact Nat.le_refl _⟩) hS (fun q _ h => hFc q h) hFc (fun r_1 u t H1 locs ht hvm h hB hz1 hk1 hS => ?_)
  obtain ⟨hP1, hD1⟩ := hB
  rw [ht] at hP1
  try dsimp only at h
  obtain ⟨hP, hD⟩ := va_join (wr := []) (w1 := [(h_a0, .inr (5, [.ref q_a0_values, .int a0_many])), (q_a0_values, .inl (cJ, 9600, .inr (.inl a0_values)))]) hP hD [0, 1] [] rfl rfl (by decide) (by decide) hk1 hFc hP1 hD1
  generalize H1 = H at hP hS ⊢
  have hP : va_P (dC, dI) vwCl [(h_a0, .inr (5, [.ref q_a0_values, .int a0_many])), (q_a0_values, .inl (cJ, 9600, .inr (.inl a0_values)))] H := hP
  have hD : va_D A [(h_a0, .inr (5, [.ref q_a0_values, .int a0_many])), (q_a0_values, .inl (cJ, 9600, .inr (.inl a0_values)))] := hD
  refine lv_lstore_n (lv' := [(2, .long r_1), (0, .ref h_a0), (1, .int p1)]) hx hb dX5_canTurn_6 rfl hl (by decide) rfl (fun ls hl => ?_)
  refine lv_lload_n hx hb dX5_canTurn_7 rfl (lv_at hl 0 rfl) ?_
  refine lv_lconst (v := (1 : Int64)) hx hb dX5_canTurn_8 (by decide) ?_
  refine W.lcmp hx hb dX5_canTurn_9 ?_
  refine lv_if_eq (tgt := 21) hx hb dX5_canTurn_10 (by decide) (fun c_2 => ?_) (fun c_2 => ?_)
  · replace c_2 := (lg_cmp_eq _ _).mp c_2
    replace h := h.1 c_2
    refine lv_iconst (v := (1 : Int32)) hx hb dX5_canTurn_21 (by decide) ?_
    refine lv_goto (tgt := 26) hx hb dX5_canTurn_22 (by decide) ?_
    have hP9 := hP.sub (ws' := [(h_a0, .inr (5, [.ref q_a0_values, .int a0_many])), (q_a0_values, .inl (cJ, 9600, .inr (.inl a0_values)))]) [0, 1] rfl
    have hD9 := hD.sub (ws' := [(h_a0, .inr (5, [.ref q_a0_values, .int a0_many])), (q_a0_values, .inl (cJ, 9600, .inr (.inl a0_values)))]) [0, 1] (by decide) rfl
    exact W.zret (v := (1 : Int32)) hx hb hr (by decide) (fun t ht hW => ⟨⟨_, (), rfl, h, by rw [ht]; exact hP9, hD9⟩, hS.F ht⟩) hS.2.2 dX5_canTurn_26
  · replace c_2 := lc_neq c_2
    replace h := h.2 c_2
    refine lv_lload_n hx hb dX5_canTurn_13 rfl (lv_at hl 0 rfl) ?_
    refine lv_ldc2 hx hb hown hw_0 dX5_canTurn_14 ?_
    refine W.lcmp hx hb dX5_canTurn_17 ?_
    refine lv_if_ne (tgt := 25) hx hb dX5_canTurn_18 (by decide) (fun c_3 => ?_) (fun c_3 => ?_)
    · replace c_3 := lc_neq c_3
      replace h := h.2 c_3
      refine lv_iconst (v := (0 : Int32)) hx hb dX5_canTurn_25 (by decide) ?_
      have hP9 := hP.sub (ws' := [(h_a0, .inr (5, [.ref q_a0_values, .int a0_many])), (q_a0_values, .inl (cJ, 9600, .inr (.inl a0_values)))]) [0, 1] rfl
      have hD9 := hD.sub (ws' := [(h_a0, .inr (5, [.ref q_a0_values, .int a0_many])), (q_a0_values, .inl (cJ, 9600, .inr (.inl a0_values)))]) [0, 1] (by decide) rfl
      exact W.zret (v := (0 : Int32)) hx hb hr (by decide) (fun t ht hW => ⟨⟨_, (), rfl, h, by rw [ht]; exact hP9, hD9⟩, hS.F ht⟩) hS.2.2 dX5_canTurn_26
    · replace c_3 := (lg_cmp_eq _ _).mp c_3
      replace h := h.1 c_3
      refine lv_iconst (v := (1 : Int32)) hx hb dX5_canTurn_21 (by decide) ?_
      refine lv_goto (tgt := 26) hx hb dX5_canTurn_22 (by decide) ?_
      have hP9 := hP.sub (ws' := [(h_a0, .inr (5, [.ref q_a0_values, .int a0_many])), (q_a0_values, .inl (cJ, 9600, .inr (.inl a0_values)))]) [0, 1] rfl
      have hD9 := hD.sub (ws' := [(h_a0, .inr (5, [.ref q_a0_values, .int a0_many])), (q_a0_values, .inl (cJ, 9600, .inr (.inl a0_values)))]) [0, 1] (by decide) rfl
      exact W.zret (v := (1 : Int32)) hx hb hr (by decide) (fun t ht hW => ⟨⟨_, (), rfl, h, by rw [ht]; exact hP9, hD9⟩, hS.F ht⟩) hS.2.2 dX5_canTurn_26
def wp_X5_fillTurned (a0_values : Nat → Int64) (p1 : Int32) (p2 : Int32) (Q : (Nat → Int64) → Prop) : Prop :=
  wp_X5_look a0_values p2 (1 : Int32) (fun r_1 => wp_X5_put a0_values p1 (1 : Int32) (-1 : Int64) (fun o_2 => (∃ (I_19_2 : Int32 → (Nat → Int64) → Prop) (m_19_2 : Int32 → (Nat → Int64) → Nat), I_19_2 (1 : Int32) o_2 ∧ ∀ (l5_19_2 : Int32) (a0_values_19_2 : Nat → Int64), I_19_2 l5_19_2 a0_values_19_2 → (((600 : Int32) < l5_19_2 → Q a0_values_19_2) ∧ (¬ (600 : Int32) < l5_19_2 → wp_X5_look a0_values_19_2 p1 l5_19_2 (fun r_5 => (∀ x6_6 : Int64, x6_6 = ((-r_1) * r_5) → wp_X5_put a0_values_19_2 p1 l5_19_2 x6_6 (fun o_7 => (∃ (I_51_7 : Int32 → (Nat → Int64) → Prop) (m_51_7 : Int32 → (Nat → Int64) → Nat), I_51_7 (2 : Int32) o_7 ∧ ∀ (l8_51_7 : Int32) (a0_values_51_7 : Nat → Int64), I_51_7 l8_51_7 a0_values_51_7 → (¬ l5_19_2 = 0 ∧ ((((600 : Int32) / l5_19_2) < l8_51_7 → (∀ x5_11 : Int32, x5_11 = l5_19_2 + (1 : Int32) → (I_19_2 x5_11 a0_values_51_7 ∧ m_19_2 x5_11 a0_values_51_7 < m_19_2 l5_19_2 a0_values_19_2))) ∧ (¬ ((600 : Int32) / l5_19_2) < l8_51_7 → wp_X5_look a0_values_51_7 p2 l8_51_7 (fun r_12 => wp_X5_increase a0_values_51_7 p1 (l5_19_2 * l8_51_7) (x6_6 * r_12) (fun o_13 => (∀ x8_14 : Int32, x8_14 = l8_51_7 + (1 : Int32) → (I_51_7 x8_14 o_13 ∧ m_51_7 x8_14 o_13 < m_51_7 l8_51_7 a0_values_51_7))))))))))))))))
abbrev rm_X5_fillTurned : Room := { frames := 3, cells := 0, slots := 0, locals := 69 }
abbrev qc_X5_fillTurned (dC : Nat → ClassId) (dI : Nat → Nat → Nat) (cI cJ cZ : ClassId) (h_a0 : Nat) (a0_values : Nat → Int64) (q_a0_values : Nat) (a0_many : Int32) (Q : (Nat → Int64) → Prop) (A : Nat → Prop) : Array Value → State → Outcome → State → Prop := va_Qv (fun (u : (Nat → Int64)) => Q u) (post_ dC dI A (fun (u : (Nat → Int64)) => [(h_a0, .inr (5, [.ref q_a0_values, .int a0_many])), (q_a0_values, .inl (cJ, 9600, .inr (.inl u)))])) A
set_option maxHeartbeats 4000000 in
set_option maxRecDepth 100000 in
theorem c_X5_fillTurned (l : Launch) (dC : Nat → ClassId) (dI : Nat → Nat → Nat) (cI cJ cZ : ClassId) (sz : Nat) (h_a0 : Nat) (a0_values : Nat → Int64) (q_a0_values : Nat) (a0_many : Int32) (p1 : Int32) (p2 : Int32) (Q : (Nat → Int64) → Prop) (hQ : wp_X5_fillTurned a0_values p1 p2 Q) : Met l yX5_fillTurned wsX5_fillTurned rm_X5_fillTurned (pre_ dC dI cI cJ cZ [.ref h_a0, .int p1, .int p2] [(h_a0, .inr (5, [.ref q_a0_values, .int a0_many])), (q_a0_values, .inl (cJ, 9600, .inr (.inl a0_values)))] sz) (qc_X5_fillTurned dC dI cI cJ cZ h_a0 a0_values q_a0_values a0_many Q (va_A [(h_a0, .inr (5, [.ref q_a0_values, .int a0_many])), (q_a0_values, .inl (cJ, 9600, .inr (.inl a0_values)))] sz)) 0 0 (va_A [(h_a0, .inr (5, [.ref q_a0_values, .int a0_many])), (q_a0_values, .inl (cJ, 9600, .inr (.inl a0_values)))] sz) := by
  refine Met.ofW (cc := cX5_fillTurned) (maxL := 9) (ret := none) (by decide) rfl ?_
  intro p e s m args below meth c s₁ B hml hv
  obtain ⟨rfl, hsz, hP, hK, hN, hD0⟩ := hv
  have hx := B.exec
  have hb := B.bytes
  have hr := B.returns
  have hts := atoms_spec (ws := wsX5_fillTurned) B.pre
  have hown : s.vm.findClass RX5 = some m.cls := findClass_of_methodNamed B.named
  subst hsz
  have hD := hD0.self (sz := s.heap.size)
  generalize hAe : va_A [(h_a0, .inr (5, [.ref q_a0_values, .int a0_many])), (q_a0_values, .inl (cJ, 9600, .inr (.inl a0_values)))] s.heap.size = A at hD ⊢
  have hA : ∀ q : Nat, s.heap.size ≤ q → A q := fun q h => by rw [← hAe]; exact Or.inr h
  have hS : va_S A s.heap s.heap [] := va_S.rf
  have hl := lv_entry ([.ref h_a0, .int p1, .int p2]) (n := 9) (Nat.le_of_ble_eq_true rfl)
  rw [lg_entry_eq]
  generalize (lg_sl ([.ref h_a0, .int p1, .int p2]) ++ List.replicate (9 - (lg_sl ([.ref h_a0, .int p1, .int p2])).length) Slot.unset).toArray = ls at hl ⊢
  have hl : lv_has ls 9 [(0, .ref h_a0), (1, .int p1), (2, .int p2)] := hl
  have h := hQ
  unfold wp_X5_fillTurned at h
  have hw_0 := hts (.constantLong RX5 43 (-1)) (by decide +kernel)
  refine lv_aload_n hx hb dX5_fillTurned_0 rfl (lv_at hl 0 rfl) ?_
  refine lv_iload_n hx hb dX5_fillTurned_1 rfl (lv_at hl 2 rfl) ?_
  refine lv_iconst (v := (1 : Int32)) hx hb dX5_fillTurned_2 (by decide) ?_
  have hPc := hP.sub (ws' := [(h_a0, .inr (5, [.ref q_a0_values, .int a0_many])), (q_a0_values, .inl (cJ, 9600, .inr (.inl a0_values)))]) [0, 1] rfl
  have hDc := hD.sub (ws' := [(h_a0, .inr (5, [.ref q_a0_values, .int a0_many])), (q_a0_values, .inl (cJ, 9600, .inr (.inl a0_values)))]) [0, 1] (by decide) rfl
  have hFc := va_free (wc := [(h_a0, .inr (5, [.ref q_a0_values, .int a0_many])), (q_a0_values, .inl (cJ, 9600, .inr (.inl a0_values)))]) hD hS hA [0, 1] rfl
  refine va_calll (va_runV (As := [.int p2, .int (1 : Int32)]) (rest := []) ⟨hx, hb, hml, hown, hts⟩ (c_X5_look l dC dI cI cJ cZ _ h_a0 a0_values q_a0_values a0_many p2 (1 : Int32) _ h) (cwV 2 hts gX5_fillTurned_X5_look rfl rfl rfl (by decide +kernel) ⟨Nat.le_of_ble_eq_true rfl, Nat.le_of_ble_eq_true rfl⟩) ⟨pre_fb, va_recv hK hPc (ci := 5) (q0 := 0) rfl rfl, pre_of hPc hDc hK hN⟩ rfl rfl hl.1 rfl (lv_room (Nat.le_of_ble_eq_true rfl)) dX5_fillTurned_3 ⟨by first | exact Nat.le_of_ble_eq_true rfl | exact Nat.le_refl _, by first | exact Nat.le_of_ble_eq_true rfl | exact Nat.le_refl _⟩) hS (fun q _ h => hFc q h) hFc (fun r_1 u t H1 locs ht hvm h hB hz1 hk1 hS => ?_)
  obtain ⟨hP1, hD1⟩ := hB
  rw [ht] at hP1
  try dsimp only at h
  obtain ⟨hP, hD⟩ := va_join (wr := []) (w1 := [(h_a0, .inr (5, [.ref q_a0_values, .int a0_many])), (q_a0_values, .inl (cJ, 9600, .inr (.inl a0_values)))]) hP hD [0, 1] [] rfl rfl (by decide) (by decide) hk1 hFc hP1 hD1
  generalize H1 = H at hP hS ⊢
  have hP : va_P (dC, dI) vwCl [(h_a0, .inr (5, [.ref q_a0_values, .int a0_many])), (q_a0_values, .inl (cJ, 9600, .inr (.inl a0_values)))] H := hP
  have hD : va_D A [(h_a0, .inr (5, [.ref q_a0_values, .int a0_many])), (q_a0_values, .inl (cJ, 9600, .inr (.inl a0_values)))] := hD
  refine lv_lstore_n (lv' := [(3, .long r_1), (0, .ref h_a0), (1, .int p1), (2, .int p2)]) hx hb dX5_fillTurned_6 rfl hl (by decide) rfl (fun ls hl => ?_)
  refine lv_aload_n hx hb dX5_fillTurned_7 rfl (lv_at hl 1 rfl) ?_
  refine lv_iload_n hx hb dX5_fillTurned_8 rfl (lv_at hl 2 rfl) ?_
  refine lv_iconst (v := (1 : Int32)) hx hb dX5_fillTurned_9 (by decide) ?_
  refine lv_ldc2 hx hb hown hw_0 dX5_fillTurned_10 ?_
  have hPc := hP.sub (ws' := [(h_a0, .inr (5, [.ref q_a0_values, .int a0_many])), (q_a0_values, .inl (cJ, 9600, .inr (.inl a0_values)))]) [0, 1] rfl
  have hDc := hD.sub (ws' := [(h_a0, .inr (5, [.ref q_a0_values, .int a0_many])), (q_a0_values, .inl (cJ, 9600, .inr (.inl a0_values)))]) [0, 1] (by decide) rfl
  have hFc := va_free (wc := [(h_a0, .inr (5, [.ref q_a0_values, .int a0_many])), (q_a0_values, .inl (cJ, 9600, .inr (.inl a0_values)))]) hD hS hA [0, 1] rfl
  refine va_callv (va_runV (As := [.int p1, .int (1 : Int32), .long (-1 : Int64)]) (rest := []) ⟨hx, hb, hml, hown, hts⟩ (c_X5_put l dC dI cI cJ cZ _ h_a0 a0_values q_a0_values a0_many p1 (1 : Int32) (-1 : Int64) _ h) (cwV 3 hts gX5_fillTurned_X5_put rfl rfl rfl (by decide +kernel) ⟨Nat.le_of_ble_eq_true rfl, Nat.le_of_ble_eq_true rfl⟩) ⟨pre_fb, va_recv hK hPc (ci := 5) (q0 := 0) rfl rfl, pre_of hPc hDc hK hN⟩ rfl rfl hl.1 rfl (lv_room (Nat.le_of_ble_eq_true rfl)) dX5_fillTurned_13 ⟨by first | exact Nat.le_of_ble_eq_true rfl | exact Nat.le_refl _, by first | exact Nat.le_of_ble_eq_true rfl | exact Nat.le_refl _⟩) hS (fun q _ h => hFc q h) hFc (fun u t H1 locs ht hvm h hB hz1 hk1 hS => ?_)
  obtain ⟨o_2, rfl⟩ : ∃ z, z = u := ⟨_, rfl⟩
  obtain ⟨hP1, hD1⟩ := hB
  rw [ht] at hP1
  try dsimp only at h
  obtain ⟨hP, hD⟩ := va_join (wr := []) (w1 := [(h_a0, .inr (5, [.ref q_a0_values, .int a0_many])), (q_a0_values, .inl (cJ, 9600, .inr (.inl o_2)))]) hP hD [0, 1] [] rfl rfl (by decide) (by decide) hk1 hFc hP1 hD1
  generalize H1 = H at hP hS ⊢
  have hP : va_P (dC, dI) vwCl [(h_a0, .inr (5, [.ref q_a0_values, .int a0_many])), (q_a0_values, .inl (cJ, 9600, .inr (.inl o_2)))] H := hP
  have hD : va_D A [(h_a0, .inr (5, [.ref q_a0_values, .int a0_many])), (q_a0_values, .inl (cJ, 9600, .inr (.inl o_2)))] := hD
  refine lv_iconst (v := (1 : Int32)) hx hb dX5_fillTurned_16 (by decide) ?_
  refine lv_istore (lv' := [(5, .int (1 : Int32)), (3, .long r_1), (0, .ref h_a0), (1, .int p1), (2, .int p2)]) hx hb dX5_fillTurned_17 hl (by decide) rfl (fun ls hl => ?_)
  obtain ⟨I_19_2, m_19_2, h0_19_2, hs_19_2⟩ := h
  have key_19_2 : ∀ (n : Nat) (l5_19_2 : Int32) (a0_values_19_2 : Nat → Int64), m_19_2 l5_19_2 a0_values_19_2 < n → I_19_2 l5_19_2 a0_values_19_2 → ∀ (ls : Array Slot) (H : Heap) (locs : List Loc), lv_has ls 9 [(5, .int l5_19_2), (3, .long r_1), (0, .ref h_a0), (1, .int p1), (2, .int p2)] → va_P (dC, dI) vwCl [(h_a0, .inr (5, [.ref q_a0_values, .int a0_many])), (q_a0_values, .inl (cJ, 9600, .inr (.inl a0_values_19_2)))] H → va_D A [(h_a0, .inr (5, [.ref q_a0_values, .int a0_many])), (q_a0_values, .inl (cJ, 9600, .inr (.inl a0_values_19_2)))] → va_S A s.heap H locs → W p l e (headSpec wsX5_fillTurned rm_X5_fillTurned).room s m ([.ref h_a0, .int p1, .int p2] : List Value).toArray below meth c H locs 0 0 (MQ below (qc_X5_fillTurned dC dI cI cJ cZ h_a0 a0_values q_a0_values a0_many Q A) ([.ref h_a0, .int p1, .int p2] : List Value).toArray s 0 0 A) (F0 m 19 ls []) := by
    intro n
    induction n with
    | zero =>
      intro l5_19_2 a0_values_19_2 hm
      exact absurd hm (Nat.not_lt_zero _)
    | succ n ih_19_2 =>
      intro l5_19_2 a0_values_19_2 hm_19_2 hI ls H locs hl hP hD hS
      have h := hs_19_2 l5_19_2 a0_values_19_2 hI
      refine lv_iload hx hb dX5_fillTurned_19 (lv_at hl 0 rfl) ?_
      refine lv_sipush (v := (600 : Int32)) hx hb dX5_fillTurned_21 (by decide) ?_
      refine lv_icmp_gt (tgt := 94) hx hb dX5_fillTurned_24 (by decide) (fun c_4 => ?_) (fun c_4 => ?_)
      · replace h := h.1 c_4
        have hP9 := hP.sub (ws' := [(h_a0, .inr (5, [.ref q_a0_values, .int a0_many])), (q_a0_values, .inl (cJ, 9600, .inr (.inl a0_values_19_2)))]) [0, 1] rfl
        have hD9 := hD.sub (ws' := [(h_a0, .inr (5, [.ref q_a0_values, .int a0_many])), (q_a0_values, .inl (cJ, 9600, .inr (.inl a0_values_19_2)))]) [0, 1] (by decide) rfl
        exact W.vret hx hb hr (fun t ht hW => ⟨⟨a0_values_19_2, rfl, h, by rw [ht]; exact hP9, hD9⟩, hS.F ht⟩) hS.2.2 dX5_fillTurned_94
      · replace h := h.2 c_4
        refine lv_lload_n hx hb dX5_fillTurned_27 rfl (lv_at hl 1 rfl) ?_
        refine lv_lneg hx hb dX5_fillTurned_28 ?_
        refine lv_aload_n hx hb dX5_fillTurned_29 rfl (lv_at hl 2 rfl) ?_
        refine lv_iload_n hx hb dX5_fillTurned_30 rfl (lv_at hl 3 rfl) ?_
        refine lv_iload hx hb dX5_fillTurned_31 (lv_at hl 0 rfl) ?_
        have hPc := hP.sub (ws' := [(h_a0, .inr (5, [.ref q_a0_values, .int a0_many])), (q_a0_values, .inl (cJ, 9600, .inr (.inl a0_values_19_2)))]) [0, 1] rfl
        have hDc := hD.sub (ws' := [(h_a0, .inr (5, [.ref q_a0_values, .int a0_many])), (q_a0_values, .inl (cJ, 9600, .inr (.inl a0_values_19_2)))]) [0, 1] (by decide) rfl
        have hFc := va_free (wc := [(h_a0, .inr (5, [.ref q_a0_values, .int a0_many])), (q_a0_values, .inl (cJ, 9600, .inr (.inl a0_values_19_2)))]) hD hS hA [0, 1] rfl
        refine va_calll (va_runV (As := [.int p1, .int l5_19_2]) (rest := [.long (-r_1)]) ⟨hx, hb, hml, hown, hts⟩ (c_X5_look l dC dI cI cJ cZ _ h_a0 a0_values_19_2 q_a0_values a0_many p1 l5_19_2 _ h) (cwV 2 hts gX5_fillTurned_X5_look rfl rfl rfl (by decide +kernel) ⟨Nat.le_of_ble_eq_true rfl, Nat.le_of_ble_eq_true rfl⟩) ⟨pre_fb, va_recv hK hPc (ci := 5) (q0 := 0) rfl rfl, pre_of hPc hDc hK hN⟩ rfl rfl hl.1 rfl (lv_room (Nat.le_of_ble_eq_true rfl)) dX5_fillTurned_33 ⟨by first | exact Nat.le_of_ble_eq_true rfl | exact Nat.le_refl _, by first | exact Nat.le_of_ble_eq_true rfl | exact Nat.le_refl _⟩) hS (fun q _ h => hFc q h) hFc (fun r_5 u t H1 locs ht hvm h hB hz1 hk1 hS => ?_)
        obtain ⟨hP1, hD1⟩ := hB
        rw [ht] at hP1
        try dsimp only at h
        obtain ⟨hP, hD⟩ := va_join (wr := []) (w1 := [(h_a0, .inr (5, [.ref q_a0_values, .int a0_many])), (q_a0_values, .inl (cJ, 9600, .inr (.inl a0_values_19_2)))]) hP hD [0, 1] [] rfl rfl (by decide) (by decide) hk1 hFc hP1 hD1
        generalize H1 = H at hP hS ⊢
        have hP : va_P (dC, dI) vwCl [(h_a0, .inr (5, [.ref q_a0_values, .int a0_many])), (q_a0_values, .inl (cJ, 9600, .inr (.inl a0_values_19_2)))] H := hP
        have hD : va_D A [(h_a0, .inr (5, [.ref q_a0_values, .int a0_many])), (q_a0_values, .inl (cJ, 9600, .inr (.inl a0_values_19_2)))] := hD
        refine lv_lmul hx hb dX5_fillTurned_36 ?_
        refine lv_topl (fun x6_6 e_x6_6 => ?_)
        replace h := h x6_6 e_x6_6
        refine lv_lstore (lv' := [(6, .long x6_6), (5, .int l5_19_2), (3, .long r_1), (0, .ref h_a0), (1, .int p1), (2, .int p2)]) hx hb dX5_fillTurned_37 hl (by decide) rfl (fun ls hl => ?_)
        refine lv_aload_n hx hb dX5_fillTurned_39 rfl (lv_at hl 3 rfl) ?_
        refine lv_iload_n hx hb dX5_fillTurned_40 rfl (lv_at hl 4 rfl) ?_
        refine lv_iload hx hb dX5_fillTurned_41 (lv_at hl 1 rfl) ?_
        refine lv_lload hx hb dX5_fillTurned_43 (lv_at hl 0 rfl) ?_
        have hPc := hP.sub (ws' := [(h_a0, .inr (5, [.ref q_a0_values, .int a0_many])), (q_a0_values, .inl (cJ, 9600, .inr (.inl a0_values_19_2)))]) [0, 1] rfl
        have hDc := hD.sub (ws' := [(h_a0, .inr (5, [.ref q_a0_values, .int a0_many])), (q_a0_values, .inl (cJ, 9600, .inr (.inl a0_values_19_2)))]) [0, 1] (by decide) rfl
        have hFc := va_free (wc := [(h_a0, .inr (5, [.ref q_a0_values, .int a0_many])), (q_a0_values, .inl (cJ, 9600, .inr (.inl a0_values_19_2)))]) hD hS hA [0, 1] rfl
        refine va_callv (va_runV (As := [.int p1, .int l5_19_2, .long x6_6]) (rest := []) ⟨hx, hb, hml, hown, hts⟩ (c_X5_put l dC dI cI cJ cZ _ h_a0 a0_values_19_2 q_a0_values a0_many p1 l5_19_2 x6_6 _ h) (cwV 3 hts gX5_fillTurned_X5_put rfl rfl rfl (by decide +kernel) ⟨Nat.le_of_ble_eq_true rfl, Nat.le_of_ble_eq_true rfl⟩) ⟨pre_fb, va_recv hK hPc (ci := 5) (q0 := 0) rfl rfl, pre_of hPc hDc hK hN⟩ rfl rfl hl.1 rfl (lv_room (Nat.le_of_ble_eq_true rfl)) dX5_fillTurned_45 ⟨by first | exact Nat.le_of_ble_eq_true rfl | exact Nat.le_refl _, by first | exact Nat.le_of_ble_eq_true rfl | exact Nat.le_refl _⟩) hS (fun q _ h => hFc q h) hFc (fun u t H1 locs ht hvm h hB hz1 hk1 hS => ?_)
        obtain ⟨o_7, rfl⟩ : ∃ z, z = u := ⟨_, rfl⟩
        obtain ⟨hP1, hD1⟩ := hB
        rw [ht] at hP1
        try dsimp only at h
        obtain ⟨hP, hD⟩ := va_join (wr := []) (w1 := [(h_a0, .inr (5, [.ref q_a0_values, .int a0_many])), (q_a0_values, .inl (cJ, 9600, .inr (.inl o_7)))]) hP hD [0, 1] [] rfl rfl (by decide) (by decide) hk1 hFc hP1 hD1
        generalize H1 = H at hP hS ⊢
        have hP : va_P (dC, dI) vwCl [(h_a0, .inr (5, [.ref q_a0_values, .int a0_many])), (q_a0_values, .inl (cJ, 9600, .inr (.inl o_7)))] H := hP
        have hD : va_D A [(h_a0, .inr (5, [.ref q_a0_values, .int a0_many])), (q_a0_values, .inl (cJ, 9600, .inr (.inl o_7)))] := hD
        refine lv_iconst (v := (2 : Int32)) hx hb dX5_fillTurned_48 (by decide) ?_
        refine lv_istore (lv' := [(8, .int (2 : Int32)), (6, .long x6_6), (5, .int l5_19_2), (3, .long r_1), (0, .ref h_a0), (1, .int p1), (2, .int p2)]) hx hb dX5_fillTurned_49 hl (by decide) rfl (fun ls hl => ?_)
        obtain ⟨I_51_7, m_51_7, h0_51_7, hs_51_7⟩ := h
        have key_51_7 : ∀ (n : Nat) (l8_51_7 : Int32) (a0_values_51_7 : Nat → Int64), m_51_7 l8_51_7 a0_values_51_7 < n → I_51_7 l8_51_7 a0_values_51_7 → ∀ (ls : Array Slot) (H : Heap) (locs : List Loc), lv_has ls 9 [(8, .int l8_51_7), (6, .long x6_6), (5, .int l5_19_2), (3, .long r_1), (0, .ref h_a0), (1, .int p1), (2, .int p2)] → va_P (dC, dI) vwCl [(h_a0, .inr (5, [.ref q_a0_values, .int a0_many])), (q_a0_values, .inl (cJ, 9600, .inr (.inl a0_values_51_7)))] H → va_D A [(h_a0, .inr (5, [.ref q_a0_values, .int a0_many])), (q_a0_values, .inl (cJ, 9600, .inr (.inl a0_values_51_7)))] → va_S A s.heap H locs → W p l e (headSpec wsX5_fillTurned rm_X5_fillTurned).room s m ([.ref h_a0, .int p1, .int p2] : List Value).toArray below meth c H locs 0 0 (MQ below (qc_X5_fillTurned dC dI cI cJ cZ h_a0 a0_values q_a0_values a0_many Q A) ([.ref h_a0, .int p1, .int p2] : List Value).toArray s 0 0 A) (F0 m 51 ls []) := by
          intro n
          induction n with
          | zero =>
            intro l8_51_7 a0_values_51_7 hm
            exact absurd hm (Nat.not_lt_zero _)
          | succ n ih_51_7 =>
            intro l8_51_7 a0_values_51_7 hm_51_7 hI ls H locs hl hP hD hS
            have h := hs_51_7 l8_51_7 a0_values_51_7 hI
            refine lv_iload hx hb dX5_fillTurned_51 (lv_at hl 0 rfl) ?_
            refine lv_sipush (v := (600 : Int32)) hx hb dX5_fillTurned_53 (by decide) ?_
            refine lv_iload hx hb dX5_fillTurned_56 (lv_at hl 2 rfl) ?_
            obtain ⟨hne_9, h⟩ := h
            refine lv_idiv hx hb dX5_fillTurned_58 hne_9 ?_
            refine lv_icmp_gt (tgt := 88) hx hb dX5_fillTurned_59 (by decide) (fun c_10 => ?_) (fun c_10 => ?_)
            · replace h := h.1 c_10
              obtain ⟨x5_11, e_x5_11⟩ : ∃ y : Int32, y = l5_19_2 + (1 : Int32) := ⟨_, rfl⟩
              replace h := h x5_11 e_x5_11
              refine lv_iinc (v := x5_11) (lv' := [(5, .int x5_11), (8, .int l8_51_7), (6, .long x6_6), (3, .long r_1), (0, .ref h_a0), (1, .int p1), (2, .int p2)]) hx hb dX5_fillTurned_88 hl (k := 2) rfl (by rw [e_x5_11]; rfl) (by decide) rfl (fun ls hl => ?_)
              refine lv_goto (tgt := 19) hx hb dX5_fillTurned_91 (by decide) ?_
              exact ih_19_2 x5_11 a0_values_51_7 (Nat.lt_of_lt_of_le h.2 (Nat.le_of_lt_succ hm_19_2)) h.1 _ _ _ (lv_sub hl [0, 3, 4, 5, 6] rfl) (hP.sub [0, 1] rfl) (hD.sub [0, 1] (by decide) rfl) hS
            · replace h := h.2 c_10
              refine lv_aload_n hx hb dX5_fillTurned_62 rfl (lv_at hl 4 rfl) ?_
              refine lv_iload_n hx hb dX5_fillTurned_63 rfl (lv_at hl 5 rfl) ?_
              refine lv_iload hx hb dX5_fillTurned_64 (lv_at hl 2 rfl) ?_
              refine lv_iload hx hb dX5_fillTurned_66 (lv_at hl 0 rfl) ?_
              refine lv_imul hx hb dX5_fillTurned_68 ?_
              refine lv_lload hx hb dX5_fillTurned_69 (lv_at hl 1 rfl) ?_
              refine lv_aload_n hx hb dX5_fillTurned_71 rfl (lv_at hl 4 rfl) ?_
              refine lv_iload_n hx hb dX5_fillTurned_72 rfl (lv_at hl 6 rfl) ?_
              refine lv_iload hx hb dX5_fillTurned_73 (lv_at hl 0 rfl) ?_
              have hPc := hP.sub (ws' := [(h_a0, .inr (5, [.ref q_a0_values, .int a0_many])), (q_a0_values, .inl (cJ, 9600, .inr (.inl a0_values_51_7)))]) [0, 1] rfl
              have hDc := hD.sub (ws' := [(h_a0, .inr (5, [.ref q_a0_values, .int a0_many])), (q_a0_values, .inl (cJ, 9600, .inr (.inl a0_values_51_7)))]) [0, 1] (by decide) rfl
              have hFc := va_free (wc := [(h_a0, .inr (5, [.ref q_a0_values, .int a0_many])), (q_a0_values, .inl (cJ, 9600, .inr (.inl a0_values_51_7)))]) hD hS hA [0, 1] rfl
              refine va_calll (va_runV (As := [.int p2, .int l8_51_7]) (rest := [.long x6_6, .int (l5_19_2 * l8_51_7), .int p1, .ref h_a0]) ⟨hx, hb, hml, hown, hts⟩ (c_X5_look l dC dI cI cJ cZ _ h_a0 a0_values_51_7 q_a0_values a0_many p2 l8_51_7 _ h) (cwV 2 hts gX5_fillTurned_X5_look rfl rfl rfl (by decide +kernel) ⟨Nat.le_of_ble_eq_true rfl, Nat.le_of_ble_eq_true rfl⟩) ⟨pre_fb, va_recv hK hPc (ci := 5) (q0 := 0) rfl rfl, pre_of hPc hDc hK hN⟩ rfl rfl hl.1 rfl (lv_room (Nat.le_of_ble_eq_true rfl)) dX5_fillTurned_75 ⟨by first | exact Nat.le_of_ble_eq_true rfl | exact Nat.le_refl _, by first | exact Nat.le_of_ble_eq_true rfl | exact Nat.le_refl _⟩) hS (fun q _ h => hFc q h) hFc (fun r_12 u t H1 locs ht hvm h hB hz1 hk1 hS => ?_)
              obtain ⟨hP1, hD1⟩ := hB
              rw [ht] at hP1
              try dsimp only at h
              obtain ⟨hP, hD⟩ := va_join (wr := []) (w1 := [(h_a0, .inr (5, [.ref q_a0_values, .int a0_many])), (q_a0_values, .inl (cJ, 9600, .inr (.inl a0_values_51_7)))]) hP hD [0, 1] [] rfl rfl (by decide) (by decide) hk1 hFc hP1 hD1
              generalize H1 = H at hP hS ⊢
              have hP : va_P (dC, dI) vwCl [(h_a0, .inr (5, [.ref q_a0_values, .int a0_many])), (q_a0_values, .inl (cJ, 9600, .inr (.inl a0_values_51_7)))] H := hP
              have hD : va_D A [(h_a0, .inr (5, [.ref q_a0_values, .int a0_many])), (q_a0_values, .inl (cJ, 9600, .inr (.inl a0_values_51_7)))] := hD
              refine lv_lmul hx hb dX5_fillTurned_78 ?_
              have hPc := hP.sub (ws' := [(h_a0, .inr (5, [.ref q_a0_values, .int a0_many])), (q_a0_values, .inl (cJ, 9600, .inr (.inl a0_values_51_7)))]) [0, 1] rfl
              have hDc := hD.sub (ws' := [(h_a0, .inr (5, [.ref q_a0_values, .int a0_many])), (q_a0_values, .inl (cJ, 9600, .inr (.inl a0_values_51_7)))]) [0, 1] (by decide) rfl
              have hFc := va_free (wc := [(h_a0, .inr (5, [.ref q_a0_values, .int a0_many])), (q_a0_values, .inl (cJ, 9600, .inr (.inl a0_values_51_7)))]) hD hS hA [0, 1] rfl
              refine va_callv (va_runV (As := [.int p1, .int (l5_19_2 * l8_51_7), .long (x6_6 * r_12)]) (rest := []) ⟨hx, hb, hml, hown, hts⟩ (c_X5_increase l dC dI cI cJ cZ _ h_a0 a0_values_51_7 q_a0_values a0_many p1 (l5_19_2 * l8_51_7) (x6_6 * r_12) _ h) (cwV 3 hts gX5_fillTurned_X5_increase rfl rfl rfl (by decide +kernel) ⟨Nat.le_of_ble_eq_true rfl, Nat.le_of_ble_eq_true rfl⟩) ⟨pre_fb, va_recv hK hPc (ci := 5) (q0 := 0) rfl rfl, pre_of hPc hDc hK hN⟩ rfl rfl hl.1 rfl (lv_room (Nat.le_of_ble_eq_true rfl)) dX5_fillTurned_79 ⟨by first | exact Nat.le_of_ble_eq_true rfl | exact Nat.le_refl _, by first | exact Nat.le_of_ble_eq_true rfl | exact Nat.le_refl _⟩) hS (fun q _ h => hFc q h) hFc (fun u t H1 locs ht hvm h hB hz1 hk1 hS => ?_)
              obtain ⟨o_13, rfl⟩ : ∃ z, z = u := ⟨_, rfl⟩
              obtain ⟨hP1, hD1⟩ := hB
              rw [ht] at hP1
              try dsimp only at h
              obtain ⟨hP, hD⟩ := va_join (wr := []) (w1 := [(h_a0, .inr (5, [.ref q_a0_values, .int a0_many])), (q_a0_values, .inl (cJ, 9600, .inr (.inl o_13)))]) hP hD [0, 1] [] rfl rfl (by decide) (by decide) hk1 hFc hP1 hD1
              generalize H1 = H at hP hS ⊢
              have hP : va_P (dC, dI) vwCl [(h_a0, .inr (5, [.ref q_a0_values, .int a0_many])), (q_a0_values, .inl (cJ, 9600, .inr (.inl o_13)))] H := hP
              have hD : va_D A [(h_a0, .inr (5, [.ref q_a0_values, .int a0_many])), (q_a0_values, .inl (cJ, 9600, .inr (.inl o_13)))] := hD
              obtain ⟨x8_14, e_x8_14⟩ : ∃ y : Int32, y = l8_51_7 + (1 : Int32) := ⟨_, rfl⟩
              replace h := h x8_14 e_x8_14
              refine lv_iinc (v := x8_14) (lv' := [(8, .int x8_14), (6, .long x6_6), (5, .int l5_19_2), (3, .long r_1), (0, .ref h_a0), (1, .int p1), (2, .int p2)]) hx hb dX5_fillTurned_82 hl (k := 0) rfl (by rw [e_x8_14]; rfl) (by decide) rfl (fun ls hl => ?_)
              refine lv_goto (tgt := 51) hx hb dX5_fillTurned_85 (by decide) ?_
              exact ih_51_7 x8_14 o_13 (Nat.lt_of_lt_of_le h.2 (Nat.le_of_lt_succ hm_51_7)) h.1 _ _ _ (lv_sub hl [0, 1, 2, 3, 4, 5, 6] rfl) (hP.sub [0, 1] rfl) (hD.sub [0, 1] (by decide) rfl) hS
        exact key_51_7 _ (2 : Int32) o_7 (Nat.lt_succ_self _) h0_51_7 _ _ _ (lv_sub hl [0, 1, 2, 3, 4, 5, 6] rfl) (hP.sub [0, 1] rfl) (hD.sub [0, 1] (by decide) rfl) hS
  exact key_19_2 _ (1 : Int32) o_2 (Nat.lt_succ_self _) h0_19_2 _ _ _ (lv_sub hl [0, 1, 2, 3, 4] rfl) (hP.sub [0, 1] rfl) (hD.sub [0, 1] (by decide) rfl) hS
def wp_X5_sumTo (a0_values : Nat → Int64) (p1 : Int32) (p2 : Int32) (Q : Int64 → Prop) : Prop :=
  (∃ (I_5_0 : Int32 → Int64 → Prop) (m_5_0 : Int32 → Int64 → Nat), I_5_0 (1 : Int32) (0 : Int64) ∧ ∀ (l5_5_0 : Int32) (l3_5_0 : Int64), I_5_0 l5_5_0 l3_5_0 → ((p2 < l5_5_0 → Q l3_5_0) ∧ (¬ p2 < l5_5_0 → (((600 : Int32) < l5_5_0 → Q l3_5_0) ∧ (¬ (600 : Int32) < l5_5_0 → wp_X5_look a0_values p1 l5_5_0 (fun r_4 => (∀ x3_5 : Int64, x3_5 = (l3_5_0 + r_4) → (∀ x5_6 : Int32, x5_6 = l5_5_0 + (1 : Int32) → (I_5_0 x5_6 x3_5 ∧ m_5_0 x5_6 x3_5 < m_5_0 l5_5_0 l3_5_0)))))))))
abbrev rm_X5_sumTo : Room := { frames := 2, cells := 0, slots := 0, locals := 43 }
abbrev qc_X5_sumTo (dC : Nat → ClassId) (dI : Nat → Nat → Nat) (cI cJ cZ : ClassId) (h_a0 : Nat) (a0_values : Nat → Int64) (q_a0_values : Nat) (a0_many : Int32) (Q : Int64 → Prop) (A : Nat → Prop) : Array Value → State → Outcome → State → Prop := va_Ql (fun (r : Int64) (_ : Unit) => Q r) (post_ dC dI A (fun (u : Unit) => [(h_a0, .inr (5, [.ref q_a0_values, .int a0_many])), (q_a0_values, .inl (cJ, 9600, .inr (.inl a0_values)))])) A
set_option maxHeartbeats 4000000 in
set_option maxRecDepth 100000 in
theorem c_X5_sumTo (l : Launch) (dC : Nat → ClassId) (dI : Nat → Nat → Nat) (cI cJ cZ : ClassId) (sz : Nat) (h_a0 : Nat) (a0_values : Nat → Int64) (q_a0_values : Nat) (a0_many : Int32) (p1 : Int32) (p2 : Int32) (Q : Int64 → Prop) (hQ : wp_X5_sumTo a0_values p1 p2 Q) : Met l yX5_sumTo wsX5_sumTo rm_X5_sumTo (pre_ dC dI cI cJ cZ [.ref h_a0, .int p1, .int p2] [(h_a0, .inr (5, [.ref q_a0_values, .int a0_many])), (q_a0_values, .inl (cJ, 9600, .inr (.inl a0_values)))] sz) (qc_X5_sumTo dC dI cI cJ cZ h_a0 a0_values q_a0_values a0_many Q (va_A [(h_a0, .inr (5, [.ref q_a0_values, .int a0_many])), (q_a0_values, .inl (cJ, 9600, .inr (.inl a0_values)))] sz)) 0 0 (va_A [(h_a0, .inr (5, [.ref q_a0_values, .int a0_many])), (q_a0_values, .inl (cJ, 9600, .inr (.inl a0_values)))] sz) := by
  refine Met.ofW (cc := cX5_sumTo) (maxL := 6) (ret := (some .long)) (by decide) rfl ?_
  intro p e s m args below meth c s₁ B hml hv
  obtain ⟨rfl, hsz, hP, hK, hN, hD0⟩ := hv
  have hx := B.exec
  have hb := B.bytes
  have hr := B.returns
  have hts := atoms_spec (ws := wsX5_sumTo) B.pre
  have hown : s.vm.findClass RX5 = some m.cls := findClass_of_methodNamed B.named
  subst hsz
  have hD := hD0.self (sz := s.heap.size)
  generalize hAe : va_A [(h_a0, .inr (5, [.ref q_a0_values, .int a0_many])), (q_a0_values, .inl (cJ, 9600, .inr (.inl a0_values)))] s.heap.size = A at hD ⊢
  have hA : ∀ q : Nat, s.heap.size ≤ q → A q := fun q h => by rw [← hAe]; exact Or.inr h
  have hS : va_S A s.heap s.heap [] := va_S.rf
  have hl := lv_entry ([.ref h_a0, .int p1, .int p2]) (n := 6) (Nat.le_of_ble_eq_true rfl)
  rw [lg_entry_eq]
  generalize (lg_sl ([.ref h_a0, .int p1, .int p2]) ++ List.replicate (6 - (lg_sl ([.ref h_a0, .int p1, .int p2])).length) Slot.unset).toArray = ls at hl ⊢
  have hl : lv_has ls 6 [(0, .ref h_a0), (1, .int p1), (2, .int p2)] := hl
  have h := hQ
  unfold wp_X5_sumTo at h
  refine lv_lconst (v := (0 : Int64)) hx hb dX5_sumTo_0 (by decide) ?_
  refine lv_lstore_n (lv' := [(3, .long (0 : Int64)), (0, .ref h_a0), (1, .int p1), (2, .int p2)]) hx hb dX5_sumTo_1 rfl hl (by decide) rfl (fun ls hl => ?_)
  refine lv_iconst (v := (1 : Int32)) hx hb dX5_sumTo_2 (by decide) ?_
  refine lv_istore (lv' := [(5, .int (1 : Int32)), (3, .long (0 : Int64)), (0, .ref h_a0), (1, .int p1), (2, .int p2)]) hx hb dX5_sumTo_3 hl (by decide) rfl (fun ls hl => ?_)
  obtain ⟨I_5_0, m_5_0, h0_5_0, hs_5_0⟩ := h
  have key_5_0 : ∀ (n : Nat) (l5_5_0 : Int32) (l3_5_0 : Int64), m_5_0 l5_5_0 l3_5_0 < n → I_5_0 l5_5_0 l3_5_0 → ∀ (ls : Array Slot) (H : Heap) (locs : List Loc), lv_has ls 6 [(5, .int l5_5_0), (3, .long l3_5_0), (0, .ref h_a0), (1, .int p1), (2, .int p2)] → va_P (dC, dI) vwCl [(h_a0, .inr (5, [.ref q_a0_values, .int a0_many])), (q_a0_values, .inl (cJ, 9600, .inr (.inl a0_values)))] H → va_D A [(h_a0, .inr (5, [.ref q_a0_values, .int a0_many])), (q_a0_values, .inl (cJ, 9600, .inr (.inl a0_values)))] → va_S A s.heap H locs → W p l e (headSpec wsX5_sumTo rm_X5_sumTo).room s m ([.ref h_a0, .int p1, .int p2] : List Value).toArray below meth c H locs 0 0 (MQ below (qc_X5_sumTo dC dI cI cJ cZ h_a0 a0_values q_a0_values a0_many Q A) ([.ref h_a0, .int p1, .int p2] : List Value).toArray s 0 0 A) (F0 m 5 ls []) := by
    intro n
    induction n with
    | zero =>
      intro l5_5_0 l3_5_0 hm
      exact absurd hm (Nat.not_lt_zero _)
    | succ n ih_5_0 =>
      intro l5_5_0 l3_5_0 hm_5_0 hI ls H locs hl hP hD hS
      have h := hs_5_0 l5_5_0 l3_5_0 hI
      refine lv_iload hx hb dX5_sumTo_5 (lv_at hl 0 rfl) ?_
      refine lv_iload_n hx hb dX5_sumTo_7 rfl (lv_at hl 4 rfl) ?_
      refine lv_icmp_gt (tgt := 35) hx hb dX5_sumTo_8 (by decide) (fun c_2 => ?_) (fun c_2 => ?_)
      · replace h := h.1 c_2
        refine lv_lload_n hx hb dX5_sumTo_35 rfl (lv_at hl 1 rfl) ?_
        have hP9 := hP.sub (ws' := [(h_a0, .inr (5, [.ref q_a0_values, .int a0_many])), (q_a0_values, .inl (cJ, 9600, .inr (.inl a0_values)))]) [0, 1] rfl
        have hD9 := hD.sub (ws' := [(h_a0, .inr (5, [.ref q_a0_values, .int a0_many])), (q_a0_values, .inl (cJ, 9600, .inr (.inl a0_values)))]) [0, 1] (by decide) rfl
        exact W.lret (v := l3_5_0) hx hb hr (fun t ht hW => ⟨⟨_, (), rfl, h, by rw [ht]; exact hP9, hD9⟩, hS.F ht⟩) hS.2.2 dX5_sumTo_36
      · replace h := h.2 c_2
        refine lv_iload hx hb dX5_sumTo_11 (lv_at hl 0 rfl) ?_
        refine lv_sipush (v := (600 : Int32)) hx hb dX5_sumTo_13 (by decide) ?_
        refine lv_icmp_gt (tgt := 35) hx hb dX5_sumTo_16 (by decide) (fun c_3 => ?_) (fun c_3 => ?_)
        · replace h := h.1 c_3
          refine lv_lload_n hx hb dX5_sumTo_35 rfl (lv_at hl 1 rfl) ?_
          have hP9 := hP.sub (ws' := [(h_a0, .inr (5, [.ref q_a0_values, .int a0_many])), (q_a0_values, .inl (cJ, 9600, .inr (.inl a0_values)))]) [0, 1] rfl
          have hD9 := hD.sub (ws' := [(h_a0, .inr (5, [.ref q_a0_values, .int a0_many])), (q_a0_values, .inl (cJ, 9600, .inr (.inl a0_values)))]) [0, 1] (by decide) rfl
          exact W.lret (v := l3_5_0) hx hb hr (fun t ht hW => ⟨⟨_, (), rfl, h, by rw [ht]; exact hP9, hD9⟩, hS.F ht⟩) hS.2.2 dX5_sumTo_36
        · replace h := h.2 c_3
          refine lv_lload_n hx hb dX5_sumTo_19 rfl (lv_at hl 1 rfl) ?_
          refine lv_aload_n hx hb dX5_sumTo_20 rfl (lv_at hl 2 rfl) ?_
          refine lv_iload_n hx hb dX5_sumTo_21 rfl (lv_at hl 3 rfl) ?_
          refine lv_iload hx hb dX5_sumTo_22 (lv_at hl 0 rfl) ?_
          have hPc := hP.sub (ws' := [(h_a0, .inr (5, [.ref q_a0_values, .int a0_many])), (q_a0_values, .inl (cJ, 9600, .inr (.inl a0_values)))]) [0, 1] rfl
          have hDc := hD.sub (ws' := [(h_a0, .inr (5, [.ref q_a0_values, .int a0_many])), (q_a0_values, .inl (cJ, 9600, .inr (.inl a0_values)))]) [0, 1] (by decide) rfl
          have hFc := va_free (wc := [(h_a0, .inr (5, [.ref q_a0_values, .int a0_many])), (q_a0_values, .inl (cJ, 9600, .inr (.inl a0_values)))]) hD hS hA [0, 1] rfl
          refine va_calll (va_runV (As := [.int p1, .int l5_5_0]) (rest := [.long l3_5_0]) ⟨hx, hb, hml, hown, hts⟩ (c_X5_look l dC dI cI cJ cZ _ h_a0 a0_values q_a0_values a0_many p1 l5_5_0 _ h) (cwV 2 hts gX5_sumTo_X5_look rfl rfl rfl (by decide +kernel) ⟨Nat.le_of_ble_eq_true rfl, Nat.le_of_ble_eq_true rfl⟩) ⟨pre_fb, va_recv hK hPc (ci := 5) (q0 := 0) rfl rfl, pre_of hPc hDc hK hN⟩ rfl rfl hl.1 rfl (lv_room (Nat.le_of_ble_eq_true rfl)) dX5_sumTo_24 ⟨by first | exact Nat.le_of_ble_eq_true rfl | exact Nat.le_refl _, by first | exact Nat.le_of_ble_eq_true rfl | exact Nat.le_refl _⟩) hS (fun q _ h => hFc q h) hFc (fun r_4 u t H1 locs ht hvm h hB hz1 hk1 hS => ?_)
          obtain ⟨hP1, hD1⟩ := hB
          rw [ht] at hP1
          try dsimp only at h
          obtain ⟨hP, hD⟩ := va_join (wr := []) (w1 := [(h_a0, .inr (5, [.ref q_a0_values, .int a0_many])), (q_a0_values, .inl (cJ, 9600, .inr (.inl a0_values)))]) hP hD [0, 1] [] rfl rfl (by decide) (by decide) hk1 hFc hP1 hD1
          generalize H1 = H at hP hS ⊢
          have hP : va_P (dC, dI) vwCl [(h_a0, .inr (5, [.ref q_a0_values, .int a0_many])), (q_a0_values, .inl (cJ, 9600, .inr (.inl a0_values)))] H := hP
          have hD : va_D A [(h_a0, .inr (5, [.ref q_a0_values, .int a0_many])), (q_a0_values, .inl (cJ, 9600, .inr (.inl a0_values)))] := hD
          refine lv_ladd hx hb dX5_sumTo_27 ?_
          refine lv_topl (fun x3_5 e_x3_5 => ?_)
          replace h := h x3_5 e_x3_5
          refine lv_lstore_n (lv' := [(3, .long x3_5), (5, .int l5_5_0), (0, .ref h_a0), (1, .int p1), (2, .int p2)]) hx hb dX5_sumTo_28 rfl hl (by decide) rfl (fun ls hl => ?_)
          obtain ⟨x5_6, e_x5_6⟩ : ∃ y : Int32, y = l5_5_0 + (1 : Int32) := ⟨_, rfl⟩
          replace h := h x5_6 e_x5_6
          refine lv_iinc (v := x5_6) (lv' := [(5, .int x5_6), (3, .long x3_5), (0, .ref h_a0), (1, .int p1), (2, .int p2)]) hx hb dX5_sumTo_29 hl (k := 1) rfl (by rw [e_x5_6]; rfl) (by decide) rfl (fun ls hl => ?_)
          refine lv_goto (tgt := 5) hx hb dX5_sumTo_32 (by decide) ?_
          exact ih_5_0 x5_6 x3_5 (Nat.lt_of_lt_of_le h.2 (Nat.le_of_lt_succ hm_5_0)) h.1 _ _ _ (lv_sub hl [0, 1, 2, 3, 4] rfl) (hP.sub [0, 1] rfl) (hD.sub [0, 1] (by decide) rfl) hS
  exact key_5_0 _ (1 : Int32) (0 : Int64) (Nat.lt_succ_self _) h0_5_0 _ _ _ (lv_sub hl [0, 1, 2, 3, 4] rfl) (hP.sub [0, 1] rfl) (hD.sub [0, 1] (by decide) rfl) hS
def wp_X5_firstDifference (a0_values : Nat → Int64) (p1 : Int32) (p2 : Int32) (Q : Int32 → Prop) : Prop :=
  (∃ (I_2_0 : Int32 → Prop) (m_2_0 : Int32 → Nat), I_2_0 (1 : Int32) ∧ ∀ (l3_2_0 : Int32), I_2_0 l3_2_0 → (((600 : Int32) < l3_2_0 → Q (0 : Int32)) ∧ (¬ (600 : Int32) < l3_2_0 → wp_X5_look a0_values p1 l3_2_0 (fun r_3 => wp_X5_look a0_values p2 l3_2_0 (fun r_4 => ((r_3 = r_4 → (∀ x3_6 : Int32, x3_6 = l3_2_0 + (1 : Int32) → (I_2_0 x3_6 ∧ m_2_0 x3_6 < m_2_0 l3_2_0))) ∧ (¬ r_3 = r_4 → Q l3_2_0)))))))
abbrev rm_X5_firstDifference : Room := { frames := 2, cells := 0, slots := 0, locals := 43 }
abbrev qc_X5_firstDifference (dC : Nat → ClassId) (dI : Nat → Nat → Nat) (cI cJ cZ : ClassId) (h_a0 : Nat) (a0_values : Nat → Int64) (q_a0_values : Nat) (a0_many : Int32) (Q : Int32 → Prop) (A : Nat → Prop) : Array Value → State → Outcome → State → Prop := va_Qi (fun (r : Int32) (_ : Unit) => Q r) (post_ dC dI A (fun (u : Unit) => [(h_a0, .inr (5, [.ref q_a0_values, .int a0_many])), (q_a0_values, .inl (cJ, 9600, .inr (.inl a0_values)))])) A
set_option maxHeartbeats 4000000 in
set_option maxRecDepth 100000 in
theorem c_X5_firstDifference (l : Launch) (dC : Nat → ClassId) (dI : Nat → Nat → Nat) (cI cJ cZ : ClassId) (sz : Nat) (h_a0 : Nat) (a0_values : Nat → Int64) (q_a0_values : Nat) (a0_many : Int32) (p1 : Int32) (p2 : Int32) (Q : Int32 → Prop) (hQ : wp_X5_firstDifference a0_values p1 p2 Q) : Met l yX5_firstDifference wsX5_firstDifference rm_X5_firstDifference (pre_ dC dI cI cJ cZ [.ref h_a0, .int p1, .int p2] [(h_a0, .inr (5, [.ref q_a0_values, .int a0_many])), (q_a0_values, .inl (cJ, 9600, .inr (.inl a0_values)))] sz) (qc_X5_firstDifference dC dI cI cJ cZ h_a0 a0_values q_a0_values a0_many Q (va_A [(h_a0, .inr (5, [.ref q_a0_values, .int a0_many])), (q_a0_values, .inl (cJ, 9600, .inr (.inl a0_values)))] sz)) 0 0 (va_A [(h_a0, .inr (5, [.ref q_a0_values, .int a0_many])), (q_a0_values, .inl (cJ, 9600, .inr (.inl a0_values)))] sz) := by
  refine Met.ofW (cc := cX5_firstDifference) (maxL := 4) (ret := (some .int)) (by decide) rfl ?_
  intro p e s m args below meth c s₁ B hml hv
  obtain ⟨rfl, hsz, hP, hK, hN, hD0⟩ := hv
  have hx := B.exec
  have hb := B.bytes
  have hr := B.returns
  have hts := atoms_spec (ws := wsX5_firstDifference) B.pre
  have hown : s.vm.findClass RX5 = some m.cls := findClass_of_methodNamed B.named
  subst hsz
  have hD := hD0.self (sz := s.heap.size)
  generalize hAe : va_A [(h_a0, .inr (5, [.ref q_a0_values, .int a0_many])), (q_a0_values, .inl (cJ, 9600, .inr (.inl a0_values)))] s.heap.size = A at hD ⊢
  have hA : ∀ q : Nat, s.heap.size ≤ q → A q := fun q h => by rw [← hAe]; exact Or.inr h
  have hS : va_S A s.heap s.heap [] := va_S.rf
  have hl := lv_entry ([.ref h_a0, .int p1, .int p2]) (n := 4) (Nat.le_of_ble_eq_true rfl)
  rw [lg_entry_eq]
  generalize (lg_sl ([.ref h_a0, .int p1, .int p2]) ++ List.replicate (4 - (lg_sl ([.ref h_a0, .int p1, .int p2])).length) Slot.unset).toArray = ls at hl ⊢
  have hl : lv_has ls 4 [(0, .ref h_a0), (1, .int p1), (2, .int p2)] := hl
  have h := hQ
  unfold wp_X5_firstDifference at h
  refine lv_iconst (v := (1 : Int32)) hx hb dX5_firstDifference_0 (by decide) ?_
  refine lv_istore_n (lv' := [(3, .int (1 : Int32)), (0, .ref h_a0), (1, .int p1), (2, .int p2)]) hx hb dX5_firstDifference_1 rfl hl (by decide) rfl (fun ls hl => ?_)
  obtain ⟨I_2_0, m_2_0, h0_2_0, hs_2_0⟩ := h
  have key_2_0 : ∀ (n : Nat) (l3_2_0 : Int32), m_2_0 l3_2_0 < n → I_2_0 l3_2_0 → ∀ (ls : Array Slot) (H : Heap) (locs : List Loc), lv_has ls 4 [(3, .int l3_2_0), (0, .ref h_a0), (1, .int p1), (2, .int p2)] → va_P (dC, dI) vwCl [(h_a0, .inr (5, [.ref q_a0_values, .int a0_many])), (q_a0_values, .inl (cJ, 9600, .inr (.inl a0_values)))] H → va_D A [(h_a0, .inr (5, [.ref q_a0_values, .int a0_many])), (q_a0_values, .inl (cJ, 9600, .inr (.inl a0_values)))] → va_S A s.heap H locs → W p l e (headSpec wsX5_firstDifference rm_X5_firstDifference).room s m ([.ref h_a0, .int p1, .int p2] : List Value).toArray below meth c H locs 0 0 (MQ below (qc_X5_firstDifference dC dI cI cJ cZ h_a0 a0_values q_a0_values a0_many Q A) ([.ref h_a0, .int p1, .int p2] : List Value).toArray s 0 0 A) (F0 m 2 ls []) := by
    intro n
    induction n with
    | zero =>
      intro l3_2_0 hm
      exact absurd hm (Nat.not_lt_zero _)
    | succ n ih_2_0 =>
      intro l3_2_0 hm_2_0 hI ls H locs hl hP hD hS
      have h := hs_2_0 l3_2_0 hI
      refine lv_iload_n hx hb dX5_firstDifference_2 rfl (lv_at hl 0 rfl) ?_
      refine lv_sipush (v := (600 : Int32)) hx hb dX5_firstDifference_3 (by decide) ?_
      refine lv_icmp_gt (tgt := 33) hx hb dX5_firstDifference_6 (by decide) (fun c_2 => ?_) (fun c_2 => ?_)
      · replace h := h.1 c_2
        refine lv_iconst (v := (0 : Int32)) hx hb dX5_firstDifference_33 (by decide) ?_
        have hP9 := hP.sub (ws' := [(h_a0, .inr (5, [.ref q_a0_values, .int a0_many])), (q_a0_values, .inl (cJ, 9600, .inr (.inl a0_values)))]) [0, 1] rfl
        have hD9 := hD.sub (ws' := [(h_a0, .inr (5, [.ref q_a0_values, .int a0_many])), (q_a0_values, .inl (cJ, 9600, .inr (.inl a0_values)))]) [0, 1] (by decide) rfl
        exact W.iret (v := (0 : Int32)) hx hb hr (fun t ht hW => ⟨⟨_, (), rfl, h, by rw [ht]; exact hP9, hD9⟩, hS.F ht⟩) hS.2.2 dX5_firstDifference_34
      · replace h := h.2 c_2
        refine lv_aload_n hx hb dX5_firstDifference_9 rfl (lv_at hl 1 rfl) ?_
        refine lv_iload_n hx hb dX5_firstDifference_10 rfl (lv_at hl 2 rfl) ?_
        refine lv_iload_n hx hb dX5_firstDifference_11 rfl (lv_at hl 0 rfl) ?_
        have hPc := hP.sub (ws' := [(h_a0, .inr (5, [.ref q_a0_values, .int a0_many])), (q_a0_values, .inl (cJ, 9600, .inr (.inl a0_values)))]) [0, 1] rfl
        have hDc := hD.sub (ws' := [(h_a0, .inr (5, [.ref q_a0_values, .int a0_many])), (q_a0_values, .inl (cJ, 9600, .inr (.inl a0_values)))]) [0, 1] (by decide) rfl
        have hFc := va_free (wc := [(h_a0, .inr (5, [.ref q_a0_values, .int a0_many])), (q_a0_values, .inl (cJ, 9600, .inr (.inl a0_values)))]) hD hS hA [0, 1] rfl
        refine va_calll (va_runV (As := [.int p1, .int l3_2_0]) (rest := []) ⟨hx, hb, hml, hown, hts⟩ (c_X5_look l dC dI cI cJ cZ _ h_a0 a0_values q_a0_values a0_many p1 l3_2_0 _ h) (cwV 2 hts gX5_firstDifference_X5_look rfl rfl rfl (by decide +kernel) ⟨Nat.le_of_ble_eq_true rfl, Nat.le_of_ble_eq_true rfl⟩) ⟨pre_fb, va_recv hK hPc (ci := 5) (q0 := 0) rfl rfl, pre_of hPc hDc hK hN⟩ rfl rfl hl.1 rfl (lv_room (Nat.le_of_ble_eq_true rfl)) dX5_firstDifference_12 ⟨by first | exact Nat.le_of_ble_eq_true rfl | exact Nat.le_refl _, by first | exact Nat.le_of_ble_eq_true rfl | exact Nat.le_refl _⟩) hS (fun q _ h => hFc q h) hFc (fun r_3 u t H1 locs ht hvm h hB hz1 hk1 hS => ?_)
        obtain ⟨hP1, hD1⟩ := hB
        rw [ht] at hP1
        try dsimp only at h
        obtain ⟨hP, hD⟩ := va_join (wr := []) (w1 := [(h_a0, .inr (5, [.ref q_a0_values, .int a0_many])), (q_a0_values, .inl (cJ, 9600, .inr (.inl a0_values)))]) hP hD [0, 1] [] rfl rfl (by decide) (by decide) hk1 hFc hP1 hD1
        generalize H1 = H at hP hS ⊢
        have hP : va_P (dC, dI) vwCl [(h_a0, .inr (5, [.ref q_a0_values, .int a0_many])), (q_a0_values, .inl (cJ, 9600, .inr (.inl a0_values)))] H := hP
        have hD : va_D A [(h_a0, .inr (5, [.ref q_a0_values, .int a0_many])), (q_a0_values, .inl (cJ, 9600, .inr (.inl a0_values)))] := hD
        refine lv_aload_n hx hb dX5_firstDifference_15 rfl (lv_at hl 1 rfl) ?_
        refine lv_iload_n hx hb dX5_firstDifference_16 rfl (lv_at hl 3 rfl) ?_
        refine lv_iload_n hx hb dX5_firstDifference_17 rfl (lv_at hl 0 rfl) ?_
        have hPc := hP.sub (ws' := [(h_a0, .inr (5, [.ref q_a0_values, .int a0_many])), (q_a0_values, .inl (cJ, 9600, .inr (.inl a0_values)))]) [0, 1] rfl
        have hDc := hD.sub (ws' := [(h_a0, .inr (5, [.ref q_a0_values, .int a0_many])), (q_a0_values, .inl (cJ, 9600, .inr (.inl a0_values)))]) [0, 1] (by decide) rfl
        have hFc := va_free (wc := [(h_a0, .inr (5, [.ref q_a0_values, .int a0_many])), (q_a0_values, .inl (cJ, 9600, .inr (.inl a0_values)))]) hD hS hA [0, 1] rfl
        refine va_calll (va_runV (As := [.int p2, .int l3_2_0]) (rest := [.long r_3]) ⟨hx, hb, hml, hown, hts⟩ (c_X5_look l dC dI cI cJ cZ _ h_a0 a0_values q_a0_values a0_many p2 l3_2_0 _ h) (cwV 2 hts gX5_firstDifference_X5_look rfl rfl rfl (by decide +kernel) ⟨Nat.le_of_ble_eq_true rfl, Nat.le_of_ble_eq_true rfl⟩) ⟨pre_fb, va_recv hK hPc (ci := 5) (q0 := 0) rfl rfl, pre_of hPc hDc hK hN⟩ rfl rfl hl.1 rfl (lv_room (Nat.le_of_ble_eq_true rfl)) dX5_firstDifference_18 ⟨by first | exact Nat.le_of_ble_eq_true rfl | exact Nat.le_refl _, by first | exact Nat.le_of_ble_eq_true rfl | exact Nat.le_refl _⟩) hS (fun q _ h => hFc q h) hFc (fun r_4 u t H1 locs ht hvm h hB hz1 hk1 hS => ?_)
        obtain ⟨hP1, hD1⟩ := hB
        rw [ht] at hP1
        try dsimp only at h
        obtain ⟨hP, hD⟩ := va_join (wr := []) (w1 := [(h_a0, .inr (5, [.ref q_a0_values, .int a0_many])), (q_a0_values, .inl (cJ, 9600, .inr (.inl a0_values)))]) hP hD [0, 1] [] rfl rfl (by decide) (by decide) hk1 hFc hP1 hD1
        generalize H1 = H at hP hS ⊢
        have hP : va_P (dC, dI) vwCl [(h_a0, .inr (5, [.ref q_a0_values, .int a0_many])), (q_a0_values, .inl (cJ, 9600, .inr (.inl a0_values)))] H := hP
        have hD : va_D A [(h_a0, .inr (5, [.ref q_a0_values, .int a0_many])), (q_a0_values, .inl (cJ, 9600, .inr (.inl a0_values)))] := hD
        refine W.lcmp hx hb dX5_firstDifference_21 ?_
        refine lv_if_eq (tgt := 27) hx hb dX5_firstDifference_22 (by decide) (fun c_5 => ?_) (fun c_5 => ?_)
        · replace c_5 := (lg_cmp_eq _ _).mp c_5
          replace h := h.1 c_5
          obtain ⟨x3_6, e_x3_6⟩ : ∃ y : Int32, y = l3_2_0 + (1 : Int32) := ⟨_, rfl⟩
          replace h := h x3_6 e_x3_6
          refine lv_iinc (v := x3_6) (lv' := [(3, .int x3_6), (0, .ref h_a0), (1, .int p1), (2, .int p2)]) hx hb dX5_firstDifference_27 hl (k := 0) rfl (by rw [e_x3_6]; rfl) (by decide) rfl (fun ls hl => ?_)
          refine lv_goto (tgt := 2) hx hb dX5_firstDifference_30 (by decide) ?_
          exact ih_2_0 x3_6 (Nat.lt_of_lt_of_le h.2 (Nat.le_of_lt_succ hm_2_0)) h.1 _ _ _ (lv_sub hl [0, 1, 2, 3] rfl) (hP.sub [0, 1] rfl) (hD.sub [0, 1] (by decide) rfl) hS
        · replace c_5 := lc_neq c_5
          replace h := h.2 c_5
          refine lv_iload_n hx hb dX5_firstDifference_25 rfl (lv_at hl 0 rfl) ?_
          have hP9 := hP.sub (ws' := [(h_a0, .inr (5, [.ref q_a0_values, .int a0_many])), (q_a0_values, .inl (cJ, 9600, .inr (.inl a0_values)))]) [0, 1] rfl
          have hD9 := hD.sub (ws' := [(h_a0, .inr (5, [.ref q_a0_values, .int a0_many])), (q_a0_values, .inl (cJ, 9600, .inr (.inl a0_values)))]) [0, 1] (by decide) rfl
          exact W.iret (v := l3_2_0) hx hb hr (fun t ht hW => ⟨⟨_, (), rfl, h, by rw [ht]; exact hP9, hD9⟩, hS.F ht⟩) hS.2.2 dX5_firstDifference_26
  exact key_2_0 _ (1 : Int32) (Nat.lt_succ_self _) h0_2_0 _ _ _ (lv_sub hl [0, 1, 2, 3] rfl) (hP.sub [0, 1] rfl) (hD.sub [0, 1] (by decide) rfl) hS

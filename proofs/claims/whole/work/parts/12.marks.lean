def wp_X0_init  (N_new : Nat) (p1 : Int32) (Q : (Nat → Int64) → Prop) : Prop :=
  (((1 : Int32) ≤ p1 → (¬ (((p1 - (1 : Int32)) / (64 : Int32)) + (1 : Int32)) < 0 ∧ (((p1 - (1 : Int32)) / (64 : Int32)) + (1 : Int32)).toNatClampNeg = N_new ∧ N_new * componentBytes .long ≤ 536870912 ∧ Q (fun _ => 0))) ∧ (¬ (1 : Int32) ≤ p1 → (¬ (0 : Int32) < 0 ∧ (0 : Int32).toNatClampNeg = N_new ∧ N_new * componentBytes .long ≤ 536870912 ∧ Q (fun _ => 0))))
abbrev rm_X0_init (N_new : Nat) : Room := { frames := 1, cells := 1, slots := N_new, locals := 20 }
abbrev qc_X0_init (dC : Nat → ClassId) (dI : Nat → Nat → Nat) (cI cJ cZ : ClassId) (h_a0 : Nat) (N_new : Nat) (Q : (Nat → Int64) → Prop) (A : Nat → Prop) : Array Value → State → Outcome → State → Prop := va_Qv (fun (u : Nat × (Nat → Int64)) => Q u.2) (post_ dC dI A (fun (u : Nat × (Nat → Int64)) => [(h_a0, .inr (0, [.ref u.1])), (u.1, .inl (cJ, N_new, .inr (.inl (u.2))))])) A
set_option maxHeartbeats 4000000 in
set_option maxRecDepth 100000 in
theorem c_X0_init (l : Launch) (dC : Nat → ClassId) (dI : Nat → Nat → Nat) (cI cJ cZ : ClassId) (sz : Nat) (h_a0 : Nat) (N_new : Nat) (p1 : Int32) (Q : (Nat → Int64) → Prop) (hQ : wp_X0_init N_new p1 Q) : Met l yX0_init wsX0_init (rm_X0_init N_new) (pre_ dC dI cI cJ cZ [.ref h_a0, .int p1] [(h_a0, .inr (0, [.null]))] sz) (qc_X0_init dC dI cI cJ cZ h_a0 N_new Q (va_A [(h_a0, .inr (0, [.null]))] sz)) 1 N_new (va_A [(h_a0, .inr (0, [.null]))] sz) := by
  refine Met.ofW (cc := cX0_init) (maxL := 2) (ret := none) (by decide) rfl ?_
  intro p e s m args below meth c s₁ B hml hv
  obtain ⟨rfl, hsz, hP, hK, hN, hD0⟩ := hv
  have hx := B.exec
  have hb := B.bytes
  have hr := B.returns
  have hts := atoms_spec (ws := wsX0_init) B.pre
  have hown : s.vm.findClass RX0 = some m.cls := findClass_of_methodNamed B.named
  have hin0 : meth.name = "<init>" := (name_of_methodNamed B.named B.method).1
  subst hsz
  have hD := hD0.self (sz := s.heap.size)
  generalize hAe : va_A [(h_a0, .inr (0, [.null]))] s.heap.size = A at hD ⊢
  have hA : ∀ q : Nat, s.heap.size ≤ q → A q := fun q h => by rw [← hAe]; exact Or.inr h
  have hS : va_S A s.heap s.heap [] := va_S.rf
  have hl := lv_entry ([.ref h_a0, .int p1]) (n := 2) (Nat.le_of_ble_eq_true rfl)
  rw [lg_entry_eq]
  generalize (lg_sl ([.ref h_a0, .int p1]) ++ List.replicate (2 - (lg_sl ([.ref h_a0, .int p1])).length) Slot.unset).toArray = ls at hl ⊢
  have hl : lv_has ls 2 [(0, .ref h_a0), (1, .int p1)] := hl
  have h := hQ
  unfold wp_X0_init at h
  have hw_0 := hts (.methodLink RX0 1 objectInit) (by decide +kernel)
  have hw_1 := hts (.instanceMethod objectInit) (by decide +kernel)
  have hw_2 := hts (.code objectInit ⟨#[0xb1]⟩ 1 none) (by decide +kernel)
  have hw_3 := hts (.arrayClass .long) (by decide +kernel)
  have hw_4 := hts (.fieldLink RX0 7 "NumberSieves$Marks" "words" "[J") (by decide +kernel)
  have hin_X0 : ∀ w ∈ wsX00, w ∈ wsX0_init := by decide +kernel
  refine lv_aload_n hx hb dX0_init_0 rfl (lv_at hl 0 rfl) ?_
  refine W.objInit hx hb hown hw_0 hw_1 hw_2 rfl (by rw [hml]; exact hl.1) rfl dX0_init_1 (Nat.le_of_ble_eq_true rfl) (Nat.le_of_ble_eq_true rfl) ?_
  refine W.eq (g2 := F0 m 4 ls []) rfl ?_
  refine lv_aload_n hx hb dX0_init_4 rfl (lv_at hl 0 rfl) ?_
  refine lv_iload_n hx hb dX0_init_5 rfl (lv_at hl 1 rfl) ?_
  refine lv_iconst (v := (1 : Int32)) hx hb dX0_init_6 (by decide) ?_
  refine lv_icmp_ge (tgt := 14) hx hb dX0_init_7 (by decide) (fun c_1 => ?_) (fun c_1 => ?_)
  · replace h := h.1 c_1
    refine lv_iload_n hx hb dX0_init_14 rfl (lv_at hl 1 rfl) ?_
    refine lv_iconst (v := (1 : Int32)) hx hb dX0_init_15 (by decide) ?_
    refine lv_isub hx hb dX0_init_16 ?_
    refine lv_bipush (v := (64 : Int32)) hx hb dX0_init_17 (by decide) ?_
    refine lv_idiv hx hb dX0_init_19 (by decide) ?_
    refine lv_iconst (v := (1 : Int32)) hx hb dX0_init_20 (by decide) ?_
    refine lv_iadd hx hb dX0_init_21 ?_
    obtain ⟨hn_3, hN_4, hb_5, h⟩ := h
    refine va_newa (atype := .long) (ty := .long) (a0 := (N_new, .inr (.inl (fun _ => 0)))) (N' := N_new) hx hb hw_3 rfl hK hP hD hS hA (fun _ => rfl) hn_3 hN_4 hb_5 (by first | exact Nat.le_refl _ | exact Nat.le_of_ble_eq_true rfl) (by first | exact Nat.le_refl _ | exact Nat.le_of_ble_eq_true rfl | exact Nat.le_of_eq (Nat.zero_add _)) dX0_init_22 (fun q_2 cA H hK9 hP hD hS => ?_)
    rw [cls_J hK9] at hP hD
    have hP : va_P (dC, dI) vwCl [(h_a0, .inr (0, [.null])), (q_2, .inl (cJ, N_new, .inr (.inl (fun _ => 0))))] H := hP
    have hD : va_D A [(h_a0, .inr (0, [.null])), (q_2, .inl (cJ, N_new, .inr (.inl (fun _ => 0))))] := hD
    refine W.widen (k := 1) (n := N_new) (by omega) (by omega) ?_
    refine va_putF (D := (dC, dI)) (ci := 0) (v := .ref q_2) (ty := .array .long) (C := RX0) (T := TX0) (N := 1) hx hb hts hin_X0 tyX0 tyX0_ok nmX0 hown hK hP hD hS 0 rfl rfl 0 (by decide) hw_4 (fun _ h9 => h9) rfl hin0 rfl (by decide +kernel) rfl rfl (Nat.le_of_ble_eq_true rfl) dX0_init_24 (fun H locs hP hD hS => ?_)
    have hP : va_P (dC, dI) vwCl [(h_a0, .inr (0, [.ref q_2])), (q_2, .inl (cJ, N_new, .inr (.inl (fun _ => 0))))] H := hP
    have hD : va_D A [(h_a0, .inr (0, [.ref q_2])), (q_2, .inl (cJ, N_new, .inr (.inl (fun _ => 0))))] := hD
    have hP9 := hP.sub (ws' := [(h_a0, .inr (0, [.ref q_2])), (q_2, .inl (cJ, N_new, .inr (.inl (fun _ => 0))))]) [0, 1] rfl
    have hD9 := hD.sub (ws' := [(h_a0, .inr (0, [.ref q_2])), (q_2, .inl (cJ, N_new, .inr (.inl (fun _ => 0))))]) [0, 1] (by decide) rfl
    exact W.vret hx hb hr (fun t ht hW => ⟨⟨(q_2, (fun _ => 0)), rfl, h, by rw [ht]; exact hP9, hD9⟩, hS.F ht⟩) hS.2.2 dX0_init_27
  · replace h := h.2 c_1
    refine lv_iconst (v := (0 : Int32)) hx hb dX0_init_10 (by decide) ?_
    refine lv_goto (tgt := 22) hx hb dX0_init_11 (by decide) ?_
    obtain ⟨hn_7, hN_8, hb_9, h⟩ := h
    refine va_newa (atype := .long) (ty := .long) (a0 := (N_new, .inr (.inl (fun _ => 0)))) (N' := N_new) hx hb hw_3 rfl hK hP hD hS hA (fun _ => rfl) hn_7 hN_8 hb_9 (by first | exact Nat.le_refl _ | exact Nat.le_of_ble_eq_true rfl) (by first | exact Nat.le_refl _ | exact Nat.le_of_ble_eq_true rfl | exact Nat.le_of_eq (Nat.zero_add _)) dX0_init_22 (fun q_6 cA H hK9 hP hD hS => ?_)
    rw [cls_J hK9] at hP hD
    have hP : va_P (dC, dI) vwCl [(h_a0, .inr (0, [.null])), (q_6, .inl (cJ, N_new, .inr (.inl (fun _ => 0))))] H := hP
    have hD : va_D A [(h_a0, .inr (0, [.null])), (q_6, .inl (cJ, N_new, .inr (.inl (fun _ => 0))))] := hD
    refine W.widen (k := 1) (n := N_new) (by omega) (by omega) ?_
    refine va_putF (D := (dC, dI)) (ci := 0) (v := .ref q_6) (ty := .array .long) (C := RX0) (T := TX0) (N := 1) hx hb hts hin_X0 tyX0 tyX0_ok nmX0 hown hK hP hD hS 0 rfl rfl 0 (by decide) hw_4 (fun _ h9 => h9) rfl hin0 rfl (by decide +kernel) rfl rfl (Nat.le_of_ble_eq_true rfl) dX0_init_24 (fun H locs hP hD hS => ?_)
    have hP : va_P (dC, dI) vwCl [(h_a0, .inr (0, [.ref q_6])), (q_6, .inl (cJ, N_new, .inr (.inl (fun _ => 0))))] H := hP
    have hD : va_D A [(h_a0, .inr (0, [.ref q_6])), (q_6, .inl (cJ, N_new, .inr (.inl (fun _ => 0))))] := hD
    have hP9 := hP.sub (ws' := [(h_a0, .inr (0, [.ref q_6])), (q_6, .inl (cJ, N_new, .inr (.inl (fun _ => 0))))]) [0, 1] rfl
    have hD9 := hD.sub (ws' := [(h_a0, .inr (0, [.ref q_6])), (q_6, .inl (cJ, N_new, .inr (.inl (fun _ => 0))))]) [0, 1] (by decide) rfl
    exact W.vret hx hb hr (fun t ht hW => ⟨⟨(q_6, (fun _ => 0)), rfl, h, by rw [ht]; exact hP9, hD9⟩, hS.F ht⟩) hS.2.2 dX0_init_27
def wp_X0_wipe (N_a0 : Nat) (a0_words : Nat → Int64)  (Q : (Nat → Int64) → Prop) : Prop :=
  wp_J7_fill_d0a16 N_a0 a0_words (0 : Int64) (fun o_1 => Q o_1)
abbrev rm_X0_wipe : Room := { frames := 1, cells := 0, slots := 0, locals := 24 }
abbrev qc_X0_wipe (dC : Nat → ClassId) (dI : Nat → Nat → Nat) (cI cJ cZ : ClassId) (h_a0 : Nat) (N_a0 : Nat) (a0_words : Nat → Int64) (q_a0_words : Nat) (Q : (Nat → Int64) → Prop) (A : Nat → Prop) : Array Value → State → Outcome → State → Prop := va_Qv (fun (u : (Nat → Int64)) => Q u) (post_ dC dI A (fun (u : (Nat → Int64)) => [(h_a0, .inr (0, [.ref q_a0_words])), (q_a0_words, .inl (cJ, N_a0, .inr (.inl u)))])) A
set_option maxHeartbeats 4000000 in
set_option maxRecDepth 100000 in
theorem c_X0_wipe (l : Launch) (dC : Nat → ClassId) (dI : Nat → Nat → Nat) (cI cJ cZ : ClassId) (sz : Nat) (h_a0 : Nat) (N_a0 : Nat) (a0_words : Nat → Int64) (q_a0_words : Nat)  (Q : (Nat → Int64) → Prop) (hQ : wp_X0_wipe N_a0 a0_words Q) : Met l yX0_wipe wsX0_wipe rm_X0_wipe (pre_ dC dI cI cJ cZ [.ref h_a0] [(h_a0, .inr (0, [.ref q_a0_words])), (q_a0_words, .inl (cJ, N_a0, .inr (.inl a0_words)))] sz) (qc_X0_wipe dC dI cI cJ cZ h_a0 N_a0 a0_words q_a0_words Q (va_A [(h_a0, .inr (0, [.ref q_a0_words])), (q_a0_words, .inl (cJ, N_a0, .inr (.inl a0_words)))] sz)) 0 0 (va_A [(h_a0, .inr (0, [.ref q_a0_words])), (q_a0_words, .inl (cJ, N_a0, .inr (.inl a0_words)))] sz) := by
  refine Met.ofW (cc := cX0_wipe) (maxL := 1) (ret := none) (by decide) rfl ?_
  intro p e s m args below meth c s₁ B hml hv
  obtain ⟨rfl, hsz, hP, hK, hN, hD0⟩ := hv
  have hx := B.exec
  have hb := B.bytes
  have hr := B.returns
  have hts := atoms_spec (ws := wsX0_wipe) B.pre
  have hown : s.vm.findClass RX0 = some m.cls := findClass_of_methodNamed B.named
  subst hsz
  have hD := hD0.self (sz := s.heap.size)
  generalize hAe : va_A [(h_a0, .inr (0, [.ref q_a0_words])), (q_a0_words, .inl (cJ, N_a0, .inr (.inl a0_words)))] s.heap.size = A at hD ⊢
  have hA : ∀ q : Nat, s.heap.size ≤ q → A q := fun q h => by rw [← hAe]; exact Or.inr h
  have hS : va_S A s.heap s.heap [] := va_S.rf
  have hl := lv_entry ([.ref h_a0]) (n := 1) (Nat.le_of_ble_eq_true rfl)
  rw [lg_entry_eq]
  generalize (lg_sl ([.ref h_a0]) ++ List.replicate (1 - (lg_sl ([.ref h_a0])).length) Slot.unset).toArray = ls at hl ⊢
  have hl : lv_has ls 1 [(0, .ref h_a0)] := hl
  have h := hQ
  unfold wp_X0_wipe at h
  have hw_0 := hts (.fieldLink RX0 7 "NumberSieves$Marks" "words" "[J") (by decide +kernel)
  have hin_X0 : ∀ w ∈ wsX00, w ∈ wsX0_wipe := by decide +kernel
  refine lv_aload_n hx hb dX0_wipe_0 rfl (lv_at hl 0 rfl) ?_
  refine va_get (D := (dC, dI)) (ci := 0) (v := .ref q_a0_words) (C := RX0) (T := TX0) (N := 1) hx hb hts hin_X0 hown hK hP 0 rfl rfl 0 (by decide) hw_0 (fun _ h9 => h9) rfl dX0_wipe_1 ?_
  refine lv_lconst (v := (0 : Int64)) hx hb dX0_wipe_4 (by decide) ?_
  have hPc := hP.sub (ws' := [(q_a0_words, .inl (cJ, N_a0, .inr (.inl a0_words)))]) [1] rfl
  have hDc := hD.sub (ws' := [(q_a0_words, .inl (cJ, N_a0, .inr (.inl a0_words)))]) [1] (by decide) rfl
  have hFc := va_free (wc := [(q_a0_words, .inl (cJ, N_a0, .inr (.inl a0_words)))]) hD hS hA [1] rfl
  refine va_callv (va_runS (As := [.ref q_a0_words, .long (0 : Int64)]) (rest := []) ⟨hx, hb, hml, hown, hts⟩ (c_J7_fill_d0a16 l dC dI cI cJ cZ _ q_a0_words N_a0 a0_words (0 : Int64) _ h) (va_cwS 2 hts gX0_wipe_J7_fill_d0a16 rfl rfl rfl (by decide +kernel) ⟨Nat.le_of_ble_eq_true rfl, Nat.le_of_ble_eq_true rfl⟩) ⟨pre_fb, pre_of hPc hDc hK hN⟩ rfl rfl hl.1 rfl (lv_room (Nat.le_of_ble_eq_true rfl)) dX0_wipe_5 ⟨by first | exact Nat.le_of_ble_eq_true rfl | exact Nat.le_refl _, by first | exact Nat.le_of_ble_eq_true rfl | exact Nat.le_refl _⟩) hS (fun q _ h => hFc q h) hFc (fun u t H1 locs ht hvm h hB hz1 hk1 hS => ?_)
  obtain ⟨o_1, rfl⟩ : ∃ z, z = u := ⟨_, rfl⟩
  obtain ⟨hP1, hD1⟩ := hB
  rw [ht] at hP1
  try dsimp only at h
  obtain ⟨hP, hD⟩ := va_join (wr := [(h_a0, .inr (0, [.ref q_a0_words]))]) (w1 := [(q_a0_words, .inl (cJ, N_a0, .inr (.inl o_1)))]) hP hD [1] [0] rfl rfl (by decide) (by decide) hk1 hFc hP1 hD1
  generalize H1 = H at hP hS ⊢
  have hP : va_P (dC, dI) vwCl [(h_a0, .inr (0, [.ref q_a0_words])), (q_a0_words, .inl (cJ, N_a0, .inr (.inl o_1)))] H := hP
  have hD : va_D A [(h_a0, .inr (0, [.ref q_a0_words])), (q_a0_words, .inl (cJ, N_a0, .inr (.inl o_1)))] := hD
  have hP9 := hP.sub (ws' := [(h_a0, .inr (0, [.ref q_a0_words])), (q_a0_words, .inl (cJ, N_a0, .inr (.inl o_1)))]) [0, 1] rfl
  have hD9 := hD.sub (ws' := [(h_a0, .inr (0, [.ref q_a0_words])), (q_a0_words, .inl (cJ, N_a0, .inr (.inl o_1)))]) [0, 1] (by decide) rfl
  exact W.vret hx hb hr (fun t ht hW => ⟨⟨o_1, rfl, h, by rw [ht]; exact hP9, hD9⟩, hS.F ht⟩) hS.2.2 dX0_wipe_8
def wp_X0_mark (N_a0 : Nat) (a0_words : Nat → Int64) (p1 : Int32) (Q : (Nat → Int64) → Prop) : Prop :=
  (∀ x2_1 : Int32, x2_1 = (p1 >>> ((6 : Int32) &&& 31)) → ((x2_1 < (0 : Int32) → Q a0_words) ∧ (¬ x2_1 < (0 : Int32) → (((Int32.ofNat N_a0) ≤ x2_1 → Q a0_words) ∧ (¬ (Int32.ofNat N_a0) ≤ x2_1 → (vp_in x2_1 N_a0 ∧ (∀ y_5 : Int64, y_5 = ((a0_words x2_1.toNatClampNeg) ||| ((1 : Int64) <<< ((p1 &&& (63 : Int32)).toInt64 &&& 63))) → (vp_in x2_1 N_a0 ∧ Q (vp_updL a0_words x2_1.toNatClampNeg y_5)))))))))
abbrev rm_X0_mark : Room := { frames := 0, cells := 0, slots := 0, locals := 0 }
abbrev qc_X0_mark (dC : Nat → ClassId) (dI : Nat → Nat → Nat) (cI cJ cZ : ClassId) (h_a0 : Nat) (N_a0 : Nat) (a0_words : Nat → Int64) (q_a0_words : Nat) (Q : (Nat → Int64) → Prop) (A : Nat → Prop) : Array Value → State → Outcome → State → Prop := va_Qv (fun (u : (Nat → Int64)) => Q u) (post_ dC dI A (fun (u : (Nat → Int64)) => [(h_a0, .inr (0, [.ref q_a0_words])), (q_a0_words, .inl (cJ, N_a0, .inr (.inl u)))])) A
set_option maxHeartbeats 4000000 in
set_option maxRecDepth 100000 in
theorem c_X0_mark (l : Launch) (dC : Nat → ClassId) (dI : Nat → Nat → Nat) (cI cJ cZ : ClassId) (sz : Nat) (h_a0 : Nat) (N_a0 : Nat) (a0_words : Nat → Int64) (q_a0_words : Nat) (p1 : Int32) (Q : (Nat → Int64) → Prop) (hQ : wp_X0_mark N_a0 a0_words p1 Q) : Met l yX0_mark wsX0_mark rm_X0_mark (pre_ dC dI cI cJ cZ [.ref h_a0, .int p1] [(h_a0, .inr (0, [.ref q_a0_words])), (q_a0_words, .inl (cJ, N_a0, .inr (.inl a0_words)))] sz) (qc_X0_mark dC dI cI cJ cZ h_a0 N_a0 a0_words q_a0_words Q (va_A [(h_a0, .inr (0, [.ref q_a0_words])), (q_a0_words, .inl (cJ, N_a0, .inr (.inl a0_words)))] sz)) 0 0 (va_A [(h_a0, .inr (0, [.ref q_a0_words])), (q_a0_words, .inl (cJ, N_a0, .inr (.inl a0_words)))] sz) := by
  refine Met.ofW (cc := cX0_mark) (maxL := 3) (ret := none) (by decide) rfl ?_
  intro p e s m args below meth c s₁ B hml hv
  obtain ⟨rfl, hsz, hP, hK, hN, hD0⟩ := hv
  have hx := B.exec
  have hb := B.bytes
  have hr := B.returns
  have hts := atoms_spec (ws := wsX0_mark) B.pre
  have hown : s.vm.findClass RX0 = some m.cls := findClass_of_methodNamed B.named
  subst hsz
  have hD := hD0.self (sz := s.heap.size)
  generalize hAe : va_A [(h_a0, .inr (0, [.ref q_a0_words])), (q_a0_words, .inl (cJ, N_a0, .inr (.inl a0_words)))] s.heap.size = A at hD ⊢
  have hA : ∀ q : Nat, s.heap.size ≤ q → A q := fun q h => by rw [← hAe]; exact Or.inr h
  have hS : va_S A s.heap s.heap [] := va_S.rf
  have hl := lv_entry ([.ref h_a0, .int p1]) (n := 3) (Nat.le_of_ble_eq_true rfl)
  rw [lg_entry_eq]
  generalize (lg_sl ([.ref h_a0, .int p1]) ++ List.replicate (3 - (lg_sl ([.ref h_a0, .int p1])).length) Slot.unset).toArray = ls at hl ⊢
  have hl : lv_has ls 3 [(0, .ref h_a0), (1, .int p1)] := hl
  have h := hQ
  unfold wp_X0_mark at h
  have hw_0 := hts (.fieldLink RX0 7 "NumberSieves$Marks" "words" "[J") (by decide +kernel)
  have hin_X0 : ∀ w ∈ wsX00, w ∈ wsX0_mark := by decide +kernel
  refine lv_iload_n hx hb dX0_mark_0 rfl (lv_at hl 1 rfl) ?_
  refine lv_bipush (v := (6 : Int32)) hx hb dX0_mark_1 (by decide) ?_
  refine lv_ishr hx hb dX0_mark_3 ?_
  refine lv_topi (fun x2_1 e_x2_1 => ?_)
  replace h := h x2_1 e_x2_1
  refine lv_istore_n (lv' := [(2, .int x2_1), (0, .ref h_a0), (1, .int p1)]) hx hb dX0_mark_4 rfl hl (by decide) rfl (fun ls hl => ?_)
  refine lv_iload_n hx hb dX0_mark_5 rfl (lv_at hl 0 rfl) ?_
  refine lv_if_lt (tgt := 33) hx hb dX0_mark_6 (by decide) (fun c_2 => ?_) (fun c_2 => ?_)
  · replace h := h.1 c_2
    have hP9 := hP.sub (ws' := [(h_a0, .inr (0, [.ref q_a0_words])), (q_a0_words, .inl (cJ, N_a0, .inr (.inl a0_words)))]) [0, 1] rfl
    have hD9 := hD.sub (ws' := [(h_a0, .inr (0, [.ref q_a0_words])), (q_a0_words, .inl (cJ, N_a0, .inr (.inl a0_words)))]) [0, 1] (by decide) rfl
    exact W.vret hx hb hr (fun t ht hW => ⟨⟨a0_words, rfl, h, by rw [ht]; exact hP9, hD9⟩, hS.F ht⟩) hS.2.2 dX0_mark_33
  · replace h := h.2 c_2
    refine lv_iload_n hx hb dX0_mark_9 rfl (lv_at hl 0 rfl) ?_
    refine lv_aload_n hx hb dX0_mark_10 rfl (lv_at hl 1 rfl) ?_
    refine va_get (D := (dC, dI)) (ci := 0) (v := .ref q_a0_words) (C := RX0) (T := TX0) (N := 1) hx hb hts hin_X0 hown hK hP 0 rfl rfl 0 (by decide) hw_0 (fun _ h9 => h9) rfl dX0_mark_11 ?_
    refine va_alen hx hb hK hP 1 1 rfl rfl rfl dX0_mark_14 ?_
    refine lv_icmp_ge (tgt := 33) hx hb dX0_mark_15 (by decide) (fun c_3 => ?_) (fun c_3 => ?_)
    · replace h := h.1 c_3
      have hP9 := hP.sub (ws' := [(h_a0, .inr (0, [.ref q_a0_words])), (q_a0_words, .inl (cJ, N_a0, .inr (.inl a0_words)))]) [0, 1] rfl
      have hD9 := hD.sub (ws' := [(h_a0, .inr (0, [.ref q_a0_words])), (q_a0_words, .inl (cJ, N_a0, .inr (.inl a0_words)))]) [0, 1] (by decide) rfl
      exact W.vret hx hb hr (fun t ht hW => ⟨⟨a0_words, rfl, h, by rw [ht]; exact hP9, hD9⟩, hS.F ht⟩) hS.2.2 dX0_mark_33
    · replace h := h.2 c_3
      refine lv_aload_n hx hb dX0_mark_18 rfl (lv_at hl 1 rfl) ?_
      refine va_get (D := (dC, dI)) (ci := 0) (v := .ref q_a0_words) (C := RX0) (T := TX0) (N := 1) hx hb hts hin_X0 hown hK hP 0 rfl rfl 0 (by decide) hw_0 (fun _ h9 => h9) rfl dX0_mark_19 ?_
      refine lv_iload_n hx hb dX0_mark_22 rfl (lv_at hl 0 rfl) ?_
      refine lv_dup2_11 hx hb dX0_mark_23 rfl rfl ?_
      obtain ⟨hin_4, h⟩ := h
      refine va_lald hx hb hK hP 1 1 rfl rfl hin_4 dX0_mark_24 ?_
      refine lv_lconst (v := (1 : Int64)) hx hb dX0_mark_25 (by decide) ?_
      refine lv_iload_n hx hb dX0_mark_26 rfl (lv_at hl 2 rfl) ?_
      refine lv_bipush (v := (63 : Int32)) hx hb dX0_mark_27 (by decide) ?_
      refine lv_iand hx hb dX0_mark_29 ?_
      refine lv_lshl hx hb dX0_mark_30 rfl ?_
      refine lv_lor hx hb dX0_mark_31 ?_
      refine lv_topl (fun y_5 e_y_5 => ?_)
      replace h := h y_5 e_y_5
      obtain ⟨hin_6, h⟩ := h
      refine va_last hx hb hK hP hD hS 1 1 rfl rfl hin_6 dX0_mark_32 (fun H locs hP hD hS => ?_)
      have hP : va_P (dC, dI) vwCl [(h_a0, .inr (0, [.ref q_a0_words])), (q_a0_words, .inl (cJ, N_a0, .inr (.inl (vp_updL a0_words x2_1.toNatClampNeg y_5))))] H := hP
      have hD : va_D A [(h_a0, .inr (0, [.ref q_a0_words])), (q_a0_words, .inl (cJ, N_a0, .inr (.inl (vp_updL a0_words x2_1.toNatClampNeg y_5))))] := hD
      have hP9 := hP.sub (ws' := [(h_a0, .inr (0, [.ref q_a0_words])), (q_a0_words, .inl (cJ, N_a0, .inr (.inl (vp_updL a0_words x2_1.toNatClampNeg y_5))))]) [0, 1] rfl
      have hD9 := hD.sub (ws' := [(h_a0, .inr (0, [.ref q_a0_words])), (q_a0_words, .inl (cJ, N_a0, .inr (.inl (vp_updL a0_words x2_1.toNatClampNeg y_5))))]) [0, 1] (by decide) rfl
      exact W.vret hx hb hr (fun t ht hW => ⟨⟨(vp_updL a0_words x2_1.toNatClampNeg y_5), rfl, h, by rw [ht]; exact hP9, hD9⟩, hS.F ht⟩) hS.2.2 dX0_mark_33
def wp_X0_markEvery (N_a0 : Nat) (a0_words : Nat → Int64) (p1 : Int32) (p2 : Int32) (p3 : Int32) (Q : (Nat → Int64) → Prop) : Prop :=
  ((p1 < (0 : Int32) → Q a0_words) ∧ (¬ p1 < (0 : Int32) → (((1 : Int32) ≤ p2 → (∀ x4_3 : Int32, x4_3 = (if ((Int32.ofNat N_a0) * (64 : Int32)) < p3 then ((Int32.ofNat N_a0) * (64 : Int32)) else p3) → (∃ (I_27_3 : Int32 → (Nat → Int64) → Prop) (m_27_3 : Int32 → (Nat → Int64) → Nat), I_27_3 p1 a0_words ∧ ∀ (l5_27_3 : Int32) (a0_words_27_3 : Nat → Int64), I_27_3 l5_27_3 a0_words_27_3 → ((x4_3 ≤ l5_27_3 → Q a0_words_27_3) ∧ (¬ x4_3 ≤ l5_27_3 → (vp_in (l5_27_3 >>> ((6 : Int32) &&& 31)) N_a0 ∧ (∀ y_7 : Int64, y_7 = ((a0_words_27_3 (l5_27_3 >>> ((6 : Int32) &&& 31)).toNatClampNeg) ||| ((1 : Int64) <<< ((l5_27_3 &&& (63 : Int32)).toInt64 &&& 63))) → (vp_in (l5_27_3 >>> ((6 : Int32) &&& 31)) N_a0 ∧ (∀ x5_9 : Int32, x5_9 = (l5_27_3 + p2) → (I_27_3 x5_9 (vp_updL a0_words_27_3 (l5_27_3 >>> ((6 : Int32) &&& 31)).toNatClampNeg y_7) ∧ m_27_3 x5_9 (vp_updL a0_words_27_3 (l5_27_3 >>> ((6 : Int32) &&& 31)).toNatClampNeg y_7) < m_27_3 l5_27_3 a0_words_27_3)))))))))) ∧ (¬ (1 : Int32) ≤ p2 → Q a0_words))))
abbrev rm_X0_markEvery : Room := { frames := 1, cells := 0, slots := 0, locals := 23 }
abbrev qc_X0_markEvery (dC : Nat → ClassId) (dI : Nat → Nat → Nat) (cI cJ cZ : ClassId) (h_a0 : Nat) (N_a0 : Nat) (a0_words : Nat → Int64) (q_a0_words : Nat) (Q : (Nat → Int64) → Prop) (A : Nat → Prop) : Array Value → State → Outcome → State → Prop := va_Qv (fun (u : (Nat → Int64)) => Q u) (post_ dC dI A (fun (u : (Nat → Int64)) => [(h_a0, .inr (0, [.ref q_a0_words])), (q_a0_words, .inl (cJ, N_a0, .inr (.inl u)))])) A
set_option maxHeartbeats 4000000 in
set_option maxRecDepth 100000 in
theorem c_X0_markEvery (l : Launch) (dC : Nat → ClassId) (dI : Nat → Nat → Nat) (cI cJ cZ : ClassId) (sz : Nat) (h_a0 : Nat) (N_a0 : Nat) (a0_words : Nat → Int64) (q_a0_words : Nat) (p1 : Int32) (p2 : Int32) (p3 : Int32) (Q : (Nat → Int64) → Prop) (hQ : wp_X0_markEvery N_a0 a0_words p1 p2 p3 Q) : Met l yX0_markEvery wsX0_markEvery rm_X0_markEvery (pre_ dC dI cI cJ cZ [.ref h_a0, .int p1, .int p2, .int p3] [(h_a0, .inr (0, [.ref q_a0_words])), (q_a0_words, .inl (cJ, N_a0, .inr (.inl a0_words)))] sz) (qc_X0_markEvery dC dI cI cJ cZ h_a0 N_a0 a0_words q_a0_words Q (va_A [(h_a0, .inr (0, [.ref q_a0_words])), (q_a0_words, .inl (cJ, N_a0, .inr (.inl a0_words)))] sz)) 0 0 (va_A [(h_a0, .inr (0, [.ref q_a0_words])), (q_a0_words, .inl (cJ, N_a0, .inr (.inl a0_words)))] sz) := by
  refine Met.ofW (cc := cX0_markEvery) (maxL := 6) (ret := none) (by decide) rfl ?_
  intro p e s m args below meth c s₁ B hml hv
  obtain ⟨rfl, hsz, hP, hK, hN, hD0⟩ := hv
  have hx := B.exec
  have hb := B.bytes
  have hr := B.returns
  have hts := atoms_spec (ws := wsX0_markEvery) B.pre
  have hown : s.vm.findClass RX0 = some m.cls := findClass_of_methodNamed B.named
  subst hsz
  have hD := hD0.self (sz := s.heap.size)
  generalize hAe : va_A [(h_a0, .inr (0, [.ref q_a0_words])), (q_a0_words, .inl (cJ, N_a0, .inr (.inl a0_words)))] s.heap.size = A at hD ⊢
  have hA : ∀ q : Nat, s.heap.size ≤ q → A q := fun q h => by rw [← hAe]; exact Or.inr h
  have hS : va_S A s.heap s.heap [] := va_S.rf
  have hl := lv_entry ([.ref h_a0, .int p1, .int p2, .int p3]) (n := 6) (Nat.le_of_ble_eq_true rfl)
  rw [lg_entry_eq]
  generalize (lg_sl ([.ref h_a0, .int p1, .int p2, .int p3]) ++ List.replicate (6 - (lg_sl ([.ref h_a0, .int p1, .int p2, .int p3])).length) Slot.unset).toArray = ls at hl ⊢
  have hl : lv_has ls 6 [(0, .ref h_a0), (1, .int p1), (2, .int p2), (3, .int p3)] := hl
  have h := hQ
  unfold wp_X0_markEvery at h
  have hw_0 := hts (.fieldLink RX0 7 "NumberSieves$Marks" "words" "[J") (by decide +kernel)
  have hin_X0 : ∀ w ∈ wsX00, w ∈ wsX0_markEvery := by decide +kernel
  have hw_2 := hts (.methodLink RX0 19 Lib.Math.min.name) (by decide +kernel)
  have hw_3 := hts (.static Lib.Math.min.name) (by decide +kernel)
  have hw_4 := hts (.initialized "java/lang/Math") (by decide +kernel)
  have hw_5 := hts (.code Lib.Math.min.name Lib.Math.min.code 2 (some .int)) (by decide +kernel)
  refine lv_iload_n hx hb dX0_markEvery_0 rfl (lv_at hl 1 rfl) ?_
  refine lv_if_lt (tgt := 9) hx hb dX0_markEvery_1 (by decide) (fun c_1 => ?_) (fun c_1 => ?_)
  · replace h := h.1 c_1
    have hP9 := hP.sub (ws' := [(h_a0, .inr (0, [.ref q_a0_words])), (q_a0_words, .inl (cJ, N_a0, .inr (.inl a0_words)))]) [0, 1] rfl
    have hD9 := hD.sub (ws' := [(h_a0, .inr (0, [.ref q_a0_words])), (q_a0_words, .inl (cJ, N_a0, .inr (.inl a0_words)))]) [0, 1] (by decide) rfl
    exact W.vret hx hb hr (fun t ht hW => ⟨⟨a0_words, rfl, h, by rw [ht]; exact hP9, hD9⟩, hS.F ht⟩) hS.2.2 dX0_markEvery_9
  · replace h := h.2 c_1
    refine lv_iload_n hx hb dX0_markEvery_4 rfl (lv_at hl 2 rfl) ?_
    refine lv_iconst (v := (1 : Int32)) hx hb dX0_markEvery_5 (by decide) ?_
    refine lv_icmp_ge (tgt := 10) hx hb dX0_markEvery_6 (by decide) (fun c_2 => ?_) (fun c_2 => ?_)
    · replace h := h.1 c_2
      refine lv_iload_n hx hb dX0_markEvery_10 rfl (lv_at hl 3 rfl) ?_
      refine lv_aload_n hx hb dX0_markEvery_11 rfl (lv_at hl 0 rfl) ?_
      refine va_get (D := (dC, dI)) (ci := 0) (v := .ref q_a0_words) (C := RX0) (T := TX0) (N := 1) hx hb hts hin_X0 hown hK hP 0 rfl rfl 0 (by decide) hw_0 (fun _ h9 => h9) rfl dX0_markEvery_12 ?_
      refine va_alen hx hb hK hP 1 1 rfl rfl rfl dX0_markEvery_15 ?_
      refine lv_bipush (v := (64 : Int32)) hx hb dX0_markEvery_16 (by decide) ?_
      refine lv_imul hx hb dX0_markEvery_18 ?_
      refine va_mmin hx hb (by rw [hml]; exact hl.1.symm) hown hw_2 hw_3 hw_4 hw_5 (Nat.le_of_ble_eq_true rfl) (Nat.le_of_ble_eq_true rfl) (Nat.le_of_ble_eq_true rfl) (Nat.le_of_ble_eq_true rfl) dX0_markEvery_19 ?_
      refine lv_topi (fun x4_3 e_x4_3 => ?_)
      replace h := h x4_3 e_x4_3
      refine lv_istore (lv' := [(4, .int x4_3), (0, .ref h_a0), (1, .int p1), (2, .int p2), (3, .int p3)]) hx hb dX0_markEvery_22 hl (by decide) rfl (fun ls hl => ?_)
      refine lv_iload_n hx hb dX0_markEvery_24 rfl (lv_at hl 2 rfl) ?_
      refine lv_istore (lv' := [(5, .int p1), (4, .int x4_3), (0, .ref h_a0), (1, .int p1), (2, .int p2), (3, .int p3)]) hx hb dX0_markEvery_25 hl (by decide) rfl (fun ls hl => ?_)
      obtain ⟨I_27_3, m_27_3, h0_27_3, hs_27_3⟩ := h
      have key_27_3 : ∀ (n : Nat) (l5_27_3 : Int32) (a0_words_27_3 : Nat → Int64), m_27_3 l5_27_3 a0_words_27_3 < n → I_27_3 l5_27_3 a0_words_27_3 → ∀ (ls : Array Slot) (H : Heap) (locs : List Loc), lv_has ls 6 [(5, .int l5_27_3), (4, .int x4_3), (0, .ref h_a0), (2, .int p2)] → va_P (dC, dI) vwCl [(h_a0, .inr (0, [.ref q_a0_words])), (q_a0_words, .inl (cJ, N_a0, .inr (.inl a0_words_27_3)))] H → va_D A [(h_a0, .inr (0, [.ref q_a0_words])), (q_a0_words, .inl (cJ, N_a0, .inr (.inl a0_words_27_3)))] → va_S A s.heap H locs → W p l e (headSpec wsX0_markEvery rm_X0_markEvery).room s m ([.ref h_a0, .int p1, .int p2, .int p3] : List Value).toArray below meth c H locs 0 0 (MQ below (qc_X0_markEvery dC dI cI cJ cZ h_a0 N_a0 a0_words q_a0_words Q A) ([.ref h_a0, .int p1, .int p2, .int p3] : List Value).toArray s 0 0 A) (F0 m 27 ls []) := by
        intro n
        induction n with
        | zero =>
          intro l5_27_3 a0_words_27_3 hm
          exact absurd hm (Nat.not_lt_zero _)
        | succ n ih_27_3 =>
          intro l5_27_3 a0_words_27_3 hm_27_3 hI ls H locs hl hP hD hS
          have h := hs_27_3 l5_27_3 a0_words_27_3 hI
          refine lv_iload hx hb dX0_markEvery_27 (lv_at hl 0 rfl) ?_
          refine lv_iload hx hb dX0_markEvery_29 (lv_at hl 1 rfl) ?_
          refine lv_icmp_ge (tgt := 63) hx hb dX0_markEvery_31 (by decide) (fun c_5 => ?_) (fun c_5 => ?_)
          · replace h := h.1 c_5
            have hP9 := hP.sub (ws' := [(h_a0, .inr (0, [.ref q_a0_words])), (q_a0_words, .inl (cJ, N_a0, .inr (.inl a0_words_27_3)))]) [0, 1] rfl
            have hD9 := hD.sub (ws' := [(h_a0, .inr (0, [.ref q_a0_words])), (q_a0_words, .inl (cJ, N_a0, .inr (.inl a0_words_27_3)))]) [0, 1] (by decide) rfl
            exact W.vret hx hb hr (fun t ht hW => ⟨⟨a0_words_27_3, rfl, h, by rw [ht]; exact hP9, hD9⟩, hS.F ht⟩) hS.2.2 dX0_markEvery_63
          · replace h := h.2 c_5
            refine lv_aload_n hx hb dX0_markEvery_34 rfl (lv_at hl 2 rfl) ?_
            refine va_get (D := (dC, dI)) (ci := 0) (v := .ref q_a0_words) (C := RX0) (T := TX0) (N := 1) hx hb hts hin_X0 hown hK hP 0 rfl rfl 0 (by decide) hw_0 (fun _ h9 => h9) rfl dX0_markEvery_35 ?_
            refine lv_iload hx hb dX0_markEvery_38 (lv_at hl 0 rfl) ?_
            refine lv_bipush (v := (6 : Int32)) hx hb dX0_markEvery_40 (by decide) ?_
            refine lv_ishr hx hb dX0_markEvery_42 ?_
            refine lv_dup2_11 hx hb dX0_markEvery_43 rfl rfl ?_
            obtain ⟨hin_6, h⟩ := h
            refine va_lald hx hb hK hP 1 1 rfl rfl hin_6 dX0_markEvery_44 ?_
            refine lv_lconst (v := (1 : Int64)) hx hb dX0_markEvery_45 (by decide) ?_
            refine lv_iload hx hb dX0_markEvery_46 (lv_at hl 0 rfl) ?_
            refine lv_bipush (v := (63 : Int32)) hx hb dX0_markEvery_48 (by decide) ?_
            refine lv_iand hx hb dX0_markEvery_50 ?_
            refine lv_lshl hx hb dX0_markEvery_51 rfl ?_
            refine lv_lor hx hb dX0_markEvery_52 ?_
            refine lv_topl (fun y_7 e_y_7 => ?_)
            replace h := h y_7 e_y_7
            obtain ⟨hin_8, h⟩ := h
            refine va_last hx hb hK hP hD hS 1 1 rfl rfl hin_8 dX0_markEvery_53 (fun H locs hP hD hS => ?_)
            have hP : va_P (dC, dI) vwCl [(h_a0, .inr (0, [.ref q_a0_words])), (q_a0_words, .inl (cJ, N_a0, .inr (.inl (vp_updL a0_words_27_3 (l5_27_3 >>> ((6 : Int32) &&& 31)).toNatClampNeg y_7))))] H := hP
            have hD : va_D A [(h_a0, .inr (0, [.ref q_a0_words])), (q_a0_words, .inl (cJ, N_a0, .inr (.inl (vp_updL a0_words_27_3 (l5_27_3 >>> ((6 : Int32) &&& 31)).toNatClampNeg y_7))))] := hD
            refine lv_iload hx hb dX0_markEvery_54 (lv_at hl 0 rfl) ?_
            refine lv_iload_n hx hb dX0_markEvery_56 rfl (lv_at hl 3 rfl) ?_
            refine lv_iadd hx hb dX0_markEvery_57 ?_
            refine lv_topi (fun x5_9 e_x5_9 => ?_)
            replace h := h x5_9 e_x5_9
            refine lv_istore (lv' := [(5, .int x5_9), (4, .int x4_3), (0, .ref h_a0), (2, .int p2)]) hx hb dX0_markEvery_58 hl (by decide) rfl (fun ls hl => ?_)
            refine lv_goto (tgt := 27) hx hb dX0_markEvery_60 (by decide) ?_
            exact ih_27_3 x5_9 (vp_updL a0_words_27_3 (l5_27_3 >>> ((6 : Int32) &&& 31)).toNatClampNeg y_7) (Nat.lt_of_lt_of_le h.2 (Nat.le_of_lt_succ hm_27_3)) h.1 _ _ _ (lv_sub hl [0, 1, 2, 3] rfl) (hP.sub [0, 1] rfl) (hD.sub [0, 1] (by decide) rfl) hS
      exact key_27_3 _ p1 a0_words (Nat.lt_succ_self _) h0_27_3 _ _ _ (lv_sub hl [0, 1, 2, 4] rfl) (hP.sub [0, 1] rfl) (hD.sub [0, 1] (by decide) rfl) hS
    · replace h := h.2 c_2
      have hP9 := hP.sub (ws' := [(h_a0, .inr (0, [.ref q_a0_words])), (q_a0_words, .inl (cJ, N_a0, .inr (.inl a0_words)))]) [0, 1] rfl
      have hD9 := hD.sub (ws' := [(h_a0, .inr (0, [.ref q_a0_words])), (q_a0_words, .inl (cJ, N_a0, .inr (.inl a0_words)))]) [0, 1] (by decide) rfl
      exact W.vret hx hb hr (fun t ht hW => ⟨⟨a0_words, rfl, h, by rw [ht]; exact hP9, hD9⟩, hS.F ht⟩) hS.2.2 dX0_markEvery_9
def wp_X0_isMarked (N_a0 : Nat) (a0_words : Nat → Int64) (p1 : Int32) (Q : Int32 → Prop) : Prop :=
  (∀ x2_1 : Int32, x2_1 = (p1 >>> ((6 : Int32) &&& 31)) → ((x2_1 < (0 : Int32) → Q (0 : Int32)) ∧ (¬ x2_1 < (0 : Int32) → (((Int32.ofNat N_a0) ≤ x2_1 → Q (0 : Int32)) ∧ (¬ (Int32.ofNat N_a0) ≤ x2_1 → (vp_in x2_1 N_a0 ∧ (((((a0_words x2_1.toNatClampNeg).toUInt64 >>> ((p1 &&& (63 : Int32)).toInt64.toUInt64 &&& Int64.toUInt64 63)).toInt64 &&& (1 : Int64)) = (0 : Int64) → Q (0 : Int32)) ∧ (¬ (((a0_words x2_1.toNatClampNeg).toUInt64 >>> ((p1 &&& (63 : Int32)).toInt64.toUInt64 &&& Int64.toUInt64 63)).toInt64 &&& (1 : Int64)) = (0 : Int64) → Q (1 : Int32)))))))))
abbrev rm_X0_isMarked : Room := { frames := 0, cells := 0, slots := 0, locals := 0 }
abbrev qc_X0_isMarked (dC : Nat → ClassId) (dI : Nat → Nat → Nat) (cI cJ cZ : ClassId) (h_a0 : Nat) (N_a0 : Nat) (a0_words : Nat → Int64) (q_a0_words : Nat) (Q : Int32 → Prop) (A : Nat → Prop) : Array Value → State → Outcome → State → Prop := va_Qi (fun (r : Int32) (_ : Unit) => Q r) (post_ dC dI A (fun (u : Unit) => [(h_a0, .inr (0, [.ref q_a0_words])), (q_a0_words, .inl (cJ, N_a0, .inr (.inl a0_words)))])) A
set_option maxHeartbeats 4000000 in
set_option maxRecDepth 100000 in
theorem c_X0_isMarked (l : Launch) (dC : Nat → ClassId) (dI : Nat → Nat → Nat) (cI cJ cZ : ClassId) (sz : Nat) (h_a0 : Nat) (N_a0 : Nat) (a0_words : Nat → Int64) (q_a0_words : Nat) (p1 : Int32) (Q : Int32 → Prop) (hQ : wp_X0_isMarked N_a0 a0_words p1 Q) : Met l yX0_isMarked wsX0_isMarked rm_X0_isMarked (pre_ dC dI cI cJ cZ [.ref h_a0, .int p1] [(h_a0, .inr (0, [.ref q_a0_words])), (q_a0_words, .inl (cJ, N_a0, .inr (.inl a0_words)))] sz) (qc_X0_isMarked dC dI cI cJ cZ h_a0 N_a0 a0_words q_a0_words Q (va_A [(h_a0, .inr (0, [.ref q_a0_words])), (q_a0_words, .inl (cJ, N_a0, .inr (.inl a0_words)))] sz)) 0 0 (va_A [(h_a0, .inr (0, [.ref q_a0_words])), (q_a0_words, .inl (cJ, N_a0, .inr (.inl a0_words)))] sz) := by
  refine Met.ofW (cc := cX0_isMarked) (maxL := 3) (ret := (some .boolean)) (by decide) rfl ?_
  intro p e s m args below meth c s₁ B hml hv
  obtain ⟨rfl, hsz, hP, hK, hN, hD0⟩ := hv
  have hx := B.exec
  have hb := B.bytes
  have hr := B.returns
  have hts := atoms_spec (ws := wsX0_isMarked) B.pre
  have hown : s.vm.findClass RX0 = some m.cls := findClass_of_methodNamed B.named
  subst hsz
  have hD := hD0.self (sz := s.heap.size)
  generalize hAe : va_A [(h_a0, .inr (0, [.ref q_a0_words])), (q_a0_words, .inl (cJ, N_a0, .inr (.inl a0_words)))] s.heap.size = A at hD ⊢
  have hA : ∀ q : Nat, s.heap.size ≤ q → A q := fun q h => by rw [← hAe]; exact Or.inr h
  have hS : va_S A s.heap s.heap [] := va_S.rf
  have hl := lv_entry ([.ref h_a0, .int p1]) (n := 3) (Nat.le_of_ble_eq_true rfl)
  rw [lg_entry_eq]
  generalize (lg_sl ([.ref h_a0, .int p1]) ++ List.replicate (3 - (lg_sl ([.ref h_a0, .int p1])).length) Slot.unset).toArray = ls at hl ⊢
  have hl : lv_has ls 3 [(0, .ref h_a0), (1, .int p1)] := hl
  have h := hQ
  unfold wp_X0_isMarked at h
  have hw_0 := hts (.fieldLink RX0 7 "NumberSieves$Marks" "words" "[J") (by decide +kernel)
  have hin_X0 : ∀ w ∈ wsX00, w ∈ wsX0_isMarked := by decide +kernel
  refine lv_iload_n hx hb dX0_isMarked_0 rfl (lv_at hl 1 rfl) ?_
  refine lv_bipush (v := (6 : Int32)) hx hb dX0_isMarked_1 (by decide) ?_
  refine lv_ishr hx hb dX0_isMarked_3 ?_
  refine lv_topi (fun x2_1 e_x2_1 => ?_)
  replace h := h x2_1 e_x2_1
  refine lv_istore_n (lv' := [(2, .int x2_1), (0, .ref h_a0), (1, .int p1)]) hx hb dX0_isMarked_4 rfl hl (by decide) rfl (fun ls hl => ?_)
  refine lv_iload_n hx hb dX0_isMarked_5 rfl (lv_at hl 0 rfl) ?_
  refine lv_if_lt (tgt := 40) hx hb dX0_isMarked_6 (by decide) (fun c_2 => ?_) (fun c_2 => ?_)
  · replace h := h.1 c_2
    refine lv_iconst (v := (0 : Int32)) hx hb dX0_isMarked_40 (by decide) ?_
    have hP9 := hP.sub (ws' := [(h_a0, .inr (0, [.ref q_a0_words])), (q_a0_words, .inl (cJ, N_a0, .inr (.inl a0_words)))]) [0, 1] rfl
    have hD9 := hD.sub (ws' := [(h_a0, .inr (0, [.ref q_a0_words])), (q_a0_words, .inl (cJ, N_a0, .inr (.inl a0_words)))]) [0, 1] (by decide) rfl
    exact W.zret (v := (0 : Int32)) hx hb hr (by decide) (fun t ht hW => ⟨⟨_, (), rfl, h, by rw [ht]; exact hP9, hD9⟩, hS.F ht⟩) hS.2.2 dX0_isMarked_41
  · replace h := h.2 c_2
    refine lv_iload_n hx hb dX0_isMarked_9 rfl (lv_at hl 0 rfl) ?_
    refine lv_aload_n hx hb dX0_isMarked_10 rfl (lv_at hl 1 rfl) ?_
    refine va_get (D := (dC, dI)) (ci := 0) (v := .ref q_a0_words) (C := RX0) (T := TX0) (N := 1) hx hb hts hin_X0 hown hK hP 0 rfl rfl 0 (by decide) hw_0 (fun _ h9 => h9) rfl dX0_isMarked_11 ?_
    refine va_alen hx hb hK hP 1 1 rfl rfl rfl dX0_isMarked_14 ?_
    refine lv_icmp_ge (tgt := 40) hx hb dX0_isMarked_15 (by decide) (fun c_3 => ?_) (fun c_3 => ?_)
    · replace h := h.1 c_3
      refine lv_iconst (v := (0 : Int32)) hx hb dX0_isMarked_40 (by decide) ?_
      have hP9 := hP.sub (ws' := [(h_a0, .inr (0, [.ref q_a0_words])), (q_a0_words, .inl (cJ, N_a0, .inr (.inl a0_words)))]) [0, 1] rfl
      have hD9 := hD.sub (ws' := [(h_a0, .inr (0, [.ref q_a0_words])), (q_a0_words, .inl (cJ, N_a0, .inr (.inl a0_words)))]) [0, 1] (by decide) rfl
      exact W.zret (v := (0 : Int32)) hx hb hr (by decide) (fun t ht hW => ⟨⟨_, (), rfl, h, by rw [ht]; exact hP9, hD9⟩, hS.F ht⟩) hS.2.2 dX0_isMarked_41
    · replace h := h.2 c_3
      refine lv_aload_n hx hb dX0_isMarked_18 rfl (lv_at hl 1 rfl) ?_
      refine va_get (D := (dC, dI)) (ci := 0) (v := .ref q_a0_words) (C := RX0) (T := TX0) (N := 1) hx hb hts hin_X0 hown hK hP 0 rfl rfl 0 (by decide) hw_0 (fun _ h9 => h9) rfl dX0_isMarked_19 ?_
      refine lv_iload_n hx hb dX0_isMarked_22 rfl (lv_at hl 0 rfl) ?_
      obtain ⟨hin_4, h⟩ := h
      refine va_lald hx hb hK hP 1 1 rfl rfl hin_4 dX0_isMarked_23 ?_
      refine lv_iload_n hx hb dX0_isMarked_24 rfl (lv_at hl 2 rfl) ?_
      refine lv_bipush (v := (63 : Int32)) hx hb dX0_isMarked_25 (by decide) ?_
      refine lv_iand hx hb dX0_isMarked_27 ?_
      refine lv_lushr hx hb dX0_isMarked_28 rfl ?_
      refine lv_lconst (v := (1 : Int64)) hx hb dX0_isMarked_29 (by decide) ?_
      refine lv_land hx hb dX0_isMarked_30 ?_
      refine lv_lconst (v := (0 : Int64)) hx hb dX0_isMarked_31 (by decide) ?_
      refine W.lcmp hx hb dX0_isMarked_32 ?_
      refine lv_if_eq (tgt := 40) hx hb dX0_isMarked_33 (by decide) (fun c_5 => ?_) (fun c_5 => ?_)
      · replace c_5 := (lg_cmp_eq _ _).mp c_5
        replace h := h.1 c_5
        refine lv_iconst (v := (0 : Int32)) hx hb dX0_isMarked_40 (by decide) ?_
        have hP9 := hP.sub (ws' := [(h_a0, .inr (0, [.ref q_a0_words])), (q_a0_words, .inl (cJ, N_a0, .inr (.inl a0_words)))]) [0, 1] rfl
        have hD9 := hD.sub (ws' := [(h_a0, .inr (0, [.ref q_a0_words])), (q_a0_words, .inl (cJ, N_a0, .inr (.inl a0_words)))]) [0, 1] (by decide) rfl
        exact W.zret (v := (0 : Int32)) hx hb hr (by decide) (fun t ht hW => ⟨⟨_, (), rfl, h, by rw [ht]; exact hP9, hD9⟩, hS.F ht⟩) hS.2.2 dX0_isMarked_41
      · replace c_5 := lc_neq c_5
        replace h := h.2 c_5
        refine lv_iconst (v := (1 : Int32)) hx hb dX0_isMarked_36 (by decide) ?_
        refine lv_goto (tgt := 41) hx hb dX0_isMarked_37 (by decide) ?_
        have hP9 := hP.sub (ws' := [(h_a0, .inr (0, [.ref q_a0_words])), (q_a0_words, .inl (cJ, N_a0, .inr (.inl a0_words)))]) [0, 1] rfl
        have hD9 := hD.sub (ws' := [(h_a0, .inr (0, [.ref q_a0_words])), (q_a0_words, .inl (cJ, N_a0, .inr (.inl a0_words)))]) [0, 1] (by decide) rfl
        exact W.zret (v := (1 : Int32)) hx hb hr (by decide) (fun t ht hW => ⟨⟨_, (), rfl, h, by rw [ht]; exact hP9, hD9⟩, hS.F ht⟩) hS.2.2 dX0_isMarked_41
def wp_X0_tally (N_a0 : Nat) (a0_words : Nat → Int64)  (Q : Int32 → Prop) : Prop :=
  (∃ (I_4_0 : Int32 → Int32 → Prop) (m_4_0 : Int32 → Int32 → Nat), I_4_0 (0 : Int32) (0 : Int32) ∧ ∀ (l2_4_0 : Int32) (l1_4_0 : Int32), I_4_0 l2_4_0 l1_4_0 → (((Int32.ofNat N_a0) ≤ l2_4_0 → Q l1_4_0) ∧ (¬ (Int32.ofNat N_a0) ≤ l2_4_0 → (vp_in l2_4_0 N_a0 ∧ wp_J13_bitCount_95d88 (a0_words l2_4_0.toNatClampNeg) (fun r_4 => (∀ x1_5 : Int32, x1_5 = (l1_4_0 + r_4) → (∀ x2_6 : Int32, x2_6 = l2_4_0 + (1 : Int32) → (I_4_0 x2_6 x1_5 ∧ m_4_0 x2_6 x1_5 < m_4_0 l2_4_0 l1_4_0))))))))
abbrev rm_X0_tally : Room := { frames := 1, cells := 0, slots := 0, locals := 21 }
abbrev qc_X0_tally (dC : Nat → ClassId) (dI : Nat → Nat → Nat) (cI cJ cZ : ClassId) (h_a0 : Nat) (N_a0 : Nat) (a0_words : Nat → Int64) (q_a0_words : Nat) (Q : Int32 → Prop) (A : Nat → Prop) : Array Value → State → Outcome → State → Prop := va_Qi (fun (r : Int32) (_ : Unit) => Q r) (post_ dC dI A (fun (u : Unit) => [(h_a0, .inr (0, [.ref q_a0_words])), (q_a0_words, .inl (cJ, N_a0, .inr (.inl a0_words)))])) A
set_option maxHeartbeats 4000000 in
set_option maxRecDepth 100000 in
theorem c_X0_tally (l : Launch) (dC : Nat → ClassId) (dI : Nat → Nat → Nat) (cI cJ cZ : ClassId) (sz : Nat) (h_a0 : Nat) (N_a0 : Nat) (a0_words : Nat → Int64) (q_a0_words : Nat)  (Q : Int32 → Prop) (hQ : wp_X0_tally N_a0 a0_words Q) : Met l yX0_tally wsX0_tally rm_X0_tally (pre_ dC dI cI cJ cZ [.ref h_a0] [(h_a0, .inr (0, [.ref q_a0_words])), (q_a0_words, .inl (cJ, N_a0, .inr (.inl a0_words)))] sz) (qc_X0_tally dC dI cI cJ cZ h_a0 N_a0 a0_words q_a0_words Q (va_A [(h_a0, .inr (0, [.ref q_a0_words])), (q_a0_words, .inl (cJ, N_a0, .inr (.inl a0_words)))] sz)) 0 0 (va_A [(h_a0, .inr (0, [.ref q_a0_words])), (q_a0_words, .inl (cJ, N_a0, .inr (.inl a0_words)))] sz) := by
  refine Met.ofW (cc := cX0_tally) (maxL := 3) (ret := (some .int)) (by decide) rfl ?_
  intro p e s m args below meth c s₁ B hml hv
  obtain ⟨rfl, hsz, hP, hK, hN, hD0⟩ := hv
  have hx := B.exec
  have hb := B.bytes
  have hr := B.returns
  have hts := atoms_spec (ws := wsX0_tally) B.pre
  have hown : s.vm.findClass RX0 = some m.cls := findClass_of_methodNamed B.named
  subst hsz
  have hD := hD0.self (sz := s.heap.size)
  generalize hAe : va_A [(h_a0, .inr (0, [.ref q_a0_words])), (q_a0_words, .inl (cJ, N_a0, .inr (.inl a0_words)))] s.heap.size = A at hD ⊢
  have hA : ∀ q : Nat, s.heap.size ≤ q → A q := fun q h => by rw [← hAe]; exact Or.inr h
  have hS : va_S A s.heap s.heap [] := va_S.rf
  have hl := lv_entry ([.ref h_a0]) (n := 3) (Nat.le_of_ble_eq_true rfl)
  rw [lg_entry_eq]
  generalize (lg_sl ([.ref h_a0]) ++ List.replicate (3 - (lg_sl ([.ref h_a0])).length) Slot.unset).toArray = ls at hl ⊢
  have hl : lv_has ls 3 [(0, .ref h_a0)] := hl
  have h := hQ
  unfold wp_X0_tally at h
  have hw_0 := hts (.fieldLink RX0 7 "NumberSieves$Marks" "words" "[J") (by decide +kernel)
  have hin_X0 : ∀ w ∈ wsX00, w ∈ wsX0_tally := by decide +kernel
  refine lv_iconst (v := (0 : Int32)) hx hb dX0_tally_0 (by decide) ?_
  refine lv_istore_n (lv' := [(1, .int (0 : Int32)), (0, .ref h_a0)]) hx hb dX0_tally_1 rfl hl (by decide) rfl (fun ls hl => ?_)
  refine lv_iconst (v := (0 : Int32)) hx hb dX0_tally_2 (by decide) ?_
  refine lv_istore_n (lv' := [(2, .int (0 : Int32)), (1, .int (0 : Int32)), (0, .ref h_a0)]) hx hb dX0_tally_3 rfl hl (by decide) rfl (fun ls hl => ?_)
  obtain ⟨I_4_0, m_4_0, h0_4_0, hs_4_0⟩ := h
  have key_4_0 : ∀ (n : Nat) (l2_4_0 : Int32) (l1_4_0 : Int32), m_4_0 l2_4_0 l1_4_0 < n → I_4_0 l2_4_0 l1_4_0 → ∀ (ls : Array Slot) (H : Heap) (locs : List Loc), lv_has ls 3 [(2, .int l2_4_0), (1, .int l1_4_0), (0, .ref h_a0)] → va_P (dC, dI) vwCl [(h_a0, .inr (0, [.ref q_a0_words])), (q_a0_words, .inl (cJ, N_a0, .inr (.inl a0_words)))] H → va_D A [(h_a0, .inr (0, [.ref q_a0_words])), (q_a0_words, .inl (cJ, N_a0, .inr (.inl a0_words)))] → va_S A s.heap H locs → W p l e (headSpec wsX0_tally rm_X0_tally).room s m ([.ref h_a0] : List Value).toArray below meth c H locs 0 0 (MQ below (qc_X0_tally dC dI cI cJ cZ h_a0 N_a0 a0_words q_a0_words Q A) ([.ref h_a0] : List Value).toArray s 0 0 A) (F0 m 4 ls []) := by
    intro n
    induction n with
    | zero =>
      intro l2_4_0 l1_4_0 hm
      exact absurd hm (Nat.not_lt_zero _)
    | succ n ih_4_0 =>
      intro l2_4_0 l1_4_0 hm_4_0 hI ls H locs hl hP hD hS
      have h := hs_4_0 l2_4_0 l1_4_0 hI
      refine lv_iload_n hx hb dX0_tally_4 rfl (lv_at hl 0 rfl) ?_
      refine lv_aload_n hx hb dX0_tally_5 rfl (lv_at hl 2 rfl) ?_
      refine va_get (D := (dC, dI)) (ci := 0) (v := .ref q_a0_words) (C := RX0) (T := TX0) (N := 1) hx hb hts hin_X0 hown hK hP 0 rfl rfl 0 (by decide) hw_0 (fun _ h9 => h9) rfl dX0_tally_6 ?_
      refine va_alen hx hb hK hP 1 1 rfl rfl rfl dX0_tally_9 ?_
      refine lv_icmp_ge (tgt := 31) hx hb dX0_tally_10 (by decide) (fun c_2 => ?_) (fun c_2 => ?_)
      · replace h := h.1 c_2
        refine lv_iload_n hx hb dX0_tally_31 rfl (lv_at hl 1 rfl) ?_
        have hP9 := hP.sub (ws' := [(h_a0, .inr (0, [.ref q_a0_words])), (q_a0_words, .inl (cJ, N_a0, .inr (.inl a0_words)))]) [0, 1] rfl
        have hD9 := hD.sub (ws' := [(h_a0, .inr (0, [.ref q_a0_words])), (q_a0_words, .inl (cJ, N_a0, .inr (.inl a0_words)))]) [0, 1] (by decide) rfl
        exact W.iret (v := l1_4_0) hx hb hr (fun t ht hW => ⟨⟨_, (), rfl, h, by rw [ht]; exact hP9, hD9⟩, hS.F ht⟩) hS.2.2 dX0_tally_32
      · replace h := h.2 c_2
        refine lv_iload_n hx hb dX0_tally_13 rfl (lv_at hl 1 rfl) ?_
        refine lv_aload_n hx hb dX0_tally_14 rfl (lv_at hl 2 rfl) ?_
        refine va_get (D := (dC, dI)) (ci := 0) (v := .ref q_a0_words) (C := RX0) (T := TX0) (N := 1) hx hb hts hin_X0 hown hK hP 0 rfl rfl 0 (by decide) hw_0 (fun _ h9 => h9) rfl dX0_tally_15 ?_
        refine lv_iload_n hx hb dX0_tally_18 rfl (lv_at hl 0 rfl) ?_
        obtain ⟨hin_3, h⟩ := h
        refine va_lald hx hb hK hP 1 1 rfl rfl hin_3 dX0_tally_19 ?_
        have hPc := hP.sub (ws' := []) [] rfl
        have hDc := hD.sub (ws' := []) [] (by decide) rfl
        have hFc := va_free (wc := []) hD hS hA [] rfl
        refine va_calli (va_runS (As := [.long (a0_words l2_4_0.toNatClampNeg)]) (rest := [.int l1_4_0]) ⟨hx, hb, hml, hown, hts⟩ (c_J13_bitCount_95d88 l dC dI cI cJ cZ _ (a0_words l2_4_0.toNatClampNeg) _ h) (va_cwS 1 hts gX0_tally_J13_bitCount_95d88 rfl rfl rfl (by decide +kernel) ⟨Nat.le_of_ble_eq_true rfl, Nat.le_of_ble_eq_true rfl⟩) ⟨pre_fb, pre_of hPc hDc hK hN⟩ rfl rfl hl.1 rfl (lv_room (Nat.le_of_ble_eq_true rfl)) dX0_tally_20 ⟨by first | exact Nat.le_of_ble_eq_true rfl | exact Nat.le_refl _, by first | exact Nat.le_of_ble_eq_true rfl | exact Nat.le_refl _⟩) hS (fun q _ h => hFc q h) hFc (fun r_4 u t H1 locs ht hvm h hB hz1 hk1 hS => ?_)
        obtain ⟨hP1, hD1⟩ := hB
        rw [ht] at hP1
        try dsimp only at h
        obtain ⟨hP, hD⟩ := va_join (wr := [(h_a0, .inr (0, [.ref q_a0_words])), (q_a0_words, .inl (cJ, N_a0, .inr (.inl a0_words)))]) (w1 := []) hP hD [] [0, 1] rfl rfl (by decide) (by decide) hk1 hFc hP1 hD1
        generalize H1 = H at hP hS ⊢
        have hP : va_P (dC, dI) vwCl [(h_a0, .inr (0, [.ref q_a0_words])), (q_a0_words, .inl (cJ, N_a0, .inr (.inl a0_words)))] H := hP
        have hD : va_D A [(h_a0, .inr (0, [.ref q_a0_words])), (q_a0_words, .inl (cJ, N_a0, .inr (.inl a0_words)))] := hD
        refine lv_iadd hx hb dX0_tally_23 ?_
        refine lv_topi (fun x1_5 e_x1_5 => ?_)
        replace h := h x1_5 e_x1_5
        refine lv_istore_n (lv' := [(1, .int x1_5), (2, .int l2_4_0), (0, .ref h_a0)]) hx hb dX0_tally_24 rfl hl (by decide) rfl (fun ls hl => ?_)
        obtain ⟨x2_6, e_x2_6⟩ : ∃ y : Int32, y = l2_4_0 + (1 : Int32) := ⟨_, rfl⟩
        replace h := h x2_6 e_x2_6
        refine lv_iinc (v := x2_6) (lv' := [(2, .int x2_6), (1, .int x1_5), (0, .ref h_a0)]) hx hb dX0_tally_25 hl (k := 1) rfl (by rw [e_x2_6]; rfl) (by decide) rfl (fun ls hl => ?_)
        refine lv_goto (tgt := 4) hx hb dX0_tally_28 (by decide) ?_
        exact ih_4_0 x2_6 x1_5 (Nat.lt_of_lt_of_le h.2 (Nat.le_of_lt_succ hm_4_0)) h.1 _ _ _ (lv_sub hl [0, 1, 2] rfl) (hP.sub [0, 1] rfl) (hD.sub [0, 1] (by decide) rfl) hS
  exact key_4_0 _ (0 : Int32) (0 : Int32) (Nat.lt_succ_self _) h0_4_0 _ _ _ (lv_sub hl [0, 1, 2] rfl) (hP.sub [0, 1] rfl) (hD.sub [0, 1] (by decide) rfl) hS

def wp_X4_init   (Q : (Nat → Int64) → Prop) : Prop :=
  wp_X0_init 7813 (500000 : Int32) (fun o_2 => Q o_2)
abbrev rm_X4_init : Room := { frames := 2, cells := 2, slots := 7814, locals := 41 }
abbrev qc_X4_init (dC : Nat → ClassId) (dI : Nat → Nat → Nat) (cI cJ cZ : ClassId) (h_a0 : Nat) (Q : (Nat → Int64) → Prop) (A : Nat → Prop) : Array Value → State → Outcome → State → Prop := va_Qv (fun (u : Nat × Nat × (Nat → Int64)) => Q u.2.2) (post_ dC dI A (fun (u : Nat × Nat × (Nat → Int64)) => [(h_a0, .inr (4, [.ref u.1])), (u.1, .inr (0, [.ref u.2.1])), (u.2.1, .inl (cJ, 7813, .inr (.inl (u.2.2))))])) A
set_option maxHeartbeats 4000000 in
set_option maxRecDepth 100000 in
theorem c_X4_init (l : Launch) (dC : Nat → ClassId) (dI : Nat → Nat → Nat) (cI cJ cZ : ClassId) (sz : Nat) (h_a0 : Nat)  (Q : (Nat → Int64) → Prop) (hQ : wp_X4_init  Q) : Met l yX4_init wsX4_init rm_X4_init (pre_ dC dI cI cJ cZ [.ref h_a0] [(h_a0, .inr (4, [.null]))] sz) (qc_X4_init dC dI cI cJ cZ h_a0 Q (va_A [(h_a0, .inr (4, [.null]))] sz)) 2 7814 (va_A [(h_a0, .inr (4, [.null]))] sz) := by
  refine Met.ofW (cc := cX4_init) (maxL := 1) (ret := none) (by decide) rfl ?_
  intro p e s m args below meth c s₁ B hml hv
  obtain ⟨rfl, hsz, hP, hK, hN, hD0⟩ := hv
  have hx := B.exec
  have hb := B.bytes
  have hr := B.returns
  have hts := atoms_spec (ws := wsX4_init) B.pre
  have hown : s.vm.findClass RX4 = some m.cls := findClass_of_methodNamed B.named
  have hin0 : meth.name = "<init>" := (name_of_methodNamed B.named B.method).1
  subst hsz
  have hD := hD0.self (sz := s.heap.size)
  generalize hAe : va_A [(h_a0, .inr (4, [.null]))] s.heap.size = A at hD ⊢
  have hA : ∀ q : Nat, s.heap.size ≤ q → A q := fun q h => by rw [← hAe]; exact Or.inr h
  have hS : va_S A s.heap s.heap [] := va_S.rf
  have hl := lv_entry ([.ref h_a0]) (n := 1) (Nat.le_of_ble_eq_true rfl)
  rw [lg_entry_eq]
  generalize (lg_sl ([.ref h_a0]) ++ List.replicate (1 - (lg_sl ([.ref h_a0])).length) Slot.unset).toArray = ls at hl ⊢
  have hl : lv_has ls 1 [(0, .ref h_a0)] := hl
  have h := hQ
  unfold wp_X4_init at h
  have hw_0 := hts (.methodLink RX4 3 objectInit) (by decide +kernel)
  have hw_1 := hts (.instanceMethod objectInit) (by decide +kernel)
  have hw_2 := hts (.code objectInit ⟨#[0xb1]⟩ 1 none) (by decide +kernel)
  have hin_X0 : ∀ w ∈ wsX00, w ∈ wsX4_init := by decide +kernel
  have hw_4 := hts (.classLink RX4 9 RX0) (by decide +kernel)
  have hw_5 := hts (.instantiable RX0 1) (by decide +kernel)
  have hw_6 := hts (.initialized RX0) (by decide +kernel)
  have hw_7 := hts (.constant RX4 13 (500000)) (by decide +kernel)
  have hw_8 := hts (.methodLink RX4 14 yX0_init) (by decide +kernel)
  have hw_9 := hts (.instanceMethod yX0_init) (by decide +kernel)
  have hw_10 := hts (.fieldLink RX4 17 "NumberSieves$Progression" "struck" "LNumberSieves$Marks;") (by decide +kernel)
  have hin_X4 : ∀ w ∈ wsX40, w ∈ wsX4_init := by decide +kernel
  refine lv_aload_n hx hb dX4_init_0 rfl (lv_at hl 0 rfl) ?_
  refine W.objInit hx hb hown hw_0 hw_1 hw_2 rfl (by rw [hml]; exact hl.1) rfl dX4_init_1 (Nat.le_of_ble_eq_true rfl) (Nat.le_of_ble_eq_true rfl) ?_
  refine W.eq (g2 := F0 m 4 ls []) rfl ?_
  refine lv_aload_n hx hb dX4_init_4 rfl (lv_at hl 0 rfl) ?_
  refine va_new (ci := 0) (fs := [.null]) (C := RX0) (T := TX0) (N := 1) hx hb hts hin_X0 tyX0 tyX0_ok hown hw_4 hw_5 hw_6 hK hP hD hS hA rfl (by decide +kernel) (Nat.le_of_ble_eq_true rfl) (Nat.le_of_ble_eq_true rfl) dX4_init_5 (fun q_1 H hP hD hS => ?_)
  have hP : va_P (dC, dI) vwCl [(h_a0, .inr (4, [.null])), (q_1, .inr (0, [.null]))] H := hP
  have hD : va_D A [(h_a0, .inr (4, [.null])), (q_1, .inr (0, [.null]))] := hD
  refine W.widen (k := 1) (n := 1) (by omega) (by omega) ?_
  refine lv_dup hx hb dX4_init_8 rfl ?_
  refine lv_ldc hx hb hown hw_7 dX4_init_9 ?_
  have hPc := hP.sub (ws' := [(q_1, .inr (0, [.null]))]) [1] rfl
  have hDc := hD.sub (ws' := [(q_1, .inr (0, [.null]))]) [1] (by decide) rfl
  have hFc := va_free (wc := [(q_1, .inr (0, [.null]))]) hD hS hA [1] rfl
  refine va_callv (va_runI (As := [.int (500000 : Int32)]) (rest := [.ref q_1, .ref h_a0]) ⟨hx, hb, hml, hown, hts⟩ (c_X0_init l dC dI cI cJ cZ _ q_1 7813 (500000 : Int32) _ h) (cwI 1 hts gX4_init_X0_init rfl rfl rfl hw_6 hw_8 hw_9 rfl (by decide +kernel) ⟨Nat.le_of_ble_eq_true rfl, Nat.le_of_ble_eq_true rfl⟩) ⟨pre_fb, pre_of hPc hDc hK hN⟩ rfl rfl hl.1 rfl (lv_room (Nat.le_of_ble_eq_true rfl)) dX4_init_11 ⟨by first | exact Nat.le_of_ble_eq_true rfl | exact Nat.le_refl _, by first | exact Nat.le_of_ble_eq_true rfl | exact Nat.le_refl _⟩) hS (fun q _ h => hFc q h) hFc (fun u t H1 locs ht hvm h hB hz1 hk1 hS => ?_)
  obtain ⟨q_3, o_2⟩ := u
  obtain ⟨hP1, hD1⟩ := hB
  rw [ht] at hP1
  try dsimp only at h
  obtain ⟨hP, hD⟩ := va_join (wr := [(h_a0, .inr (4, [.null]))]) (w1 := [(q_1, .inr (0, [.ref q_3])), (q_3, .inl (cJ, 7813, .inr (.inl o_2)))]) hP hD [1] [0] rfl rfl (by decide) (by decide) hk1 hFc hP1 hD1
  generalize H1 = H at hP hS ⊢
  have hP : va_P (dC, dI) vwCl [(h_a0, .inr (4, [.null])), (q_1, .inr (0, [.ref q_3])), (q_3, .inl (cJ, 7813, .inr (.inl o_2)))] H := hP
  have hD : va_D A [(h_a0, .inr (4, [.null])), (q_1, .inr (0, [.ref q_3])), (q_3, .inl (cJ, 7813, .inr (.inl o_2)))] := hD
  refine W.widen (k := 2) (n := 7814) (by omega) (by omega) ?_
  refine va_putF (D := (dC, dI)) (ci := 4) (v := .ref q_1) (ty := .object "NumberSieves$Marks") (C := RX4) (T := TX4) (N := 1) hx hb hts hin_X4 tyX4 tyX4_ok nmX4 hown hK hP hD hS 0 rfl rfl 0 (by decide) hw_10 (fun _ h9 => h9) rfl hin0 rfl (by decide +kernel) rfl rfl (Nat.le_of_ble_eq_true rfl) dX4_init_14 (fun H locs hP hD hS => ?_)
  have hP : va_P (dC, dI) vwCl [(h_a0, .inr (4, [.ref q_1])), (q_1, .inr (0, [.ref q_3])), (q_3, .inl (cJ, 7813, .inr (.inl o_2)))] H := hP
  have hD : va_D A [(h_a0, .inr (4, [.ref q_1])), (q_1, .inr (0, [.ref q_3])), (q_3, .inl (cJ, 7813, .inr (.inl o_2)))] := hD
  have hP9 := hP.sub (ws' := [(h_a0, .inr (4, [.ref q_1])), (q_1, .inr (0, [.ref q_3])), (q_3, .inl (cJ, 7813, .inr (.inl o_2)))]) [0, 1, 2] rfl
  have hD9 := hD.sub (ws' := [(h_a0, .inr (4, [.ref q_1])), (q_1, .inr (0, [.ref q_3])), (q_3, .inl (cJ, 7813, .inr (.inl o_2)))]) [0, 1, 2] (by decide) rfl
  exact W.vret hx hb hr (fun t ht hW => ⟨⟨(q_1, q_3, o_2), rfl, h, by rw [ht]; exact hP9, hD9⟩, hS.F ht⟩) hS.2.2 dX4_init_17
def wp_X4_strike (a0_struck_words : Nat → Int64) (p1 : Int32) (p2 : Int32) (p3 : Int32) (p4 : Int32) (Q : (Nat → Int64) → Prop) : Prop :=
  ((p3 < (1 : Int32) → Q a0_struck_words) ∧ (¬ p3 < (1 : Int32) → (((1 : Int32) ≤ p1 → (∀ x5_3 : Int32, x5_3 = (p1 * p1) → (∃ (I_19_3 : Int32 → Int32 → Prop) (m_19_3 : Int32 → Int32 → Nat), I_19_3 (0 : Int32) x5_3 ∧ ∀ (l6_19_3 : Int32) (l5_19_3 : Int32), I_19_3 l6_19_3 l5_19_3 → ((p3 ≤ l6_19_3 → (¬ p3 = 0 ∧ wp_X0_markEvery 7813 a0_struck_words ((l5_19_3 - p2) / p3) p1 p4 (fun o_7 => Q o_7))) ∧ (¬ p3 ≤ l6_19_3 → (¬ p3 = 0 ∧ (((l5_19_3 - l5_19_3 / p3 * p3) = p2 → (¬ p3 = 0 ∧ wp_X0_markEvery 7813 a0_struck_words ((l5_19_3 - p2) / p3) p1 p4 (fun o_11 => Q o_11))) ∧ (¬ (l5_19_3 - l5_19_3 / p3 * p3) = p2 → (∀ x5_12 : Int32, x5_12 = (l5_19_3 + ((2 : Int32) * p1)) → (∀ x6_13 : Int32, x6_13 = l6_19_3 + (1 : Int32) → (I_19_3 x6_13 x5_12 ∧ m_19_3 x6_13 x5_12 < m_19_3 l6_19_3 l5_19_3))))))))))) ∧ (¬ (1 : Int32) ≤ p1 → Q a0_struck_words))))
abbrev rm_X4_strike : Room := { frames := 2, cells := 0, slots := 0, locals := 48 }
abbrev qc_X4_strike (dC : Nat → ClassId) (dI : Nat → Nat → Nat) (cI cJ cZ : ClassId) (h_a0 : Nat) (h_a0_struck : Nat) (a0_struck_words : Nat → Int64) (q_a0_struck_words : Nat) (Q : (Nat → Int64) → Prop) (A : Nat → Prop) : Array Value → State → Outcome → State → Prop := va_Qv (fun (u : (Nat → Int64)) => Q u) (post_ dC dI A (fun (u : (Nat → Int64)) => [(h_a0, .inr (4, [.ref h_a0_struck])), (h_a0_struck, .inr (0, [.ref q_a0_struck_words])), (q_a0_struck_words, .inl (cJ, 7813, .inr (.inl u)))])) A
set_option maxHeartbeats 4000000 in
set_option maxRecDepth 100000 in
theorem c_X4_strike (l : Launch) (dC : Nat → ClassId) (dI : Nat → Nat → Nat) (cI cJ cZ : ClassId) (sz : Nat) (h_a0 : Nat) (h_a0_struck : Nat) (a0_struck_words : Nat → Int64) (q_a0_struck_words : Nat) (p1 : Int32) (p2 : Int32) (p3 : Int32) (p4 : Int32) (Q : (Nat → Int64) → Prop) (hQ : wp_X4_strike a0_struck_words p1 p2 p3 p4 Q) : Met l yX4_strike wsX4_strike rm_X4_strike (pre_ dC dI cI cJ cZ [.ref h_a0, .int p1, .int p2, .int p3, .int p4] [(h_a0, .inr (4, [.ref h_a0_struck])), (h_a0_struck, .inr (0, [.ref q_a0_struck_words])), (q_a0_struck_words, .inl (cJ, 7813, .inr (.inl a0_struck_words)))] sz) (qc_X4_strike dC dI cI cJ cZ h_a0 h_a0_struck a0_struck_words q_a0_struck_words Q (va_A [(h_a0, .inr (4, [.ref h_a0_struck])), (h_a0_struck, .inr (0, [.ref q_a0_struck_words])), (q_a0_struck_words, .inl (cJ, 7813, .inr (.inl a0_struck_words)))] sz)) 0 0 (va_A [(h_a0, .inr (4, [.ref h_a0_struck])), (h_a0_struck, .inr (0, [.ref q_a0_struck_words])), (q_a0_struck_words, .inl (cJ, 7813, .inr (.inl a0_struck_words)))] sz) := by
  refine Met.ofW (cc := cX4_strike) (maxL := 7) (ret := none) (by decide) rfl ?_
  intro p e s m args below meth c s₁ B hml hv
  obtain ⟨rfl, hsz, hP, hK, hN, hD0⟩ := hv
  have hx := B.exec
  have hb := B.bytes
  have hr := B.returns
  have hts := atoms_spec (ws := wsX4_strike) B.pre
  have hown : s.vm.findClass RX4 = some m.cls := findClass_of_methodNamed B.named
  subst hsz
  have hD := hD0.self (sz := s.heap.size)
  generalize hAe : va_A [(h_a0, .inr (4, [.ref h_a0_struck])), (h_a0_struck, .inr (0, [.ref q_a0_struck_words])), (q_a0_struck_words, .inl (cJ, 7813, .inr (.inl a0_struck_words)))] s.heap.size = A at hD ⊢
  have hA : ∀ q : Nat, s.heap.size ≤ q → A q := fun q h => by rw [← hAe]; exact Or.inr h
  have hS : va_S A s.heap s.heap [] := va_S.rf
  have hl := lv_entry ([.ref h_a0, .int p1, .int p2, .int p3, .int p4]) (n := 7) (Nat.le_of_ble_eq_true rfl)
  rw [lg_entry_eq]
  generalize (lg_sl ([.ref h_a0, .int p1, .int p2, .int p3, .int p4]) ++ List.replicate (7 - (lg_sl ([.ref h_a0, .int p1, .int p2, .int p3, .int p4])).length) Slot.unset).toArray = ls at hl ⊢
  have hl : lv_has ls 7 [(0, .ref h_a0), (1, .int p1), (2, .int p2), (3, .int p3), (4, .int p4)] := hl
  have h := hQ
  unfold wp_X4_strike at h
  have hw_0 := hts (.fieldLink RX4 17 "NumberSieves$Progression" "struck" "LNumberSieves$Marks;") (by decide +kernel)
  have hin_X4 : ∀ w ∈ wsX40, w ∈ wsX4_strike := by decide +kernel
  refine lv_iload_n hx hb dX4_strike_0 rfl (lv_at hl 3 rfl) ?_
  refine lv_iconst (v := (1 : Int32)) hx hb dX4_strike_1 (by decide) ?_
  refine lv_icmp_lt (tgt := 10) hx hb dX4_strike_2 (by decide) (fun c_1 => ?_) (fun c_1 => ?_)
  · replace h := h.1 c_1
    have hP9 := hP.sub (ws' := [(h_a0, .inr (4, [.ref h_a0_struck])), (h_a0_struck, .inr (0, [.ref q_a0_struck_words])), (q_a0_struck_words, .inl (cJ, 7813, .inr (.inl a0_struck_words)))]) [0, 1, 2] rfl
    have hD9 := hD.sub (ws' := [(h_a0, .inr (4, [.ref h_a0_struck])), (h_a0_struck, .inr (0, [.ref q_a0_struck_words])), (q_a0_struck_words, .inl (cJ, 7813, .inr (.inl a0_struck_words)))]) [0, 1, 2] (by decide) rfl
    exact W.vret hx hb hr (fun t ht hW => ⟨⟨a0_struck_words, rfl, h, by rw [ht]; exact hP9, hD9⟩, hS.F ht⟩) hS.2.2 dX4_strike_10
  · replace h := h.2 c_1
    refine lv_iload_n hx hb dX4_strike_5 rfl (lv_at hl 1 rfl) ?_
    refine lv_iconst (v := (1 : Int32)) hx hb dX4_strike_6 (by decide) ?_
    refine lv_icmp_ge (tgt := 11) hx hb dX4_strike_7 (by decide) (fun c_2 => ?_) (fun c_2 => ?_)
    · replace h := h.1 c_2
      refine lv_iload_n hx hb dX4_strike_11 rfl (lv_at hl 1 rfl) ?_
      refine lv_iload_n hx hb dX4_strike_12 rfl (lv_at hl 1 rfl) ?_
      refine lv_imul hx hb dX4_strike_13 ?_
      refine lv_topi (fun x5_3 e_x5_3 => ?_)
      replace h := h x5_3 e_x5_3
      refine lv_istore (lv' := [(5, .int x5_3), (0, .ref h_a0), (1, .int p1), (2, .int p2), (3, .int p3), (4, .int p4)]) hx hb dX4_strike_14 hl (by decide) rfl (fun ls hl => ?_)
      refine lv_iconst (v := (0 : Int32)) hx hb dX4_strike_16 (by decide) ?_
      refine lv_istore (lv' := [(6, .int (0 : Int32)), (5, .int x5_3), (0, .ref h_a0), (1, .int p1), (2, .int p2), (3, .int p3), (4, .int p4)]) hx hb dX4_strike_17 hl (by decide) rfl (fun ls hl => ?_)
      obtain ⟨I_19_3, m_19_3, h0_19_3, hs_19_3⟩ := h
      have key_19_3 : ∀ (n : Nat) (l6_19_3 : Int32) (l5_19_3 : Int32), m_19_3 l6_19_3 l5_19_3 < n → I_19_3 l6_19_3 l5_19_3 → ∀ (ls : Array Slot) (H : Heap) (locs : List Loc), lv_has ls 7 [(6, .int l6_19_3), (5, .int l5_19_3), (0, .ref h_a0), (1, .int p1), (2, .int p2), (3, .int p3), (4, .int p4)] → va_P (dC, dI) vwCl [(h_a0, .inr (4, [.ref h_a0_struck])), (h_a0_struck, .inr (0, [.ref q_a0_struck_words])), (q_a0_struck_words, .inl (cJ, 7813, .inr (.inl a0_struck_words)))] H → va_D A [(h_a0, .inr (4, [.ref h_a0_struck])), (h_a0_struck, .inr (0, [.ref q_a0_struck_words])), (q_a0_struck_words, .inl (cJ, 7813, .inr (.inl a0_struck_words)))] → va_S A s.heap H locs → W p l e (headSpec wsX4_strike rm_X4_strike).room s m ([.ref h_a0, .int p1, .int p2, .int p3, .int p4] : List Value).toArray below meth c H locs 0 0 (MQ below (qc_X4_strike dC dI cI cJ cZ h_a0 h_a0_struck a0_struck_words q_a0_struck_words Q A) ([.ref h_a0, .int p1, .int p2, .int p3, .int p4] : List Value).toArray s 0 0 A) (F0 m 19 ls []) := by
        intro n
        induction n with
        | zero =>
          intro l6_19_3 l5_19_3 hm
          exact absurd hm (Nat.not_lt_zero _)
        | succ n ih_19_3 =>
          intro l6_19_3 l5_19_3 hm_19_3 hI ls H locs hl hP hD hS
          have h := hs_19_3 l6_19_3 l5_19_3 hI
          refine lv_iload hx hb dX4_strike_19 (lv_at hl 0 rfl) ?_
          refine lv_iload_n hx hb dX4_strike_21 rfl (lv_at hl 5 rfl) ?_
          refine lv_icmp_ge (tgt := 47) hx hb dX4_strike_22 (by decide) (fun c_5 => ?_) (fun c_5 => ?_)
          · replace h := h.1 c_5
            refine lv_aload_n hx hb dX4_strike_47 rfl (lv_at hl 2 rfl) ?_
            refine va_get (D := (dC, dI)) (ci := 4) (v := .ref h_a0_struck) (C := RX4) (T := TX4) (N := 1) hx hb hts hin_X4 hown hK hP 0 rfl rfl 0 (by decide) hw_0 (fun _ h9 => h9) rfl dX4_strike_48 ?_
            refine lv_iload hx hb dX4_strike_51 (lv_at hl 1 rfl) ?_
            refine lv_iload_n hx hb dX4_strike_53 rfl (lv_at hl 4 rfl) ?_
            refine lv_isub hx hb dX4_strike_54 ?_
            refine lv_iload_n hx hb dX4_strike_55 rfl (lv_at hl 5 rfl) ?_
            obtain ⟨hne_6, h⟩ := h
            refine lv_idiv hx hb dX4_strike_56 hne_6 ?_
            refine lv_iload_n hx hb dX4_strike_57 rfl (lv_at hl 3 rfl) ?_
            refine lv_iload hx hb dX4_strike_58 (lv_at hl 6 rfl) ?_
            have hPc := hP.sub (ws' := [(h_a0_struck, .inr (0, [.ref q_a0_struck_words])), (q_a0_struck_words, .inl (cJ, 7813, .inr (.inl a0_struck_words)))]) [1, 2] rfl
            have hDc := hD.sub (ws' := [(h_a0_struck, .inr (0, [.ref q_a0_struck_words])), (q_a0_struck_words, .inl (cJ, 7813, .inr (.inl a0_struck_words)))]) [1, 2] (by decide) rfl
            have hFc := va_free (wc := [(h_a0_struck, .inr (0, [.ref q_a0_struck_words])), (q_a0_struck_words, .inl (cJ, 7813, .inr (.inl a0_struck_words)))]) hD hS hA [1, 2] rfl
            refine va_callv (va_runV (As := [.int ((l5_19_3 - p2) / p3), .int p1, .int p4]) (rest := []) ⟨hx, hb, hml, hown, hts⟩ (c_X0_markEvery l dC dI cI cJ cZ _ h_a0_struck 7813 a0_struck_words q_a0_struck_words ((l5_19_3 - p2) / p3) p1 p4 _ h) (cwV 3 hts gX4_strike_X0_markEvery rfl rfl rfl (by decide +kernel) ⟨Nat.le_of_ble_eq_true rfl, Nat.le_of_ble_eq_true rfl⟩) ⟨pre_fb, va_recv hK hPc (ci := 0) (q0 := 0) rfl rfl, pre_of hPc hDc hK hN⟩ rfl rfl hl.1 rfl (lv_room (Nat.le_of_ble_eq_true rfl)) dX4_strike_60 ⟨by first | exact Nat.le_of_ble_eq_true rfl | exact Nat.le_refl _, by first | exact Nat.le_of_ble_eq_true rfl | exact Nat.le_refl _⟩) hS (fun q _ h => hFc q h) hFc (fun u t H1 locs ht hvm h hB hz1 hk1 hS => ?_)
            obtain ⟨o_7, rfl⟩ : ∃ z, z = u := ⟨_, rfl⟩
            obtain ⟨hP1, hD1⟩ := hB
            rw [ht] at hP1
            try dsimp only at h
            obtain ⟨hP, hD⟩ := va_join (wr := [(h_a0, .inr (4, [.ref h_a0_struck]))]) (w1 := [(h_a0_struck, .inr (0, [.ref q_a0_struck_words])), (q_a0_struck_words, .inl (cJ, 7813, .inr (.inl o_7)))]) hP hD [1, 2] [0] rfl rfl (by decide) (by decide) hk1 hFc hP1 hD1
            generalize H1 = H at hP hS ⊢
            have hP : va_P (dC, dI) vwCl [(h_a0, .inr (4, [.ref h_a0_struck])), (h_a0_struck, .inr (0, [.ref q_a0_struck_words])), (q_a0_struck_words, .inl (cJ, 7813, .inr (.inl o_7)))] H := hP
            have hD : va_D A [(h_a0, .inr (4, [.ref h_a0_struck])), (h_a0_struck, .inr (0, [.ref q_a0_struck_words])), (q_a0_struck_words, .inl (cJ, 7813, .inr (.inl o_7)))] := hD
            have hP9 := hP.sub (ws' := [(h_a0, .inr (4, [.ref h_a0_struck])), (h_a0_struck, .inr (0, [.ref q_a0_struck_words])), (q_a0_struck_words, .inl (cJ, 7813, .inr (.inl o_7)))]) [0, 1, 2] rfl
            have hD9 := hD.sub (ws' := [(h_a0, .inr (4, [.ref h_a0_struck])), (h_a0_struck, .inr (0, [.ref q_a0_struck_words])), (q_a0_struck_words, .inl (cJ, 7813, .inr (.inl o_7)))]) [0, 1, 2] (by decide) rfl
            exact W.vret hx hb hr (fun t ht hW => ⟨⟨o_7, rfl, h, by rw [ht]; exact hP9, hD9⟩, hS.F ht⟩) hS.2.2 dX4_strike_63
          · replace h := h.2 c_5
            refine lv_iload hx hb dX4_strike_25 (lv_at hl 1 rfl) ?_
            refine lv_iload_n hx hb dX4_strike_27 rfl (lv_at hl 5 rfl) ?_
            obtain ⟨hne_8, h⟩ := h
            refine lv_irem hx hb dX4_strike_28 hne_8 ?_
            refine lv_iload_n hx hb dX4_strike_29 rfl (lv_at hl 4 rfl) ?_
            refine lv_icmp_eq (tgt := 47) hx hb dX4_strike_30 (by decide) (fun c_9 => ?_) (fun c_9 => ?_)
            · replace h := h.1 c_9
              refine lv_aload_n hx hb dX4_strike_47 rfl (lv_at hl 2 rfl) ?_
              refine va_get (D := (dC, dI)) (ci := 4) (v := .ref h_a0_struck) (C := RX4) (T := TX4) (N := 1) hx hb hts hin_X4 hown hK hP 0 rfl rfl 0 (by decide) hw_0 (fun _ h9 => h9) rfl dX4_strike_48 ?_
              refine lv_iload hx hb dX4_strike_51 (lv_at hl 1 rfl) ?_
              refine lv_iload_n hx hb dX4_strike_53 rfl (lv_at hl 4 rfl) ?_
              refine lv_isub hx hb dX4_strike_54 ?_
              refine lv_iload_n hx hb dX4_strike_55 rfl (lv_at hl 5 rfl) ?_
              obtain ⟨hne_10, h⟩ := h
              refine lv_idiv hx hb dX4_strike_56 hne_10 ?_
              refine lv_iload_n hx hb dX4_strike_57 rfl (lv_at hl 3 rfl) ?_
              refine lv_iload hx hb dX4_strike_58 (lv_at hl 6 rfl) ?_
              have hPc := hP.sub (ws' := [(h_a0_struck, .inr (0, [.ref q_a0_struck_words])), (q_a0_struck_words, .inl (cJ, 7813, .inr (.inl a0_struck_words)))]) [1, 2] rfl
              have hDc := hD.sub (ws' := [(h_a0_struck, .inr (0, [.ref q_a0_struck_words])), (q_a0_struck_words, .inl (cJ, 7813, .inr (.inl a0_struck_words)))]) [1, 2] (by decide) rfl
              have hFc := va_free (wc := [(h_a0_struck, .inr (0, [.ref q_a0_struck_words])), (q_a0_struck_words, .inl (cJ, 7813, .inr (.inl a0_struck_words)))]) hD hS hA [1, 2] rfl
              refine va_callv (va_runV (As := [.int ((l5_19_3 - p2) / p3), .int p1, .int p4]) (rest := []) ⟨hx, hb, hml, hown, hts⟩ (c_X0_markEvery l dC dI cI cJ cZ _ h_a0_struck 7813 a0_struck_words q_a0_struck_words ((l5_19_3 - p2) / p3) p1 p4 _ h) (cwV 3 hts gX4_strike_X0_markEvery rfl rfl rfl (by decide +kernel) ⟨Nat.le_of_ble_eq_true rfl, Nat.le_of_ble_eq_true rfl⟩) ⟨pre_fb, va_recv hK hPc (ci := 0) (q0 := 0) rfl rfl, pre_of hPc hDc hK hN⟩ rfl rfl hl.1 rfl (lv_room (Nat.le_of_ble_eq_true rfl)) dX4_strike_60 ⟨by first | exact Nat.le_of_ble_eq_true rfl | exact Nat.le_refl _, by first | exact Nat.le_of_ble_eq_true rfl | exact Nat.le_refl _⟩) hS (fun q _ h => hFc q h) hFc (fun u t H1 locs ht hvm h hB hz1 hk1 hS => ?_)
              obtain ⟨o_11, rfl⟩ : ∃ z, z = u := ⟨_, rfl⟩
              obtain ⟨hP1, hD1⟩ := hB
              rw [ht] at hP1
              try dsimp only at h
              obtain ⟨hP, hD⟩ := va_join (wr := [(h_a0, .inr (4, [.ref h_a0_struck]))]) (w1 := [(h_a0_struck, .inr (0, [.ref q_a0_struck_words])), (q_a0_struck_words, .inl (cJ, 7813, .inr (.inl o_11)))]) hP hD [1, 2] [0] rfl rfl (by decide) (by decide) hk1 hFc hP1 hD1
              generalize H1 = H at hP hS ⊢
              have hP : va_P (dC, dI) vwCl [(h_a0, .inr (4, [.ref h_a0_struck])), (h_a0_struck, .inr (0, [.ref q_a0_struck_words])), (q_a0_struck_words, .inl (cJ, 7813, .inr (.inl o_11)))] H := hP
              have hD : va_D A [(h_a0, .inr (4, [.ref h_a0_struck])), (h_a0_struck, .inr (0, [.ref q_a0_struck_words])), (q_a0_struck_words, .inl (cJ, 7813, .inr (.inl o_11)))] := hD
              have hP9 := hP.sub (ws' := [(h_a0, .inr (4, [.ref h_a0_struck])), (h_a0_struck, .inr (0, [.ref q_a0_struck_words])), (q_a0_struck_words, .inl (cJ, 7813, .inr (.inl o_11)))]) [0, 1, 2] rfl
              have hD9 := hD.sub (ws' := [(h_a0, .inr (4, [.ref h_a0_struck])), (h_a0_struck, .inr (0, [.ref q_a0_struck_words])), (q_a0_struck_words, .inl (cJ, 7813, .inr (.inl o_11)))]) [0, 1, 2] (by decide) rfl
              exact W.vret hx hb hr (fun t ht hW => ⟨⟨o_11, rfl, h, by rw [ht]; exact hP9, hD9⟩, hS.F ht⟩) hS.2.2 dX4_strike_63
            · replace h := h.2 c_9
              refine lv_iload hx hb dX4_strike_33 (lv_at hl 1 rfl) ?_
              refine lv_iconst (v := (2 : Int32)) hx hb dX4_strike_35 (by decide) ?_
              refine lv_iload_n hx hb dX4_strike_36 rfl (lv_at hl 3 rfl) ?_
              refine lv_imul hx hb dX4_strike_37 ?_
              refine lv_iadd hx hb dX4_strike_38 ?_
              refine lv_topi (fun x5_12 e_x5_12 => ?_)
              replace h := h x5_12 e_x5_12
              refine lv_istore (lv' := [(5, .int x5_12), (6, .int l6_19_3), (0, .ref h_a0), (1, .int p1), (2, .int p2), (3, .int p3), (4, .int p4)]) hx hb dX4_strike_39 hl (by decide) rfl (fun ls hl => ?_)
              obtain ⟨x6_13, e_x6_13⟩ : ∃ y : Int32, y = l6_19_3 + (1 : Int32) := ⟨_, rfl⟩
              replace h := h x6_13 e_x6_13
              refine lv_iinc (v := x6_13) (lv' := [(6, .int x6_13), (5, .int x5_12), (0, .ref h_a0), (1, .int p1), (2, .int p2), (3, .int p3), (4, .int p4)]) hx hb dX4_strike_41 hl (k := 1) rfl (by rw [e_x6_13]; rfl) (by decide) rfl (fun ls hl => ?_)
              refine lv_goto (tgt := 19) hx hb dX4_strike_44 (by decide) ?_
              exact ih_19_3 x6_13 x5_12 (Nat.lt_of_lt_of_le h.2 (Nat.le_of_lt_succ hm_19_3)) h.1 _ _ _ (lv_sub hl [0, 1, 2, 3, 4, 5, 6] rfl) (hP.sub [0, 1, 2] rfl) (hD.sub [0, 1, 2] (by decide) rfl) hS
      exact key_19_3 _ (0 : Int32) x5_3 (Nat.lt_succ_self _) h0_19_3 _ _ _ (lv_sub hl [0, 1, 2, 3, 4, 5, 6] rfl) (hP.sub [0, 1, 2] rfl) (hD.sub [0, 1, 2] (by decide) rfl) hS
    · replace h := h.2 c_2
      have hP9 := hP.sub (ws' := [(h_a0, .inr (4, [.ref h_a0_struck])), (h_a0_struck, .inr (0, [.ref q_a0_struck_words])), (q_a0_struck_words, .inl (cJ, 7813, .inr (.inl a0_struck_words)))]) [0, 1, 2] rfl
      have hD9 := hD.sub (ws' := [(h_a0, .inr (4, [.ref h_a0_struck])), (h_a0_struck, .inr (0, [.ref q_a0_struck_words])), (q_a0_struck_words, .inl (cJ, 7813, .inr (.inl a0_struck_words)))]) [0, 1, 2] (by decide) rfl
      exact W.vret hx hb hr (fun t ht hW => ⟨⟨a0_struck_words, rfl, h, by rw [ht]; exact hP9, hD9⟩, hS.F ht⟩) hS.2.2 dX4_strike_10
def wp_X4_primesOf (a0_struck_words : Nat → Int64) (a4_table : Nat → Int32) (a4_many : Int32) (p1 : Int32) (p2 : Int32) (p3 : Int32) (Q : Int32 → (Nat → Int64) → Prop) : Prop :=
  ((p2 < (4 : Int32) → Q (0 : Int32) a0_struck_words) ∧ (¬ p2 < (4 : Int32) → ((p1 < (1 : Int32) → Q (0 : Int32) a0_struck_words) ∧ (¬ p1 < (1 : Int32) → ((p1 ≤ p3 → (¬ p2 = 0 ∧ (∀ x5_5 : Int32, x5_5 = (if (500000 : Int32) < (((p3 - p1) / p2) + (1 : Int32)) then (500000 : Int32) else (((p3 - p1) / p2) + (1 : Int32))) → wp_X0_wipe 7813 a0_struck_words (fun o_6 => ((p1 = (1 : Int32) → wp_X0_mark 7813 o_6 (0 : Int32) (fun o_22 => (∃ (I_54_22 : Int32 → (Nat → Int64) → Prop) (m_54_22 : Int32 → (Nat → Int64) → Nat), I_54_22 (1 : Int32) o_22 ∧ ∀ (l6_54_22 : Int32) (a0_struck_words_54_22 : Nat → Int64), I_54_22 l6_54_22 a0_struck_words_54_22 → ((a4_many ≤ l6_54_22 → wp_X0_tally 7813 a0_struck_words_54_22 (fun r_25 => Q (x5_5 - r_25) a0_struck_words_54_22)) ∧ (¬ a4_many ≤ l6_54_22 → wp_X3_nth a4_table a4_many l6_54_22 (fun r_26 => ((r_26 < (3 : Int32) → wp_X0_tally 7813 a0_struck_words_54_22 (fun r_28 => Q (x5_5 - r_28) a0_struck_words_54_22)) ∧ (¬ r_26 < (3 : Int32) → (¬ r_26 = 0 ∧ ((r_26 ≤ (p3 / r_26) → (¬ r_26 = 0 ∧ (((p2 - p2 / r_26 * r_26) = (0 : Int32) → (∀ x6_33 : Int32, x6_33 = l6_54_22 + (1 : Int32) → (I_54_22 x6_33 a0_struck_words_54_22 ∧ m_54_22 x6_33 a0_struck_words_54_22 < m_54_22 l6_54_22 a0_struck_words_54_22))) ∧ (¬ (p2 - p2 / r_26 * r_26) = (0 : Int32) → wp_X4_strike a0_struck_words_54_22 r_26 p1 p2 x5_5 (fun o_34 => (∀ x6_35 : Int32, x6_35 = l6_54_22 + (1 : Int32) → (I_54_22 x6_35 o_34 ∧ m_54_22 x6_35 o_34 < m_54_22 l6_54_22 a0_struck_words_54_22))))))) ∧ (¬ r_26 ≤ (p3 / r_26) → wp_X0_tally 7813 a0_struck_words_54_22 (fun r_36 => Q (x5_5 - r_36) a0_struck_words_54_22)))))))))))) ∧ (¬ p1 = (1 : Int32) → (∃ (I_54_7 : Int32 → (Nat → Int64) → Prop) (m_54_7 : Int32 → (Nat → Int64) → Nat), I_54_7 (1 : Int32) o_6 ∧ ∀ (l6_54_7 : Int32) (a0_struck_words_54_7 : Nat → Int64), I_54_7 l6_54_7 a0_struck_words_54_7 → ((a4_many ≤ l6_54_7 → wp_X0_tally 7813 a0_struck_words_54_7 (fun r_10 => Q (x5_5 - r_10) a0_struck_words_54_7)) ∧ (¬ a4_many ≤ l6_54_7 → wp_X3_nth a4_table a4_many l6_54_7 (fun r_11 => ((r_11 < (3 : Int32) → wp_X0_tally 7813 a0_struck_words_54_7 (fun r_13 => Q (x5_5 - r_13) a0_struck_words_54_7)) ∧ (¬ r_11 < (3 : Int32) → (¬ r_11 = 0 ∧ ((r_11 ≤ (p3 / r_11) → (¬ r_11 = 0 ∧ (((p2 - p2 / r_11 * r_11) = (0 : Int32) → (∀ x6_18 : Int32, x6_18 = l6_54_7 + (1 : Int32) → (I_54_7 x6_18 a0_struck_words_54_7 ∧ m_54_7 x6_18 a0_struck_words_54_7 < m_54_7 l6_54_7 a0_struck_words_54_7))) ∧ (¬ (p2 - p2 / r_11 * r_11) = (0 : Int32) → wp_X4_strike a0_struck_words_54_7 r_11 p1 p2 x5_5 (fun o_19 => (∀ x6_20 : Int32, x6_20 = l6_54_7 + (1 : Int32) → (I_54_7 x6_20 o_19 ∧ m_54_7 x6_20 o_19 < m_54_7 l6_54_7 a0_struck_words_54_7))))))) ∧ (¬ r_11 ≤ (p3 / r_11) → wp_X0_tally 7813 a0_struck_words_54_7 (fun r_21 => Q (x5_5 - r_21) a0_struck_words_54_7)))))))))))))))) ∧ (¬ p1 ≤ p3 → Q (0 : Int32) a0_struck_words))))))
abbrev rm_X4_primesOf : Room := { frames := 3, cells := 0, slots := 0, locals := 74 }
abbrev qc_X4_primesOf (dC : Nat → ClassId) (dI : Nat → Nat → Nat) (cI cJ cZ : ClassId) (h_a0 : Nat) (h_a0_struck : Nat) (a0_struck_words : Nat → Int64) (q_a0_struck_words : Nat) (h_a4 : Nat) (a4_table : Nat → Int32) (q_a4_table : Nat) (a4_many : Int32) (Q : Int32 → (Nat → Int64) → Prop) (A : Nat → Prop) : Array Value → State → Outcome → State → Prop := va_Qi (fun (r : Int32) (u : (Nat → Int64)) => Q r u) (post_ dC dI A (fun (u : (Nat → Int64)) => [(h_a0, .inr (4, [.ref h_a0_struck])), (h_a0_struck, .inr (0, [.ref q_a0_struck_words])), (q_a0_struck_words, .inl (cJ, 7813, .inr (.inl u))), (h_a4, .inr (3, [.ref q_a4_table, .int a4_many])), (q_a4_table, .inl (cI, 9592, .inl a4_table))])) A
set_option maxHeartbeats 4000000 in
set_option maxRecDepth 100000 in
theorem c_X4_primesOf (l : Launch) (dC : Nat → ClassId) (dI : Nat → Nat → Nat) (cI cJ cZ : ClassId) (sz : Nat) (h_a0 : Nat) (h_a0_struck : Nat) (a0_struck_words : Nat → Int64) (q_a0_struck_words : Nat) (h_a4 : Nat) (a4_table : Nat → Int32) (q_a4_table : Nat) (a4_many : Int32) (p1 : Int32) (p2 : Int32) (p3 : Int32) (Q : Int32 → (Nat → Int64) → Prop) (hQ : wp_X4_primesOf a0_struck_words a4_table a4_many p1 p2 p3 Q) : Met l yX4_primesOf wsX4_primesOf rm_X4_primesOf (pre_ dC dI cI cJ cZ [.ref h_a0, .int p1, .int p2, .int p3, .ref h_a4] [(h_a0, .inr (4, [.ref h_a0_struck])), (h_a0_struck, .inr (0, [.ref q_a0_struck_words])), (q_a0_struck_words, .inl (cJ, 7813, .inr (.inl a0_struck_words))), (h_a4, .inr (3, [.ref q_a4_table, .int a4_many])), (q_a4_table, .inl (cI, 9592, .inl a4_table))] sz) (qc_X4_primesOf dC dI cI cJ cZ h_a0 h_a0_struck a0_struck_words q_a0_struck_words h_a4 a4_table q_a4_table a4_many Q (va_A [(h_a0, .inr (4, [.ref h_a0_struck])), (h_a0_struck, .inr (0, [.ref q_a0_struck_words])), (q_a0_struck_words, .inl (cJ, 7813, .inr (.inl a0_struck_words))), (h_a4, .inr (3, [.ref q_a4_table, .int a4_many])), (q_a4_table, .inl (cI, 9592, .inl a4_table))] sz)) 0 0 (va_A [(h_a0, .inr (4, [.ref h_a0_struck])), (h_a0_struck, .inr (0, [.ref q_a0_struck_words])), (q_a0_struck_words, .inl (cJ, 7813, .inr (.inl a0_struck_words))), (h_a4, .inr (3, [.ref q_a4_table, .int a4_many])), (q_a4_table, .inl (cI, 9592, .inl a4_table))] sz) := by
  refine Met.ofW (cc := cX4_primesOf) (maxL := 8) (ret := (some .int)) (by decide) rfl ?_
  intro p e s m args below meth c s₁ B hml hv
  obtain ⟨rfl, hsz, hP, hK, hN, hD0⟩ := hv
  have hx := B.exec
  have hb := B.bytes
  have hr := B.returns
  have hts := atoms_spec (ws := wsX4_primesOf) B.pre
  have hown : s.vm.findClass RX4 = some m.cls := findClass_of_methodNamed B.named
  subst hsz
  have hD := hD0.self (sz := s.heap.size)
  generalize hAe : va_A [(h_a0, .inr (4, [.ref h_a0_struck])), (h_a0_struck, .inr (0, [.ref q_a0_struck_words])), (q_a0_struck_words, .inl (cJ, 7813, .inr (.inl a0_struck_words))), (h_a4, .inr (3, [.ref q_a4_table, .int a4_many])), (q_a4_table, .inl (cI, 9592, .inl a4_table))] s.heap.size = A at hD ⊢
  have hA : ∀ q : Nat, s.heap.size ≤ q → A q := fun q h => by rw [← hAe]; exact Or.inr h
  have hS : va_S A s.heap s.heap [] := va_S.rf
  have hl := lv_entry ([.ref h_a0, .int p1, .int p2, .int p3, .ref h_a4]) (n := 8) (Nat.le_of_ble_eq_true rfl)
  rw [lg_entry_eq]
  generalize (lg_sl ([.ref h_a0, .int p1, .int p2, .int p3, .ref h_a4]) ++ List.replicate (8 - (lg_sl ([.ref h_a0, .int p1, .int p2, .int p3, .ref h_a4])).length) Slot.unset).toArray = ls at hl ⊢
  have hl : lv_has ls 8 [(0, .ref h_a0), (1, .int p1), (2, .int p2), (3, .int p3), (4, .ref h_a4)] := hl
  have h := hQ
  unfold wp_X4_primesOf at h
  have hw_0 := hts (.constant RX4 13 (500000)) (by decide +kernel)
  have hw_1 := hts (.methodLink RX4 21 Lib.Math.min.name) (by decide +kernel)
  have hw_2 := hts (.static Lib.Math.min.name) (by decide +kernel)
  have hw_3 := hts (.initialized "java/lang/Math") (by decide +kernel)
  have hw_4 := hts (.code Lib.Math.min.name Lib.Math.min.code 2 (some .int)) (by decide +kernel)
  have hw_5 := hts (.fieldLink RX4 17 "NumberSieves$Progression" "struck" "LNumberSieves$Marks;") (by decide +kernel)
  have hin_X4 : ∀ w ∈ wsX40, w ∈ wsX4_primesOf := by decide +kernel
  have hin_X3 : ∀ w ∈ wsX30, w ∈ wsX4_primesOf := by decide +kernel
  refine lv_iload_n hx hb dX4_primesOf_0 rfl (lv_at hl 2 rfl) ?_
  refine lv_iconst (v := (4 : Int32)) hx hb dX4_primesOf_1 (by decide) ?_
  refine lv_icmp_lt (tgt := 15) hx hb dX4_primesOf_2 (by decide) (fun c_1 => ?_) (fun c_1 => ?_)
  · replace h := h.1 c_1
    refine lv_iconst (v := (0 : Int32)) hx hb dX4_primesOf_15 (by decide) ?_
    have hP9 := hP.sub (ws' := [(h_a0, .inr (4, [.ref h_a0_struck])), (h_a0_struck, .inr (0, [.ref q_a0_struck_words])), (q_a0_struck_words, .inl (cJ, 7813, .inr (.inl a0_struck_words))), (h_a4, .inr (3, [.ref q_a4_table, .int a4_many])), (q_a4_table, .inl (cI, 9592, .inl a4_table))]) [0, 1, 2, 3, 4] rfl
    have hD9 := hD.sub (ws' := [(h_a0, .inr (4, [.ref h_a0_struck])), (h_a0_struck, .inr (0, [.ref q_a0_struck_words])), (q_a0_struck_words, .inl (cJ, 7813, .inr (.inl a0_struck_words))), (h_a4, .inr (3, [.ref q_a4_table, .int a4_many])), (q_a4_table, .inl (cI, 9592, .inl a4_table))]) [0, 1, 2, 3, 4] (by decide) rfl
    exact W.iret (v := (0 : Int32)) hx hb hr (fun t ht hW => ⟨⟨_, a0_struck_words, rfl, h, by rw [ht]; exact hP9, hD9⟩, hS.F ht⟩) hS.2.2 dX4_primesOf_16
  · replace h := h.2 c_1
    refine lv_iload_n hx hb dX4_primesOf_5 rfl (lv_at hl 1 rfl) ?_
    refine lv_iconst (v := (1 : Int32)) hx hb dX4_primesOf_6 (by decide) ?_
    refine lv_icmp_lt (tgt := 15) hx hb dX4_primesOf_7 (by decide) (fun c_2 => ?_) (fun c_2 => ?_)
    · replace h := h.1 c_2
      refine lv_iconst (v := (0 : Int32)) hx hb dX4_primesOf_15 (by decide) ?_
      have hP9 := hP.sub (ws' := [(h_a0, .inr (4, [.ref h_a0_struck])), (h_a0_struck, .inr (0, [.ref q_a0_struck_words])), (q_a0_struck_words, .inl (cJ, 7813, .inr (.inl a0_struck_words))), (h_a4, .inr (3, [.ref q_a4_table, .int a4_many])), (q_a4_table, .inl (cI, 9592, .inl a4_table))]) [0, 1, 2, 3, 4] rfl
      have hD9 := hD.sub (ws' := [(h_a0, .inr (4, [.ref h_a0_struck])), (h_a0_struck, .inr (0, [.ref q_a0_struck_words])), (q_a0_struck_words, .inl (cJ, 7813, .inr (.inl a0_struck_words))), (h_a4, .inr (3, [.ref q_a4_table, .int a4_many])), (q_a4_table, .inl (cI, 9592, .inl a4_table))]) [0, 1, 2, 3, 4] (by decide) rfl
      exact W.iret (v := (0 : Int32)) hx hb hr (fun t ht hW => ⟨⟨_, a0_struck_words, rfl, h, by rw [ht]; exact hP9, hD9⟩, hS.F ht⟩) hS.2.2 dX4_primesOf_16
    · replace h := h.2 c_2
      refine lv_iload_n hx hb dX4_primesOf_10 rfl (lv_at hl 1 rfl) ?_
      refine lv_iload_n hx hb dX4_primesOf_11 rfl (lv_at hl 3 rfl) ?_
      refine lv_icmp_le (tgt := 17) hx hb dX4_primesOf_12 (by decide) (fun c_3 => ?_) (fun c_3 => ?_)
      · replace h := h.1 c_3
        refine lv_iload_n hx hb dX4_primesOf_17 rfl (lv_at hl 3 rfl) ?_
        refine lv_iload_n hx hb dX4_primesOf_18 rfl (lv_at hl 1 rfl) ?_
        refine lv_isub hx hb dX4_primesOf_19 ?_
        refine lv_iload_n hx hb dX4_primesOf_20 rfl (lv_at hl 2 rfl) ?_
        obtain ⟨hne_4, h⟩ := h
        refine lv_idiv hx hb dX4_primesOf_21 hne_4 ?_
        refine lv_iconst (v := (1 : Int32)) hx hb dX4_primesOf_22 (by decide) ?_
        refine lv_iadd hx hb dX4_primesOf_23 ?_
        refine lv_ldc hx hb hown hw_0 dX4_primesOf_24 ?_
        refine va_mmin hx hb (by rw [hml]; exact hl.1.symm) hown hw_1 hw_2 hw_3 hw_4 (Nat.le_of_ble_eq_true rfl) (Nat.le_of_ble_eq_true rfl) (Nat.le_of_ble_eq_true rfl) (Nat.le_of_ble_eq_true rfl) dX4_primesOf_26 ?_
        refine lv_topi (fun x5_5 e_x5_5 => ?_)
        replace h := h x5_5 e_x5_5
        refine lv_istore (lv' := [(5, .int x5_5), (0, .ref h_a0), (1, .int p1), (2, .int p2), (3, .int p3), (4, .ref h_a4)]) hx hb dX4_primesOf_29 hl (by decide) rfl (fun ls hl => ?_)
        refine lv_aload_n hx hb dX4_primesOf_31 rfl (lv_at hl 1 rfl) ?_
        refine va_get (D := (dC, dI)) (ci := 4) (v := .ref h_a0_struck) (C := RX4) (T := TX4) (N := 1) hx hb hts hin_X4 hown hK hP 0 rfl rfl 0 (by decide) hw_5 (fun _ h9 => h9) rfl dX4_primesOf_32 ?_
        have hPc := hP.sub (ws' := [(h_a0_struck, .inr (0, [.ref q_a0_struck_words])), (q_a0_struck_words, .inl (cJ, 7813, .inr (.inl a0_struck_words)))]) [1, 2] rfl
        have hDc := hD.sub (ws' := [(h_a0_struck, .inr (0, [.ref q_a0_struck_words])), (q_a0_struck_words, .inl (cJ, 7813, .inr (.inl a0_struck_words)))]) [1, 2] (by decide) rfl
        have hFc := va_free (wc := [(h_a0_struck, .inr (0, [.ref q_a0_struck_words])), (q_a0_struck_words, .inl (cJ, 7813, .inr (.inl a0_struck_words)))]) hD hS hA [1, 2] rfl
        refine va_callv (va_runV (As := []) (rest := []) ⟨hx, hb, hml, hown, hts⟩ (c_X0_wipe l dC dI cI cJ cZ _ h_a0_struck 7813 a0_struck_words q_a0_struck_words _ h) (cwV 0 hts gX4_primesOf_X0_wipe rfl rfl rfl (by decide +kernel) ⟨Nat.le_of_ble_eq_true rfl, Nat.le_of_ble_eq_true rfl⟩) ⟨pre_fb, va_recv hK hPc (ci := 0) (q0 := 0) rfl rfl, pre_of hPc hDc hK hN⟩ rfl rfl hl.1 rfl (lv_room (Nat.le_of_ble_eq_true rfl)) dX4_primesOf_35 ⟨by first | exact Nat.le_of_ble_eq_true rfl | exact Nat.le_refl _, by first | exact Nat.le_of_ble_eq_true rfl | exact Nat.le_refl _⟩) hS (fun q _ h => hFc q h) hFc (fun u t H1 locs ht hvm h hB hz1 hk1 hS => ?_)
        obtain ⟨o_6, rfl⟩ : ∃ z, z = u := ⟨_, rfl⟩
        obtain ⟨hP1, hD1⟩ := hB
        rw [ht] at hP1
        try dsimp only at h
        obtain ⟨hP, hD⟩ := va_join (wr := [(h_a0, .inr (4, [.ref h_a0_struck])), (h_a4, .inr (3, [.ref q_a4_table, .int a4_many])), (q_a4_table, .inl (cI, 9592, .inl a4_table))]) (w1 := [(h_a0_struck, .inr (0, [.ref q_a0_struck_words])), (q_a0_struck_words, .inl (cJ, 7813, .inr (.inl o_6)))]) hP hD [1, 2] [0, 3, 4] rfl rfl (by decide) (by decide) hk1 hFc hP1 hD1
        generalize H1 = H at hP hS ⊢
        have hP : va_P (dC, dI) vwCl [(h_a0, .inr (4, [.ref h_a0_struck])), (h_a4, .inr (3, [.ref q_a4_table, .int a4_many])), (q_a4_table, .inl (cI, 9592, .inl a4_table)), (h_a0_struck, .inr (0, [.ref q_a0_struck_words])), (q_a0_struck_words, .inl (cJ, 7813, .inr (.inl o_6)))] H := hP
        have hD : va_D A [(h_a0, .inr (4, [.ref h_a0_struck])), (h_a4, .inr (3, [.ref q_a4_table, .int a4_many])), (q_a4_table, .inl (cI, 9592, .inl a4_table)), (h_a0_struck, .inr (0, [.ref q_a0_struck_words])), (q_a0_struck_words, .inl (cJ, 7813, .inr (.inl o_6)))] := hD
        refine lv_iload_n hx hb dX4_primesOf_38 rfl (lv_at hl 2 rfl) ?_
        refine lv_iconst (v := (1 : Int32)) hx hb dX4_primesOf_39 (by decide) ?_
        refine lv_icmp_ne (tgt := 51) hx hb dX4_primesOf_40 (by decide) (fun c_7 => ?_) (fun c_7 => ?_)
        · replace h := h.2 c_7
          refine lv_iconst (v := (1 : Int32)) hx hb dX4_primesOf_51 (by decide) ?_
          refine lv_istore (lv' := [(6, .int (1 : Int32)), (5, .int x5_5), (0, .ref h_a0), (1, .int p1), (2, .int p2), (3, .int p3), (4, .ref h_a4)]) hx hb dX4_primesOf_52 hl (by decide) rfl (fun ls hl => ?_)
          obtain ⟨I_54_7, m_54_7, h0_54_7, hs_54_7⟩ := h
          have key_54_7 : ∀ (n : Nat) (l6_54_7 : Int32) (a0_struck_words_54_7 : Nat → Int64), m_54_7 l6_54_7 a0_struck_words_54_7 < n → I_54_7 l6_54_7 a0_struck_words_54_7 → ∀ (ls : Array Slot) (H : Heap) (locs : List Loc), lv_has ls 8 [(6, .int l6_54_7), (5, .int x5_5), (0, .ref h_a0), (1, .int p1), (2, .int p2), (3, .int p3), (4, .ref h_a4)] → va_P (dC, dI) vwCl [(h_a0, .inr (4, [.ref h_a0_struck])), (h_a4, .inr (3, [.ref q_a4_table, .int a4_many])), (q_a4_table, .inl (cI, 9592, .inl a4_table)), (h_a0_struck, .inr (0, [.ref q_a0_struck_words])), (q_a0_struck_words, .inl (cJ, 7813, .inr (.inl a0_struck_words_54_7)))] H → va_D A [(h_a0, .inr (4, [.ref h_a0_struck])), (h_a4, .inr (3, [.ref q_a4_table, .int a4_many])), (q_a4_table, .inl (cI, 9592, .inl a4_table)), (h_a0_struck, .inr (0, [.ref q_a0_struck_words])), (q_a0_struck_words, .inl (cJ, 7813, .inr (.inl a0_struck_words_54_7)))] → va_S A s.heap H locs → W p l e (headSpec wsX4_primesOf rm_X4_primesOf).room s m ([.ref h_a0, .int p1, .int p2, .int p3, .ref h_a4] : List Value).toArray below meth c H locs 0 0 (MQ below (qc_X4_primesOf dC dI cI cJ cZ h_a0 h_a0_struck a0_struck_words q_a0_struck_words h_a4 a4_table q_a4_table a4_many Q A) ([.ref h_a0, .int p1, .int p2, .int p3, .ref h_a4] : List Value).toArray s 0 0 A) (F0 m 54 ls []) := by
            intro n
            induction n with
            | zero =>
              intro l6_54_7 a0_struck_words_54_7 hm
              exact absurd hm (Nat.not_lt_zero _)
            | succ n ih_54_7 =>
              intro l6_54_7 a0_struck_words_54_7 hm_54_7 hI ls H locs hl hP hD hS
              have h := hs_54_7 l6_54_7 a0_struck_words_54_7 hI
              refine lv_iload hx hb dX4_primesOf_54 (lv_at hl 0 rfl) ?_
              refine lv_aload hx hb dX4_primesOf_56 (lv_at hl 6 rfl) ?_
              refine va_getN (D := (dC, dI)) (ci := 3) (v := .int a4_many) (C := RX3) (T := TX3) (N := 2) hx hb hts hin_X3 hown hK hP 1 rfl rfl 1 (by decide) (nw_6 hN) (fun _ h9 => h9) rfl dX4_primesOf_58 ?_
              refine lv_icmp_ge (tgt := 114) hx hb dX4_primesOf_61 (by decide) (fun c_9 => ?_) (fun c_9 => ?_)
              · replace h := h.1 c_9
                refine lv_iload hx hb dX4_primesOf_114 (lv_at hl 1 rfl) ?_
                refine lv_aload_n hx hb dX4_primesOf_116 rfl (lv_at hl 2 rfl) ?_
                refine va_get (D := (dC, dI)) (ci := 4) (v := .ref h_a0_struck) (C := RX4) (T := TX4) (N := 1) hx hb hts hin_X4 hown hK hP 0 rfl rfl 0 (by decide) hw_5 (fun _ h9 => h9) rfl dX4_primesOf_117 ?_
                have hPc := hP.sub (ws' := [(h_a0_struck, .inr (0, [.ref q_a0_struck_words])), (q_a0_struck_words, .inl (cJ, 7813, .inr (.inl a0_struck_words_54_7)))]) [3, 4] rfl
                have hDc := hD.sub (ws' := [(h_a0_struck, .inr (0, [.ref q_a0_struck_words])), (q_a0_struck_words, .inl (cJ, 7813, .inr (.inl a0_struck_words_54_7)))]) [3, 4] (by decide) rfl
                have hFc := va_free (wc := [(h_a0_struck, .inr (0, [.ref q_a0_struck_words])), (q_a0_struck_words, .inl (cJ, 7813, .inr (.inl a0_struck_words_54_7)))]) hD hS hA [3, 4] rfl
                refine va_calli (va_runV (As := []) (rest := [.int x5_5]) ⟨hx, hb, hml, hown, hts⟩ (c_X0_tally l dC dI cI cJ cZ _ h_a0_struck 7813 a0_struck_words_54_7 q_a0_struck_words _ h) (cwV 0 hts gX4_primesOf_X0_tally rfl rfl rfl (by decide +kernel) ⟨Nat.le_of_ble_eq_true rfl, Nat.le_of_ble_eq_true rfl⟩) ⟨pre_fb, va_recv hK hPc (ci := 0) (q0 := 0) rfl rfl, pre_of hPc hDc hK hN⟩ rfl rfl hl.1 rfl (lv_room (Nat.le_of_ble_eq_true rfl)) dX4_primesOf_120 ⟨by first | exact Nat.le_of_ble_eq_true rfl | exact Nat.le_refl _, by first | exact Nat.le_of_ble_eq_true rfl | exact Nat.le_refl _⟩) hS (fun q _ h => hFc q h) hFc (fun r_10 u t H1 locs ht hvm h hB hz1 hk1 hS => ?_)
                obtain ⟨hP1, hD1⟩ := hB
                rw [ht] at hP1
                try dsimp only at h
                obtain ⟨hP, hD⟩ := va_join (wr := [(h_a0, .inr (4, [.ref h_a0_struck])), (h_a4, .inr (3, [.ref q_a4_table, .int a4_many])), (q_a4_table, .inl (cI, 9592, .inl a4_table))]) (w1 := [(h_a0_struck, .inr (0, [.ref q_a0_struck_words])), (q_a0_struck_words, .inl (cJ, 7813, .inr (.inl a0_struck_words_54_7)))]) hP hD [3, 4] [0, 1, 2] rfl rfl (by decide) (by decide) hk1 hFc hP1 hD1
                generalize H1 = H at hP hS ⊢
                have hP : va_P (dC, dI) vwCl [(h_a0, .inr (4, [.ref h_a0_struck])), (h_a4, .inr (3, [.ref q_a4_table, .int a4_many])), (q_a4_table, .inl (cI, 9592, .inl a4_table)), (h_a0_struck, .inr (0, [.ref q_a0_struck_words])), (q_a0_struck_words, .inl (cJ, 7813, .inr (.inl a0_struck_words_54_7)))] H := hP
                have hD : va_D A [(h_a0, .inr (4, [.ref h_a0_struck])), (h_a4, .inr (3, [.ref q_a4_table, .int a4_many])), (q_a4_table, .inl (cI, 9592, .inl a4_table)), (h_a0_struck, .inr (0, [.ref q_a0_struck_words])), (q_a0_struck_words, .inl (cJ, 7813, .inr (.inl a0_struck_words_54_7)))] := hD
                refine lv_isub hx hb dX4_primesOf_123 ?_
                have hP9 := hP.sub (ws' := [(h_a0, .inr (4, [.ref h_a0_struck])), (h_a0_struck, .inr (0, [.ref q_a0_struck_words])), (q_a0_struck_words, .inl (cJ, 7813, .inr (.inl a0_struck_words_54_7))), (h_a4, .inr (3, [.ref q_a4_table, .int a4_many])), (q_a4_table, .inl (cI, 9592, .inl a4_table))]) [0, 3, 4, 1, 2] rfl
                have hD9 := hD.sub (ws' := [(h_a0, .inr (4, [.ref h_a0_struck])), (h_a0_struck, .inr (0, [.ref q_a0_struck_words])), (q_a0_struck_words, .inl (cJ, 7813, .inr (.inl a0_struck_words_54_7))), (h_a4, .inr (3, [.ref q_a4_table, .int a4_many])), (q_a4_table, .inl (cI, 9592, .inl a4_table))]) [0, 3, 4, 1, 2] (by decide) rfl
                exact W.iret (v := (x5_5 - r_10)) hx hb hr (fun t ht hW => ⟨⟨_, a0_struck_words_54_7, rfl, h, by rw [ht]; exact hP9, hD9⟩, hS.F ht⟩) hS.2.2 dX4_primesOf_124
              · replace h := h.2 c_9
                refine lv_aload hx hb dX4_primesOf_64 (lv_at hl 6 rfl) ?_
                refine lv_iload hx hb dX4_primesOf_66 (lv_at hl 0 rfl) ?_
                have hPc := hP.sub (ws' := [(h_a4, .inr (3, [.ref q_a4_table, .int a4_many])), (q_a4_table, .inl (cI, 9592, .inl a4_table))]) [1, 2] rfl
                have hDc := hD.sub (ws' := [(h_a4, .inr (3, [.ref q_a4_table, .int a4_many])), (q_a4_table, .inl (cI, 9592, .inl a4_table))]) [1, 2] (by decide) rfl
                have hFc := va_free (wc := [(h_a4, .inr (3, [.ref q_a4_table, .int a4_many])), (q_a4_table, .inl (cI, 9592, .inl a4_table))]) hD hS hA [1, 2] rfl
                refine va_calli (va_runV (As := [.int l6_54_7]) (rest := []) ⟨hx, hb, hml, hown, hts⟩ (c_X3_nth l dC dI cI cJ cZ _ h_a4 a4_table q_a4_table a4_many l6_54_7 _ h) (cwV 1 hts gX4_primesOf_X3_nth rfl rfl rfl (by decide +kernel) ⟨Nat.le_of_ble_eq_true rfl, Nat.le_of_ble_eq_true rfl⟩) ⟨pre_fb, va_recv hK hPc (ci := 3) (q0 := 0) rfl rfl, pre_of hPc hDc hK hN⟩ rfl rfl hl.1 rfl (lv_room (Nat.le_of_ble_eq_true rfl)) dX4_primesOf_68 ⟨by first | exact Nat.le_of_ble_eq_true rfl | exact Nat.le_refl _, by first | exact Nat.le_of_ble_eq_true rfl | exact Nat.le_refl _⟩) hS (fun q _ h => hFc q h) hFc (fun r_11 u t H1 locs ht hvm h hB hz1 hk1 hS => ?_)
                obtain ⟨hP1, hD1⟩ := hB
                rw [ht] at hP1
                try dsimp only at h
                obtain ⟨hP, hD⟩ := va_join (wr := [(h_a0, .inr (4, [.ref h_a0_struck])), (h_a0_struck, .inr (0, [.ref q_a0_struck_words])), (q_a0_struck_words, .inl (cJ, 7813, .inr (.inl a0_struck_words_54_7)))]) (w1 := [(h_a4, .inr (3, [.ref q_a4_table, .int a4_many])), (q_a4_table, .inl (cI, 9592, .inl a4_table))]) hP hD [1, 2] [0, 3, 4] rfl rfl (by decide) (by decide) hk1 hFc hP1 hD1
                generalize H1 = H at hP hS ⊢
                have hP : va_P (dC, dI) vwCl [(h_a0, .inr (4, [.ref h_a0_struck])), (h_a0_struck, .inr (0, [.ref q_a0_struck_words])), (q_a0_struck_words, .inl (cJ, 7813, .inr (.inl a0_struck_words_54_7))), (h_a4, .inr (3, [.ref q_a4_table, .int a4_many])), (q_a4_table, .inl (cI, 9592, .inl a4_table))] H := hP
                have hD : va_D A [(h_a0, .inr (4, [.ref h_a0_struck])), (h_a0_struck, .inr (0, [.ref q_a0_struck_words])), (q_a0_struck_words, .inl (cJ, 7813, .inr (.inl a0_struck_words_54_7))), (h_a4, .inr (3, [.ref q_a4_table, .int a4_many])), (q_a4_table, .inl (cI, 9592, .inl a4_table))] := hD
                refine lv_istore (lv' := [(7, .int r_11), (6, .int l6_54_7), (5, .int x5_5), (0, .ref h_a0), (1, .int p1), (2, .int p2), (3, .int p3), (4, .ref h_a4)]) hx hb dX4_primesOf_71 hl (by decide) rfl (fun ls hl => ?_)
                refine lv_iload hx hb dX4_primesOf_73 (lv_at hl 0 rfl) ?_
                refine lv_iconst (v := (3 : Int32)) hx hb dX4_primesOf_75 (by decide) ?_
                refine lv_icmp_lt (tgt := 114) hx hb dX4_primesOf_76 (by decide) (fun c_12 => ?_) (fun c_12 => ?_)
                · replace h := h.1 c_12
                  refine lv_iload hx hb dX4_primesOf_114 (lv_at hl 2 rfl) ?_
                  refine lv_aload_n hx hb dX4_primesOf_116 rfl (lv_at hl 3 rfl) ?_
                  refine va_get (D := (dC, dI)) (ci := 4) (v := .ref h_a0_struck) (C := RX4) (T := TX4) (N := 1) hx hb hts hin_X4 hown hK hP 0 rfl rfl 0 (by decide) hw_5 (fun _ h9 => h9) rfl dX4_primesOf_117 ?_
                  have hPc := hP.sub (ws' := [(h_a0_struck, .inr (0, [.ref q_a0_struck_words])), (q_a0_struck_words, .inl (cJ, 7813, .inr (.inl a0_struck_words_54_7)))]) [1, 2] rfl
                  have hDc := hD.sub (ws' := [(h_a0_struck, .inr (0, [.ref q_a0_struck_words])), (q_a0_struck_words, .inl (cJ, 7813, .inr (.inl a0_struck_words_54_7)))]) [1, 2] (by decide) rfl
                  have hFc := va_free (wc := [(h_a0_struck, .inr (0, [.ref q_a0_struck_words])), (q_a0_struck_words, .inl (cJ, 7813, .inr (.inl a0_struck_words_54_7)))]) hD hS hA [1, 2] rfl
                  refine va_calli (va_runV (As := []) (rest := [.int x5_5]) ⟨hx, hb, hml, hown, hts⟩ (c_X0_tally l dC dI cI cJ cZ _ h_a0_struck 7813 a0_struck_words_54_7 q_a0_struck_words _ h) (cwV 0 hts gX4_primesOf_X0_tally rfl rfl rfl (by decide +kernel) ⟨Nat.le_of_ble_eq_true rfl, Nat.le_of_ble_eq_true rfl⟩) ⟨pre_fb, va_recv hK hPc (ci := 0) (q0 := 0) rfl rfl, pre_of hPc hDc hK hN⟩ rfl rfl hl.1 rfl (lv_room (Nat.le_of_ble_eq_true rfl)) dX4_primesOf_120 ⟨by first | exact Nat.le_of_ble_eq_true rfl | exact Nat.le_refl _, by first | exact Nat.le_of_ble_eq_true rfl | exact Nat.le_refl _⟩) hS (fun q _ h => hFc q h) hFc (fun r_13 u t H1 locs ht hvm h hB hz1 hk1 hS => ?_)
                  obtain ⟨hP1, hD1⟩ := hB
                  rw [ht] at hP1
                  try dsimp only at h
                  obtain ⟨hP, hD⟩ := va_join (wr := [(h_a0, .inr (4, [.ref h_a0_struck])), (h_a4, .inr (3, [.ref q_a4_table, .int a4_many])), (q_a4_table, .inl (cI, 9592, .inl a4_table))]) (w1 := [(h_a0_struck, .inr (0, [.ref q_a0_struck_words])), (q_a0_struck_words, .inl (cJ, 7813, .inr (.inl a0_struck_words_54_7)))]) hP hD [1, 2] [0, 3, 4] rfl rfl (by decide) (by decide) hk1 hFc hP1 hD1
                  generalize H1 = H at hP hS ⊢
                  have hP : va_P (dC, dI) vwCl [(h_a0, .inr (4, [.ref h_a0_struck])), (h_a4, .inr (3, [.ref q_a4_table, .int a4_many])), (q_a4_table, .inl (cI, 9592, .inl a4_table)), (h_a0_struck, .inr (0, [.ref q_a0_struck_words])), (q_a0_struck_words, .inl (cJ, 7813, .inr (.inl a0_struck_words_54_7)))] H := hP
                  have hD : va_D A [(h_a0, .inr (4, [.ref h_a0_struck])), (h_a4, .inr (3, [.ref q_a4_table, .int a4_many])), (q_a4_table, .inl (cI, 9592, .inl a4_table)), (h_a0_struck, .inr (0, [.ref q_a0_struck_words])), (q_a0_struck_words, .inl (cJ, 7813, .inr (.inl a0_struck_words_54_7)))] := hD
                  refine lv_isub hx hb dX4_primesOf_123 ?_
                  have hP9 := hP.sub (ws' := [(h_a0, .inr (4, [.ref h_a0_struck])), (h_a0_struck, .inr (0, [.ref q_a0_struck_words])), (q_a0_struck_words, .inl (cJ, 7813, .inr (.inl a0_struck_words_54_7))), (h_a4, .inr (3, [.ref q_a4_table, .int a4_many])), (q_a4_table, .inl (cI, 9592, .inl a4_table))]) [0, 3, 4, 1, 2] rfl
                  have hD9 := hD.sub (ws' := [(h_a0, .inr (4, [.ref h_a0_struck])), (h_a0_struck, .inr (0, [.ref q_a0_struck_words])), (q_a0_struck_words, .inl (cJ, 7813, .inr (.inl a0_struck_words_54_7))), (h_a4, .inr (3, [.ref q_a4_table, .int a4_many])), (q_a4_table, .inl (cI, 9592, .inl a4_table))]) [0, 3, 4, 1, 2] (by decide) rfl
                  exact W.iret (v := (x5_5 - r_13)) hx hb hr (fun t ht hW => ⟨⟨_, a0_struck_words_54_7, rfl, h, by rw [ht]; exact hP9, hD9⟩, hS.F ht⟩) hS.2.2 dX4_primesOf_124
                · replace h := h.2 c_12
                  refine lv_iload hx hb dX4_primesOf_79 (lv_at hl 0 rfl) ?_
                  refine lv_iload_n hx hb dX4_primesOf_81 rfl (lv_at hl 6 rfl) ?_
                  refine lv_iload hx hb dX4_primesOf_82 (lv_at hl 0 rfl) ?_
                  obtain ⟨hne_14, h⟩ := h
                  refine lv_idiv hx hb dX4_primesOf_84 hne_14 ?_
                  refine lv_icmp_le (tgt := 91) hx hb dX4_primesOf_85 (by decide) (fun c_15 => ?_) (fun c_15 => ?_)
                  · replace h := h.1 c_15
                    refine lv_iload_n hx hb dX4_primesOf_91 rfl (lv_at hl 5 rfl) ?_
                    refine lv_iload hx hb dX4_primesOf_92 (lv_at hl 0 rfl) ?_
                    obtain ⟨hne_16, h⟩ := h
                    refine lv_irem hx hb dX4_primesOf_94 hne_16 ?_
                    refine lv_if_eq (tgt := 108) hx hb dX4_primesOf_95 (by decide) (fun c_17 => ?_) (fun c_17 => ?_)
                    · replace h := h.1 c_17
                      obtain ⟨x6_18, e_x6_18⟩ : ∃ y : Int32, y = l6_54_7 + (1 : Int32) := ⟨_, rfl⟩
                      replace h := h x6_18 e_x6_18
                      refine lv_iinc (v := x6_18) (lv' := [(6, .int x6_18), (7, .int r_11), (5, .int x5_5), (0, .ref h_a0), (1, .int p1), (2, .int p2), (3, .int p3), (4, .ref h_a4)]) hx hb dX4_primesOf_108 hl (k := 1) rfl (by rw [e_x6_18]; rfl) (by decide) rfl (fun ls hl => ?_)
                      refine lv_goto (tgt := 54) hx hb dX4_primesOf_111 (by decide) ?_
                      exact ih_54_7 x6_18 a0_struck_words_54_7 (Nat.lt_of_lt_of_le h.2 (Nat.le_of_lt_succ hm_54_7)) h.1 _ _ _ (lv_sub hl [0, 2, 3, 4, 5, 6, 7] rfl) (hP.sub [0, 3, 4, 1, 2] rfl) (hD.sub [0, 3, 4, 1, 2] (by decide) rfl) hS
                    · replace h := h.2 c_17
                      refine lv_aload_n hx hb dX4_primesOf_98 rfl (lv_at hl 3 rfl) ?_
                      refine lv_iload hx hb dX4_primesOf_99 (lv_at hl 0 rfl) ?_
                      refine lv_iload_n hx hb dX4_primesOf_101 rfl (lv_at hl 4 rfl) ?_
                      refine lv_iload_n hx hb dX4_primesOf_102 rfl (lv_at hl 5 rfl) ?_
                      refine lv_iload hx hb dX4_primesOf_103 (lv_at hl 2 rfl) ?_
                      have hPc := hP.sub (ws' := [(h_a0, .inr (4, [.ref h_a0_struck])), (h_a0_struck, .inr (0, [.ref q_a0_struck_words])), (q_a0_struck_words, .inl (cJ, 7813, .inr (.inl a0_struck_words_54_7)))]) [0, 1, 2] rfl
                      have hDc := hD.sub (ws' := [(h_a0, .inr (4, [.ref h_a0_struck])), (h_a0_struck, .inr (0, [.ref q_a0_struck_words])), (q_a0_struck_words, .inl (cJ, 7813, .inr (.inl a0_struck_words_54_7)))]) [0, 1, 2] (by decide) rfl
                      have hFc := va_free (wc := [(h_a0, .inr (4, [.ref h_a0_struck])), (h_a0_struck, .inr (0, [.ref q_a0_struck_words])), (q_a0_struck_words, .inl (cJ, 7813, .inr (.inl a0_struck_words_54_7)))]) hD hS hA [0, 1, 2] rfl
                      refine va_callv (va_runV (As := [.int r_11, .int p1, .int p2, .int x5_5]) (rest := []) ⟨hx, hb, hml, hown, hts⟩ (c_X4_strike l dC dI cI cJ cZ _ h_a0 h_a0_struck a0_struck_words_54_7 q_a0_struck_words r_11 p1 p2 x5_5 _ h) (cwV 4 hts gX4_primesOf_X4_strike rfl rfl rfl (by decide +kernel) ⟨Nat.le_of_ble_eq_true rfl, Nat.le_of_ble_eq_true rfl⟩) ⟨pre_fb, va_recv hK hPc (ci := 4) (q0 := 0) rfl rfl, pre_of hPc hDc hK hN⟩ rfl rfl hl.1 rfl (lv_room (Nat.le_of_ble_eq_true rfl)) dX4_primesOf_105 ⟨by first | exact Nat.le_of_ble_eq_true rfl | exact Nat.le_refl _, by first | exact Nat.le_of_ble_eq_true rfl | exact Nat.le_refl _⟩) hS (fun q _ h => hFc q h) hFc (fun u t H1 locs ht hvm h hB hz1 hk1 hS => ?_)
                      obtain ⟨o_19, rfl⟩ : ∃ z, z = u := ⟨_, rfl⟩
                      obtain ⟨hP1, hD1⟩ := hB
                      rw [ht] at hP1
                      try dsimp only at h
                      obtain ⟨hP, hD⟩ := va_join (wr := [(h_a4, .inr (3, [.ref q_a4_table, .int a4_many])), (q_a4_table, .inl (cI, 9592, .inl a4_table))]) (w1 := [(h_a0, .inr (4, [.ref h_a0_struck])), (h_a0_struck, .inr (0, [.ref q_a0_struck_words])), (q_a0_struck_words, .inl (cJ, 7813, .inr (.inl o_19)))]) hP hD [0, 1, 2] [3, 4] rfl rfl (by decide) (by decide) hk1 hFc hP1 hD1
                      generalize H1 = H at hP hS ⊢
                      have hP : va_P (dC, dI) vwCl [(h_a4, .inr (3, [.ref q_a4_table, .int a4_many])), (q_a4_table, .inl (cI, 9592, .inl a4_table)), (h_a0, .inr (4, [.ref h_a0_struck])), (h_a0_struck, .inr (0, [.ref q_a0_struck_words])), (q_a0_struck_words, .inl (cJ, 7813, .inr (.inl o_19)))] H := hP
                      have hD : va_D A [(h_a4, .inr (3, [.ref q_a4_table, .int a4_many])), (q_a4_table, .inl (cI, 9592, .inl a4_table)), (h_a0, .inr (4, [.ref h_a0_struck])), (h_a0_struck, .inr (0, [.ref q_a0_struck_words])), (q_a0_struck_words, .inl (cJ, 7813, .inr (.inl o_19)))] := hD
                      obtain ⟨x6_20, e_x6_20⟩ : ∃ y : Int32, y = l6_54_7 + (1 : Int32) := ⟨_, rfl⟩
                      replace h := h x6_20 e_x6_20
                      refine lv_iinc (v := x6_20) (lv' := [(6, .int x6_20), (7, .int r_11), (5, .int x5_5), (0, .ref h_a0), (1, .int p1), (2, .int p2), (3, .int p3), (4, .ref h_a4)]) hx hb dX4_primesOf_108 hl (k := 1) rfl (by rw [e_x6_20]; rfl) (by decide) rfl (fun ls hl => ?_)
                      refine lv_goto (tgt := 54) hx hb dX4_primesOf_111 (by decide) ?_
                      exact ih_54_7 x6_20 o_19 (Nat.lt_of_lt_of_le h.2 (Nat.le_of_lt_succ hm_54_7)) h.1 _ _ _ (lv_sub hl [0, 2, 3, 4, 5, 6, 7] rfl) (hP.sub [2, 0, 1, 3, 4] rfl) (hD.sub [2, 0, 1, 3, 4] (by decide) rfl) hS
                  · replace h := h.2 c_15
                    refine lv_goto (tgt := 114) hx hb dX4_primesOf_88 (by decide) ?_
                    refine lv_iload hx hb dX4_primesOf_114 (lv_at hl 2 rfl) ?_
                    refine lv_aload_n hx hb dX4_primesOf_116 rfl (lv_at hl 3 rfl) ?_
                    refine va_get (D := (dC, dI)) (ci := 4) (v := .ref h_a0_struck) (C := RX4) (T := TX4) (N := 1) hx hb hts hin_X4 hown hK hP 0 rfl rfl 0 (by decide) hw_5 (fun _ h9 => h9) rfl dX4_primesOf_117 ?_
                    have hPc := hP.sub (ws' := [(h_a0_struck, .inr (0, [.ref q_a0_struck_words])), (q_a0_struck_words, .inl (cJ, 7813, .inr (.inl a0_struck_words_54_7)))]) [1, 2] rfl
                    have hDc := hD.sub (ws' := [(h_a0_struck, .inr (0, [.ref q_a0_struck_words])), (q_a0_struck_words, .inl (cJ, 7813, .inr (.inl a0_struck_words_54_7)))]) [1, 2] (by decide) rfl
                    have hFc := va_free (wc := [(h_a0_struck, .inr (0, [.ref q_a0_struck_words])), (q_a0_struck_words, .inl (cJ, 7813, .inr (.inl a0_struck_words_54_7)))]) hD hS hA [1, 2] rfl
                    refine va_calli (va_runV (As := []) (rest := [.int x5_5]) ⟨hx, hb, hml, hown, hts⟩ (c_X0_tally l dC dI cI cJ cZ _ h_a0_struck 7813 a0_struck_words_54_7 q_a0_struck_words _ h) (cwV 0 hts gX4_primesOf_X0_tally rfl rfl rfl (by decide +kernel) ⟨Nat.le_of_ble_eq_true rfl, Nat.le_of_ble_eq_true rfl⟩) ⟨pre_fb, va_recv hK hPc (ci := 0) (q0 := 0) rfl rfl, pre_of hPc hDc hK hN⟩ rfl rfl hl.1 rfl (lv_room (Nat.le_of_ble_eq_true rfl)) dX4_primesOf_120 ⟨by first | exact Nat.le_of_ble_eq_true rfl | exact Nat.le_refl _, by first | exact Nat.le_of_ble_eq_true rfl | exact Nat.le_refl _⟩) hS (fun q _ h => hFc q h) hFc (fun r_21 u t H1 locs ht hvm h hB hz1 hk1 hS => ?_)
                    obtain ⟨hP1, hD1⟩ := hB
                    rw [ht] at hP1
                    try dsimp only at h
                    obtain ⟨hP, hD⟩ := va_join (wr := [(h_a0, .inr (4, [.ref h_a0_struck])), (h_a4, .inr (3, [.ref q_a4_table, .int a4_many])), (q_a4_table, .inl (cI, 9592, .inl a4_table))]) (w1 := [(h_a0_struck, .inr (0, [.ref q_a0_struck_words])), (q_a0_struck_words, .inl (cJ, 7813, .inr (.inl a0_struck_words_54_7)))]) hP hD [1, 2] [0, 3, 4] rfl rfl (by decide) (by decide) hk1 hFc hP1 hD1
                    generalize H1 = H at hP hS ⊢
                    have hP : va_P (dC, dI) vwCl [(h_a0, .inr (4, [.ref h_a0_struck])), (h_a4, .inr (3, [.ref q_a4_table, .int a4_many])), (q_a4_table, .inl (cI, 9592, .inl a4_table)), (h_a0_struck, .inr (0, [.ref q_a0_struck_words])), (q_a0_struck_words, .inl (cJ, 7813, .inr (.inl a0_struck_words_54_7)))] H := hP
                    have hD : va_D A [(h_a0, .inr (4, [.ref h_a0_struck])), (h_a4, .inr (3, [.ref q_a4_table, .int a4_many])), (q_a4_table, .inl (cI, 9592, .inl a4_table)), (h_a0_struck, .inr (0, [.ref q_a0_struck_words])), (q_a0_struck_words, .inl (cJ, 7813, .inr (.inl a0_struck_words_54_7)))] := hD
                    refine lv_isub hx hb dX4_primesOf_123 ?_
                    have hP9 := hP.sub (ws' := [(h_a0, .inr (4, [.ref h_a0_struck])), (h_a0_struck, .inr (0, [.ref q_a0_struck_words])), (q_a0_struck_words, .inl (cJ, 7813, .inr (.inl a0_struck_words_54_7))), (h_a4, .inr (3, [.ref q_a4_table, .int a4_many])), (q_a4_table, .inl (cI, 9592, .inl a4_table))]) [0, 3, 4, 1, 2] rfl
                    have hD9 := hD.sub (ws' := [(h_a0, .inr (4, [.ref h_a0_struck])), (h_a0_struck, .inr (0, [.ref q_a0_struck_words])), (q_a0_struck_words, .inl (cJ, 7813, .inr (.inl a0_struck_words_54_7))), (h_a4, .inr (3, [.ref q_a4_table, .int a4_many])), (q_a4_table, .inl (cI, 9592, .inl a4_table))]) [0, 3, 4, 1, 2] (by decide) rfl
                    exact W.iret (v := (x5_5 - r_21)) hx hb hr (fun t ht hW => ⟨⟨_, a0_struck_words_54_7, rfl, h, by rw [ht]; exact hP9, hD9⟩, hS.F ht⟩) hS.2.2 dX4_primesOf_124
          exact key_54_7 _ (1 : Int32) o_6 (Nat.lt_succ_self _) h0_54_7 _ _ _ (lv_sub hl [0, 1, 2, 3, 4, 5, 6] rfl) (hP.sub [0, 1, 2, 3, 4] rfl) (hD.sub [0, 1, 2, 3, 4] (by decide) rfl) hS
        · replace h := h.1 c_7
          refine lv_aload_n hx hb dX4_primesOf_43 rfl (lv_at hl 1 rfl) ?_
          refine va_get (D := (dC, dI)) (ci := 4) (v := .ref h_a0_struck) (C := RX4) (T := TX4) (N := 1) hx hb hts hin_X4 hown hK hP 0 rfl rfl 0 (by decide) hw_5 (fun _ h9 => h9) rfl dX4_primesOf_44 ?_
          refine lv_iconst (v := (0 : Int32)) hx hb dX4_primesOf_47 (by decide) ?_
          have hPc := hP.sub (ws' := [(h_a0_struck, .inr (0, [.ref q_a0_struck_words])), (q_a0_struck_words, .inl (cJ, 7813, .inr (.inl o_6)))]) [3, 4] rfl
          have hDc := hD.sub (ws' := [(h_a0_struck, .inr (0, [.ref q_a0_struck_words])), (q_a0_struck_words, .inl (cJ, 7813, .inr (.inl o_6)))]) [3, 4] (by decide) rfl
          have hFc := va_free (wc := [(h_a0_struck, .inr (0, [.ref q_a0_struck_words])), (q_a0_struck_words, .inl (cJ, 7813, .inr (.inl o_6)))]) hD hS hA [3, 4] rfl
          refine va_callv (va_runV (As := [.int (0 : Int32)]) (rest := []) ⟨hx, hb, hml, hown, hts⟩ (c_X0_mark l dC dI cI cJ cZ _ h_a0_struck 7813 o_6 q_a0_struck_words (0 : Int32) _ h) (cwV 1 hts gX4_primesOf_X0_mark rfl rfl rfl (by decide +kernel) ⟨Nat.le_of_ble_eq_true rfl, Nat.le_of_ble_eq_true rfl⟩) ⟨pre_fb, va_recv hK hPc (ci := 0) (q0 := 0) rfl rfl, pre_of hPc hDc hK hN⟩ rfl rfl hl.1 rfl (lv_room (Nat.le_of_ble_eq_true rfl)) dX4_primesOf_48 ⟨by first | exact Nat.le_of_ble_eq_true rfl | exact Nat.le_refl _, by first | exact Nat.le_of_ble_eq_true rfl | exact Nat.le_refl _⟩) hS (fun q _ h => hFc q h) hFc (fun u t H1 locs ht hvm h hB hz1 hk1 hS => ?_)
          obtain ⟨o_22, rfl⟩ : ∃ z, z = u := ⟨_, rfl⟩
          obtain ⟨hP1, hD1⟩ := hB
          rw [ht] at hP1
          try dsimp only at h
          obtain ⟨hP, hD⟩ := va_join (wr := [(h_a0, .inr (4, [.ref h_a0_struck])), (h_a4, .inr (3, [.ref q_a4_table, .int a4_many])), (q_a4_table, .inl (cI, 9592, .inl a4_table))]) (w1 := [(h_a0_struck, .inr (0, [.ref q_a0_struck_words])), (q_a0_struck_words, .inl (cJ, 7813, .inr (.inl o_22)))]) hP hD [3, 4] [0, 1, 2] rfl rfl (by decide) (by decide) hk1 hFc hP1 hD1
          generalize H1 = H at hP hS ⊢
          have hP : va_P (dC, dI) vwCl [(h_a0, .inr (4, [.ref h_a0_struck])), (h_a4, .inr (3, [.ref q_a4_table, .int a4_many])), (q_a4_table, .inl (cI, 9592, .inl a4_table)), (h_a0_struck, .inr (0, [.ref q_a0_struck_words])), (q_a0_struck_words, .inl (cJ, 7813, .inr (.inl o_22)))] H := hP
          have hD : va_D A [(h_a0, .inr (4, [.ref h_a0_struck])), (h_a4, .inr (3, [.ref q_a4_table, .int a4_many])), (q_a4_table, .inl (cI, 9592, .inl a4_table)), (h_a0_struck, .inr (0, [.ref q_a0_struck_words])), (q_a0_struck_words, .inl (cJ, 7813, .inr (.inl o_22)))] := hD
          refine lv_iconst (v := (1 : Int32)) hx hb dX4_primesOf_51 (by decide) ?_
          refine lv_istore (lv' := [(6, .int (1 : Int32)), (5, .int x5_5), (0, .ref h_a0), (1, .int p1), (2, .int p2), (3, .int p3), (4, .ref h_a4)]) hx hb dX4_primesOf_52 hl (by decide) rfl (fun ls hl => ?_)
          obtain ⟨I_54_22, m_54_22, h0_54_22, hs_54_22⟩ := h
          have key_54_22 : ∀ (n : Nat) (l6_54_22 : Int32) (a0_struck_words_54_22 : Nat → Int64), m_54_22 l6_54_22 a0_struck_words_54_22 < n → I_54_22 l6_54_22 a0_struck_words_54_22 → ∀ (ls : Array Slot) (H : Heap) (locs : List Loc), lv_has ls 8 [(6, .int l6_54_22), (5, .int x5_5), (0, .ref h_a0), (1, .int p1), (2, .int p2), (3, .int p3), (4, .ref h_a4)] → va_P (dC, dI) vwCl [(h_a0, .inr (4, [.ref h_a0_struck])), (h_a4, .inr (3, [.ref q_a4_table, .int a4_many])), (q_a4_table, .inl (cI, 9592, .inl a4_table)), (h_a0_struck, .inr (0, [.ref q_a0_struck_words])), (q_a0_struck_words, .inl (cJ, 7813, .inr (.inl a0_struck_words_54_22)))] H → va_D A [(h_a0, .inr (4, [.ref h_a0_struck])), (h_a4, .inr (3, [.ref q_a4_table, .int a4_many])), (q_a4_table, .inl (cI, 9592, .inl a4_table)), (h_a0_struck, .inr (0, [.ref q_a0_struck_words])), (q_a0_struck_words, .inl (cJ, 7813, .inr (.inl a0_struck_words_54_22)))] → va_S A s.heap H locs → W p l e (headSpec wsX4_primesOf rm_X4_primesOf).room s m ([.ref h_a0, .int p1, .int p2, .int p3, .ref h_a4] : List Value).toArray below meth c H locs 0 0 (MQ below (qc_X4_primesOf dC dI cI cJ cZ h_a0 h_a0_struck a0_struck_words q_a0_struck_words h_a4 a4_table q_a4_table a4_many Q A) ([.ref h_a0, .int p1, .int p2, .int p3, .ref h_a4] : List Value).toArray s 0 0 A) (F0 m 54 ls []) := by
            intro n
            induction n with
            | zero =>
              intro l6_54_22 a0_struck_words_54_22 hm
              exact absurd hm (Nat.not_lt_zero _)
            | succ n ih_54_22 =>
              intro l6_54_22 a0_struck_words_54_22 hm_54_22 hI ls H locs hl hP hD hS
              have h := hs_54_22 l6_54_22 a0_struck_words_54_22 hI
              refine lv_iload hx hb dX4_primesOf_54 (lv_at hl 0 rfl) ?_
              refine lv_aload hx hb dX4_primesOf_56 (lv_at hl 6 rfl) ?_
              refine va_getN (D := (dC, dI)) (ci := 3) (v := .int a4_many) (C := RX3) (T := TX3) (N := 2) hx hb hts hin_X3 hown hK hP 1 rfl rfl 1 (by decide) (nw_6 hN) (fun _ h9 => h9) rfl dX4_primesOf_58 ?_
              refine lv_icmp_ge (tgt := 114) hx hb dX4_primesOf_61 (by decide) (fun c_24 => ?_) (fun c_24 => ?_)
              · replace h := h.1 c_24
                refine lv_iload hx hb dX4_primesOf_114 (lv_at hl 1 rfl) ?_
                refine lv_aload_n hx hb dX4_primesOf_116 rfl (lv_at hl 2 rfl) ?_
                refine va_get (D := (dC, dI)) (ci := 4) (v := .ref h_a0_struck) (C := RX4) (T := TX4) (N := 1) hx hb hts hin_X4 hown hK hP 0 rfl rfl 0 (by decide) hw_5 (fun _ h9 => h9) rfl dX4_primesOf_117 ?_
                have hPc := hP.sub (ws' := [(h_a0_struck, .inr (0, [.ref q_a0_struck_words])), (q_a0_struck_words, .inl (cJ, 7813, .inr (.inl a0_struck_words_54_22)))]) [3, 4] rfl
                have hDc := hD.sub (ws' := [(h_a0_struck, .inr (0, [.ref q_a0_struck_words])), (q_a0_struck_words, .inl (cJ, 7813, .inr (.inl a0_struck_words_54_22)))]) [3, 4] (by decide) rfl
                have hFc := va_free (wc := [(h_a0_struck, .inr (0, [.ref q_a0_struck_words])), (q_a0_struck_words, .inl (cJ, 7813, .inr (.inl a0_struck_words_54_22)))]) hD hS hA [3, 4] rfl
                refine va_calli (va_runV (As := []) (rest := [.int x5_5]) ⟨hx, hb, hml, hown, hts⟩ (c_X0_tally l dC dI cI cJ cZ _ h_a0_struck 7813 a0_struck_words_54_22 q_a0_struck_words _ h) (cwV 0 hts gX4_primesOf_X0_tally rfl rfl rfl (by decide +kernel) ⟨Nat.le_of_ble_eq_true rfl, Nat.le_of_ble_eq_true rfl⟩) ⟨pre_fb, va_recv hK hPc (ci := 0) (q0 := 0) rfl rfl, pre_of hPc hDc hK hN⟩ rfl rfl hl.1 rfl (lv_room (Nat.le_of_ble_eq_true rfl)) dX4_primesOf_120 ⟨by first | exact Nat.le_of_ble_eq_true rfl | exact Nat.le_refl _, by first | exact Nat.le_of_ble_eq_true rfl | exact Nat.le_refl _⟩) hS (fun q _ h => hFc q h) hFc (fun r_25 u t H1 locs ht hvm h hB hz1 hk1 hS => ?_)
                obtain ⟨hP1, hD1⟩ := hB
                rw [ht] at hP1
                try dsimp only at h
                obtain ⟨hP, hD⟩ := va_join (wr := [(h_a0, .inr (4, [.ref h_a0_struck])), (h_a4, .inr (3, [.ref q_a4_table, .int a4_many])), (q_a4_table, .inl (cI, 9592, .inl a4_table))]) (w1 := [(h_a0_struck, .inr (0, [.ref q_a0_struck_words])), (q_a0_struck_words, .inl (cJ, 7813, .inr (.inl a0_struck_words_54_22)))]) hP hD [3, 4] [0, 1, 2] rfl rfl (by decide) (by decide) hk1 hFc hP1 hD1
                generalize H1 = H at hP hS ⊢
                have hP : va_P (dC, dI) vwCl [(h_a0, .inr (4, [.ref h_a0_struck])), (h_a4, .inr (3, [.ref q_a4_table, .int a4_many])), (q_a4_table, .inl (cI, 9592, .inl a4_table)), (h_a0_struck, .inr (0, [.ref q_a0_struck_words])), (q_a0_struck_words, .inl (cJ, 7813, .inr (.inl a0_struck_words_54_22)))] H := hP
                have hD : va_D A [(h_a0, .inr (4, [.ref h_a0_struck])), (h_a4, .inr (3, [.ref q_a4_table, .int a4_many])), (q_a4_table, .inl (cI, 9592, .inl a4_table)), (h_a0_struck, .inr (0, [.ref q_a0_struck_words])), (q_a0_struck_words, .inl (cJ, 7813, .inr (.inl a0_struck_words_54_22)))] := hD
                refine lv_isub hx hb dX4_primesOf_123 ?_
                have hP9 := hP.sub (ws' := [(h_a0, .inr (4, [.ref h_a0_struck])), (h_a0_struck, .inr (0, [.ref q_a0_struck_words])), (q_a0_struck_words, .inl (cJ, 7813, .inr (.inl a0_struck_words_54_22))), (h_a4, .inr (3, [.ref q_a4_table, .int a4_many])), (q_a4_table, .inl (cI, 9592, .inl a4_table))]) [0, 3, 4, 1, 2] rfl
                have hD9 := hD.sub (ws' := [(h_a0, .inr (4, [.ref h_a0_struck])), (h_a0_struck, .inr (0, [.ref q_a0_struck_words])), (q_a0_struck_words, .inl (cJ, 7813, .inr (.inl a0_struck_words_54_22))), (h_a4, .inr (3, [.ref q_a4_table, .int a4_many])), (q_a4_table, .inl (cI, 9592, .inl a4_table))]) [0, 3, 4, 1, 2] (by decide) rfl
                exact W.iret (v := (x5_5 - r_25)) hx hb hr (fun t ht hW => ⟨⟨_, a0_struck_words_54_22, rfl, h, by rw [ht]; exact hP9, hD9⟩, hS.F ht⟩) hS.2.2 dX4_primesOf_124
              · replace h := h.2 c_24
                refine lv_aload hx hb dX4_primesOf_64 (lv_at hl 6 rfl) ?_
                refine lv_iload hx hb dX4_primesOf_66 (lv_at hl 0 rfl) ?_
                have hPc := hP.sub (ws' := [(h_a4, .inr (3, [.ref q_a4_table, .int a4_many])), (q_a4_table, .inl (cI, 9592, .inl a4_table))]) [1, 2] rfl
                have hDc := hD.sub (ws' := [(h_a4, .inr (3, [.ref q_a4_table, .int a4_many])), (q_a4_table, .inl (cI, 9592, .inl a4_table))]) [1, 2] (by decide) rfl
                have hFc := va_free (wc := [(h_a4, .inr (3, [.ref q_a4_table, .int a4_many])), (q_a4_table, .inl (cI, 9592, .inl a4_table))]) hD hS hA [1, 2] rfl
                refine va_calli (va_runV (As := [.int l6_54_22]) (rest := []) ⟨hx, hb, hml, hown, hts⟩ (c_X3_nth l dC dI cI cJ cZ _ h_a4 a4_table q_a4_table a4_many l6_54_22 _ h) (cwV 1 hts gX4_primesOf_X3_nth rfl rfl rfl (by decide +kernel) ⟨Nat.le_of_ble_eq_true rfl, Nat.le_of_ble_eq_true rfl⟩) ⟨pre_fb, va_recv hK hPc (ci := 3) (q0 := 0) rfl rfl, pre_of hPc hDc hK hN⟩ rfl rfl hl.1 rfl (lv_room (Nat.le_of_ble_eq_true rfl)) dX4_primesOf_68 ⟨by first | exact Nat.le_of_ble_eq_true rfl | exact Nat.le_refl _, by first | exact Nat.le_of_ble_eq_true rfl | exact Nat.le_refl _⟩) hS (fun q _ h => hFc q h) hFc (fun r_26 u t H1 locs ht hvm h hB hz1 hk1 hS => ?_)
                obtain ⟨hP1, hD1⟩ := hB
                rw [ht] at hP1
                try dsimp only at h
                obtain ⟨hP, hD⟩ := va_join (wr := [(h_a0, .inr (4, [.ref h_a0_struck])), (h_a0_struck, .inr (0, [.ref q_a0_struck_words])), (q_a0_struck_words, .inl (cJ, 7813, .inr (.inl a0_struck_words_54_22)))]) (w1 := [(h_a4, .inr (3, [.ref q_a4_table, .int a4_many])), (q_a4_table, .inl (cI, 9592, .inl a4_table))]) hP hD [1, 2] [0, 3, 4] rfl rfl (by decide) (by decide) hk1 hFc hP1 hD1
                generalize H1 = H at hP hS ⊢
                have hP : va_P (dC, dI) vwCl [(h_a0, .inr (4, [.ref h_a0_struck])), (h_a0_struck, .inr (0, [.ref q_a0_struck_words])), (q_a0_struck_words, .inl (cJ, 7813, .inr (.inl a0_struck_words_54_22))), (h_a4, .inr (3, [.ref q_a4_table, .int a4_many])), (q_a4_table, .inl (cI, 9592, .inl a4_table))] H := hP
                have hD : va_D A [(h_a0, .inr (4, [.ref h_a0_struck])), (h_a0_struck, .inr (0, [.ref q_a0_struck_words])), (q_a0_struck_words, .inl (cJ, 7813, .inr (.inl a0_struck_words_54_22))), (h_a4, .inr (3, [.ref q_a4_table, .int a4_many])), (q_a4_table, .inl (cI, 9592, .inl a4_table))] := hD
                refine lv_istore (lv' := [(7, .int r_26), (6, .int l6_54_22), (5, .int x5_5), (0, .ref h_a0), (1, .int p1), (2, .int p2), (3, .int p3), (4, .ref h_a4)]) hx hb dX4_primesOf_71 hl (by decide) rfl (fun ls hl => ?_)
                refine lv_iload hx hb dX4_primesOf_73 (lv_at hl 0 rfl) ?_
                refine lv_iconst (v := (3 : Int32)) hx hb dX4_primesOf_75 (by decide) ?_
                refine lv_icmp_lt (tgt := 114) hx hb dX4_primesOf_76 (by decide) (fun c_27 => ?_) (fun c_27 => ?_)
                · replace h := h.1 c_27
                  refine lv_iload hx hb dX4_primesOf_114 (lv_at hl 2 rfl) ?_
                  refine lv_aload_n hx hb dX4_primesOf_116 rfl (lv_at hl 3 rfl) ?_
                  refine va_get (D := (dC, dI)) (ci := 4) (v := .ref h_a0_struck) (C := RX4) (T := TX4) (N := 1) hx hb hts hin_X4 hown hK hP 0 rfl rfl 0 (by decide) hw_5 (fun _ h9 => h9) rfl dX4_primesOf_117 ?_
                  have hPc := hP.sub (ws' := [(h_a0_struck, .inr (0, [.ref q_a0_struck_words])), (q_a0_struck_words, .inl (cJ, 7813, .inr (.inl a0_struck_words_54_22)))]) [1, 2] rfl
                  have hDc := hD.sub (ws' := [(h_a0_struck, .inr (0, [.ref q_a0_struck_words])), (q_a0_struck_words, .inl (cJ, 7813, .inr (.inl a0_struck_words_54_22)))]) [1, 2] (by decide) rfl
                  have hFc := va_free (wc := [(h_a0_struck, .inr (0, [.ref q_a0_struck_words])), (q_a0_struck_words, .inl (cJ, 7813, .inr (.inl a0_struck_words_54_22)))]) hD hS hA [1, 2] rfl
                  refine va_calli (va_runV (As := []) (rest := [.int x5_5]) ⟨hx, hb, hml, hown, hts⟩ (c_X0_tally l dC dI cI cJ cZ _ h_a0_struck 7813 a0_struck_words_54_22 q_a0_struck_words _ h) (cwV 0 hts gX4_primesOf_X0_tally rfl rfl rfl (by decide +kernel) ⟨Nat.le_of_ble_eq_true rfl, Nat.le_of_ble_eq_true rfl⟩) ⟨pre_fb, va_recv hK hPc (ci := 0) (q0 := 0) rfl rfl, pre_of hPc hDc hK hN⟩ rfl rfl hl.1 rfl (lv_room (Nat.le_of_ble_eq_true rfl)) dX4_primesOf_120 ⟨by first | exact Nat.le_of_ble_eq_true rfl | exact Nat.le_refl _, by first | exact Nat.le_of_ble_eq_true rfl | exact Nat.le_refl _⟩) hS (fun q _ h => hFc q h) hFc (fun r_28 u t H1 locs ht hvm h hB hz1 hk1 hS => ?_)
                  obtain ⟨hP1, hD1⟩ := hB
                  rw [ht] at hP1
                  try dsimp only at h
                  obtain ⟨hP, hD⟩ := va_join (wr := [(h_a0, .inr (4, [.ref h_a0_struck])), (h_a4, .inr (3, [.ref q_a4_table, .int a4_many])), (q_a4_table, .inl (cI, 9592, .inl a4_table))]) (w1 := [(h_a0_struck, .inr (0, [.ref q_a0_struck_words])), (q_a0_struck_words, .inl (cJ, 7813, .inr (.inl a0_struck_words_54_22)))]) hP hD [1, 2] [0, 3, 4] rfl rfl (by decide) (by decide) hk1 hFc hP1 hD1
                  generalize H1 = H at hP hS ⊢
                  have hP : va_P (dC, dI) vwCl [(h_a0, .inr (4, [.ref h_a0_struck])), (h_a4, .inr (3, [.ref q_a4_table, .int a4_many])), (q_a4_table, .inl (cI, 9592, .inl a4_table)), (h_a0_struck, .inr (0, [.ref q_a0_struck_words])), (q_a0_struck_words, .inl (cJ, 7813, .inr (.inl a0_struck_words_54_22)))] H := hP
                  have hD : va_D A [(h_a0, .inr (4, [.ref h_a0_struck])), (h_a4, .inr (3, [.ref q_a4_table, .int a4_many])), (q_a4_table, .inl (cI, 9592, .inl a4_table)), (h_a0_struck, .inr (0, [.ref q_a0_struck_words])), (q_a0_struck_words, .inl (cJ, 7813, .inr (.inl a0_struck_words_54_22)))] := hD
                  refine lv_isub hx hb dX4_primesOf_123 ?_
                  have hP9 := hP.sub (ws' := [(h_a0, .inr (4, [.ref h_a0_struck])), (h_a0_struck, .inr (0, [.ref q_a0_struck_words])), (q_a0_struck_words, .inl (cJ, 7813, .inr (.inl a0_struck_words_54_22))), (h_a4, .inr (3, [.ref q_a4_table, .int a4_many])), (q_a4_table, .inl (cI, 9592, .inl a4_table))]) [0, 3, 4, 1, 2] rfl
                  have hD9 := hD.sub (ws' := [(h_a0, .inr (4, [.ref h_a0_struck])), (h_a0_struck, .inr (0, [.ref q_a0_struck_words])), (q_a0_struck_words, .inl (cJ, 7813, .inr (.inl a0_struck_words_54_22))), (h_a4, .inr (3, [.ref q_a4_table, .int a4_many])), (q_a4_table, .inl (cI, 9592, .inl a4_table))]) [0, 3, 4, 1, 2] (by decide) rfl
                  exact W.iret (v := (x5_5 - r_28)) hx hb hr (fun t ht hW => ⟨⟨_, a0_struck_words_54_22, rfl, h, by rw [ht]; exact hP9, hD9⟩, hS.F ht⟩) hS.2.2 dX4_primesOf_124
                · replace h := h.2 c_27
                  refine lv_iload hx hb dX4_primesOf_79 (lv_at hl 0 rfl) ?_
                  refine lv_iload_n hx hb dX4_primesOf_81 rfl (lv_at hl 6 rfl) ?_
                  refine lv_iload hx hb dX4_primesOf_82 (lv_at hl 0 rfl) ?_
                  obtain ⟨hne_29, h⟩ := h
                  refine lv_idiv hx hb dX4_primesOf_84 hne_29 ?_
                  refine lv_icmp_le (tgt := 91) hx hb dX4_primesOf_85 (by decide) (fun c_30 => ?_) (fun c_30 => ?_)
                  · replace h := h.1 c_30
                    refine lv_iload_n hx hb dX4_primesOf_91 rfl (lv_at hl 5 rfl) ?_
                    refine lv_iload hx hb dX4_primesOf_92 (lv_at hl 0 rfl) ?_
                    obtain ⟨hne_31, h⟩ := h
                    refine lv_irem hx hb dX4_primesOf_94 hne_31 ?_
                    refine lv_if_eq (tgt := 108) hx hb dX4_primesOf_95 (by decide) (fun c_32 => ?_) (fun c_32 => ?_)
                    · replace h := h.1 c_32
                      obtain ⟨x6_33, e_x6_33⟩ : ∃ y : Int32, y = l6_54_22 + (1 : Int32) := ⟨_, rfl⟩
                      replace h := h x6_33 e_x6_33
                      refine lv_iinc (v := x6_33) (lv' := [(6, .int x6_33), (7, .int r_26), (5, .int x5_5), (0, .ref h_a0), (1, .int p1), (2, .int p2), (3, .int p3), (4, .ref h_a4)]) hx hb dX4_primesOf_108 hl (k := 1) rfl (by rw [e_x6_33]; rfl) (by decide) rfl (fun ls hl => ?_)
                      refine lv_goto (tgt := 54) hx hb dX4_primesOf_111 (by decide) ?_
                      exact ih_54_22 x6_33 a0_struck_words_54_22 (Nat.lt_of_lt_of_le h.2 (Nat.le_of_lt_succ hm_54_22)) h.1 _ _ _ (lv_sub hl [0, 2, 3, 4, 5, 6, 7] rfl) (hP.sub [0, 3, 4, 1, 2] rfl) (hD.sub [0, 3, 4, 1, 2] (by decide) rfl) hS
                    · replace h := h.2 c_32
                      refine lv_aload_n hx hb dX4_primesOf_98 rfl (lv_at hl 3 rfl) ?_
                      refine lv_iload hx hb dX4_primesOf_99 (lv_at hl 0 rfl) ?_
                      refine lv_iload_n hx hb dX4_primesOf_101 rfl (lv_at hl 4 rfl) ?_
                      refine lv_iload_n hx hb dX4_primesOf_102 rfl (lv_at hl 5 rfl) ?_
                      refine lv_iload hx hb dX4_primesOf_103 (lv_at hl 2 rfl) ?_
                      have hPc := hP.sub (ws' := [(h_a0, .inr (4, [.ref h_a0_struck])), (h_a0_struck, .inr (0, [.ref q_a0_struck_words])), (q_a0_struck_words, .inl (cJ, 7813, .inr (.inl a0_struck_words_54_22)))]) [0, 1, 2] rfl
                      have hDc := hD.sub (ws' := [(h_a0, .inr (4, [.ref h_a0_struck])), (h_a0_struck, .inr (0, [.ref q_a0_struck_words])), (q_a0_struck_words, .inl (cJ, 7813, .inr (.inl a0_struck_words_54_22)))]) [0, 1, 2] (by decide) rfl
                      have hFc := va_free (wc := [(h_a0, .inr (4, [.ref h_a0_struck])), (h_a0_struck, .inr (0, [.ref q_a0_struck_words])), (q_a0_struck_words, .inl (cJ, 7813, .inr (.inl a0_struck_words_54_22)))]) hD hS hA [0, 1, 2] rfl
                      refine va_callv (va_runV (As := [.int r_26, .int p1, .int p2, .int x5_5]) (rest := []) ⟨hx, hb, hml, hown, hts⟩ (c_X4_strike l dC dI cI cJ cZ _ h_a0 h_a0_struck a0_struck_words_54_22 q_a0_struck_words r_26 p1 p2 x5_5 _ h) (cwV 4 hts gX4_primesOf_X4_strike rfl rfl rfl (by decide +kernel) ⟨Nat.le_of_ble_eq_true rfl, Nat.le_of_ble_eq_true rfl⟩) ⟨pre_fb, va_recv hK hPc (ci := 4) (q0 := 0) rfl rfl, pre_of hPc hDc hK hN⟩ rfl rfl hl.1 rfl (lv_room (Nat.le_of_ble_eq_true rfl)) dX4_primesOf_105 ⟨by first | exact Nat.le_of_ble_eq_true rfl | exact Nat.le_refl _, by first | exact Nat.le_of_ble_eq_true rfl | exact Nat.le_refl _⟩) hS (fun q _ h => hFc q h) hFc (fun u t H1 locs ht hvm h hB hz1 hk1 hS => ?_)
                      obtain ⟨o_34, rfl⟩ : ∃ z, z = u := ⟨_, rfl⟩
                      obtain ⟨hP1, hD1⟩ := hB
                      rw [ht] at hP1
                      try dsimp only at h
                      obtain ⟨hP, hD⟩ := va_join (wr := [(h_a4, .inr (3, [.ref q_a4_table, .int a4_many])), (q_a4_table, .inl (cI, 9592, .inl a4_table))]) (w1 := [(h_a0, .inr (4, [.ref h_a0_struck])), (h_a0_struck, .inr (0, [.ref q_a0_struck_words])), (q_a0_struck_words, .inl (cJ, 7813, .inr (.inl o_34)))]) hP hD [0, 1, 2] [3, 4] rfl rfl (by decide) (by decide) hk1 hFc hP1 hD1
                      generalize H1 = H at hP hS ⊢
                      have hP : va_P (dC, dI) vwCl [(h_a4, .inr (3, [.ref q_a4_table, .int a4_many])), (q_a4_table, .inl (cI, 9592, .inl a4_table)), (h_a0, .inr (4, [.ref h_a0_struck])), (h_a0_struck, .inr (0, [.ref q_a0_struck_words])), (q_a0_struck_words, .inl (cJ, 7813, .inr (.inl o_34)))] H := hP
                      have hD : va_D A [(h_a4, .inr (3, [.ref q_a4_table, .int a4_many])), (q_a4_table, .inl (cI, 9592, .inl a4_table)), (h_a0, .inr (4, [.ref h_a0_struck])), (h_a0_struck, .inr (0, [.ref q_a0_struck_words])), (q_a0_struck_words, .inl (cJ, 7813, .inr (.inl o_34)))] := hD
                      obtain ⟨x6_35, e_x6_35⟩ : ∃ y : Int32, y = l6_54_22 + (1 : Int32) := ⟨_, rfl⟩
                      replace h := h x6_35 e_x6_35
                      refine lv_iinc (v := x6_35) (lv' := [(6, .int x6_35), (7, .int r_26), (5, .int x5_5), (0, .ref h_a0), (1, .int p1), (2, .int p2), (3, .int p3), (4, .ref h_a4)]) hx hb dX4_primesOf_108 hl (k := 1) rfl (by rw [e_x6_35]; rfl) (by decide) rfl (fun ls hl => ?_)
                      refine lv_goto (tgt := 54) hx hb dX4_primesOf_111 (by decide) ?_
                      exact ih_54_22 x6_35 o_34 (Nat.lt_of_lt_of_le h.2 (Nat.le_of_lt_succ hm_54_22)) h.1 _ _ _ (lv_sub hl [0, 2, 3, 4, 5, 6, 7] rfl) (hP.sub [2, 0, 1, 3, 4] rfl) (hD.sub [2, 0, 1, 3, 4] (by decide) rfl) hS
                  · replace h := h.2 c_30
                    refine lv_goto (tgt := 114) hx hb dX4_primesOf_88 (by decide) ?_
                    refine lv_iload hx hb dX4_primesOf_114 (lv_at hl 2 rfl) ?_
                    refine lv_aload_n hx hb dX4_primesOf_116 rfl (lv_at hl 3 rfl) ?_
                    refine va_get (D := (dC, dI)) (ci := 4) (v := .ref h_a0_struck) (C := RX4) (T := TX4) (N := 1) hx hb hts hin_X4 hown hK hP 0 rfl rfl 0 (by decide) hw_5 (fun _ h9 => h9) rfl dX4_primesOf_117 ?_
                    have hPc := hP.sub (ws' := [(h_a0_struck, .inr (0, [.ref q_a0_struck_words])), (q_a0_struck_words, .inl (cJ, 7813, .inr (.inl a0_struck_words_54_22)))]) [1, 2] rfl
                    have hDc := hD.sub (ws' := [(h_a0_struck, .inr (0, [.ref q_a0_struck_words])), (q_a0_struck_words, .inl (cJ, 7813, .inr (.inl a0_struck_words_54_22)))]) [1, 2] (by decide) rfl
                    have hFc := va_free (wc := [(h_a0_struck, .inr (0, [.ref q_a0_struck_words])), (q_a0_struck_words, .inl (cJ, 7813, .inr (.inl a0_struck_words_54_22)))]) hD hS hA [1, 2] rfl
                    refine va_calli (va_runV (As := []) (rest := [.int x5_5]) ⟨hx, hb, hml, hown, hts⟩ (c_X0_tally l dC dI cI cJ cZ _ h_a0_struck 7813 a0_struck_words_54_22 q_a0_struck_words _ h) (cwV 0 hts gX4_primesOf_X0_tally rfl rfl rfl (by decide +kernel) ⟨Nat.le_of_ble_eq_true rfl, Nat.le_of_ble_eq_true rfl⟩) ⟨pre_fb, va_recv hK hPc (ci := 0) (q0 := 0) rfl rfl, pre_of hPc hDc hK hN⟩ rfl rfl hl.1 rfl (lv_room (Nat.le_of_ble_eq_true rfl)) dX4_primesOf_120 ⟨by first | exact Nat.le_of_ble_eq_true rfl | exact Nat.le_refl _, by first | exact Nat.le_of_ble_eq_true rfl | exact Nat.le_refl _⟩) hS (fun q _ h => hFc q h) hFc (fun r_36 u t H1 locs ht hvm h hB hz1 hk1 hS => ?_)
                    obtain ⟨hP1, hD1⟩ := hB
                    rw [ht] at hP1
                    try dsimp only at h
                    obtain ⟨hP, hD⟩ := va_join (wr := [(h_a0, .inr (4, [.ref h_a0_struck])), (h_a4, .inr (3, [.ref q_a4_table, .int a4_many])), (q_a4_table, .inl (cI, 9592, .inl a4_table))]) (w1 := [(h_a0_struck, .inr (0, [.ref q_a0_struck_words])), (q_a0_struck_words, .inl (cJ, 7813, .inr (.inl a0_struck_words_54_22)))]) hP hD [1, 2] [0, 3, 4] rfl rfl (by decide) (by decide) hk1 hFc hP1 hD1
                    generalize H1 = H at hP hS ⊢
                    have hP : va_P (dC, dI) vwCl [(h_a0, .inr (4, [.ref h_a0_struck])), (h_a4, .inr (3, [.ref q_a4_table, .int a4_many])), (q_a4_table, .inl (cI, 9592, .inl a4_table)), (h_a0_struck, .inr (0, [.ref q_a0_struck_words])), (q_a0_struck_words, .inl (cJ, 7813, .inr (.inl a0_struck_words_54_22)))] H := hP
                    have hD : va_D A [(h_a0, .inr (4, [.ref h_a0_struck])), (h_a4, .inr (3, [.ref q_a4_table, .int a4_many])), (q_a4_table, .inl (cI, 9592, .inl a4_table)), (h_a0_struck, .inr (0, [.ref q_a0_struck_words])), (q_a0_struck_words, .inl (cJ, 7813, .inr (.inl a0_struck_words_54_22)))] := hD
                    refine lv_isub hx hb dX4_primesOf_123 ?_
                    have hP9 := hP.sub (ws' := [(h_a0, .inr (4, [.ref h_a0_struck])), (h_a0_struck, .inr (0, [.ref q_a0_struck_words])), (q_a0_struck_words, .inl (cJ, 7813, .inr (.inl a0_struck_words_54_22))), (h_a4, .inr (3, [.ref q_a4_table, .int a4_many])), (q_a4_table, .inl (cI, 9592, .inl a4_table))]) [0, 3, 4, 1, 2] rfl
                    have hD9 := hD.sub (ws' := [(h_a0, .inr (4, [.ref h_a0_struck])), (h_a0_struck, .inr (0, [.ref q_a0_struck_words])), (q_a0_struck_words, .inl (cJ, 7813, .inr (.inl a0_struck_words_54_22))), (h_a4, .inr (3, [.ref q_a4_table, .int a4_many])), (q_a4_table, .inl (cI, 9592, .inl a4_table))]) [0, 3, 4, 1, 2] (by decide) rfl
                    exact W.iret (v := (x5_5 - r_36)) hx hb hr (fun t ht hW => ⟨⟨_, a0_struck_words_54_22, rfl, h, by rw [ht]; exact hP9, hD9⟩, hS.F ht⟩) hS.2.2 dX4_primesOf_124
          exact key_54_22 _ (1 : Int32) o_22 (Nat.lt_succ_self _) h0_54_22 _ _ _ (lv_sub hl [0, 1, 2, 3, 4, 5, 6] rfl) (hP.sub [0, 1, 2, 3, 4] rfl) (hD.sub [0, 1, 2, 3, 4] (by decide) rfl) hS
      · replace h := h.2 c_3
        refine lv_iconst (v := (0 : Int32)) hx hb dX4_primesOf_15 (by decide) ?_
        have hP9 := hP.sub (ws' := [(h_a0, .inr (4, [.ref h_a0_struck])), (h_a0_struck, .inr (0, [.ref q_a0_struck_words])), (q_a0_struck_words, .inl (cJ, 7813, .inr (.inl a0_struck_words))), (h_a4, .inr (3, [.ref q_a4_table, .int a4_many])), (q_a4_table, .inl (cI, 9592, .inl a4_table))]) [0, 1, 2, 3, 4] rfl
        have hD9 := hD.sub (ws' := [(h_a0, .inr (4, [.ref h_a0_struck])), (h_a0_struck, .inr (0, [.ref q_a0_struck_words])), (q_a0_struck_words, .inl (cJ, 7813, .inr (.inl a0_struck_words))), (h_a4, .inr (3, [.ref q_a4_table, .int a4_many])), (q_a4_table, .inl (cI, 9592, .inl a4_table))]) [0, 1, 2, 3, 4] (by decide) rfl
        exact W.iret (v := (0 : Int32)) hx hb hr (fun t ht hW => ⟨⟨_, a0_struck_words, rfl, h, by rw [ht]; exact hP9, hD9⟩, hS.F ht⟩) hS.2.2 dX4_primesOf_16

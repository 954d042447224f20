def wp_X7_root  (p0 : Int64) (Q : Int64 → Prop) : Prop :=
  (∃ (I_6_0 : Int32 → Int64 → Prop) (m_6_0 : Int32 → Int64 → Nat), I_6_0 (16 : Int32) (0 : Int64) ∧ ∀ (l4_6_0 : Int32) (l2_6_0 : Int64), I_6_0 l4_6_0 l2_6_0 → ((l4_6_0 < (0 : Int32) → Q l2_6_0) ∧ (¬ l4_6_0 < (0 : Int32) → (∀ x5_3 : Int64, x5_3 = (l2_6_0 ||| ((1 : Int64) <<< (l4_6_0.toInt64 &&& 63))) → ((p0 < (x5_3 * x5_3) → (∀ x4_5 : Int32, x4_5 = l4_6_0 + (-1 : Int32) → (I_6_0 x4_5 l2_6_0 ∧ m_6_0 x4_5 l2_6_0 < m_6_0 l4_6_0 l2_6_0))) ∧ (¬ p0 < (x5_3 * x5_3) → (∀ x4_6 : Int32, x4_6 = l4_6_0 + (-1 : Int32) → (I_6_0 x4_6 x5_3 ∧ m_6_0 x4_6 x5_3 < m_6_0 l4_6_0 l2_6_0))))))))
abbrev rm_X7_root : Room := { frames := 0, cells := 0, slots := 0, locals := 0 }
abbrev qc_X7_root (dC : Nat → ClassId) (dI : Nat → Nat → Nat) (cI cJ cZ : ClassId)  (Q : Int64 → Prop) (A : Nat → Prop) : Array Value → State → Outcome → State → Prop := va_Ql (fun (r : Int64) (_ : Unit) => Q r) (post_ dC dI A (fun (_ : Unit) => ([] : va_W))) A
set_option maxHeartbeats 4000000 in
set_option maxRecDepth 100000 in
theorem c_X7_root (l : Launch) (dC : Nat → ClassId) (dI : Nat → Nat → Nat) (cI cJ cZ : ClassId) (sz : Nat)  (p0 : Int64) (Q : Int64 → Prop) (hQ : wp_X7_root p0 Q) : Met l yX7_root wsX7_root rm_X7_root (pre_ dC dI cI cJ cZ [.long p0] ([] : va_W) sz) (qc_X7_root dC dI cI cJ cZ Q (va_A ([] : va_W) sz)) 0 0 (va_A ([] : va_W) sz) := by
  refine Met.ofW (cc := cX7_root) (maxL := 7) (ret := (some .long)) (by decide) rfl ?_
  intro p e s m args below meth c s₁ B hml hv
  obtain ⟨rfl, hsz, hP, hK, hN, hD0⟩ := hv
  have hx := B.exec
  have hb := B.bytes
  have hr := B.returns
  have hts := atoms_spec (ws := wsX7_root) B.pre
  have hown : s.vm.findClass RX7 = some m.cls := findClass_of_methodNamed B.named
  subst hsz
  have hD := hD0.self (sz := s.heap.size)
  generalize hAe : va_A ([] : va_W) s.heap.size = A at hD ⊢
  have hA : ∀ q : Nat, s.heap.size ≤ q → A q := fun q h => by rw [← hAe]; exact Or.inr h
  have hS : va_S A s.heap s.heap [] := va_S.rf
  have hl := lv_entry ([.long p0]) (n := 7) (Nat.le_of_ble_eq_true rfl)
  rw [lg_entry_eq]
  generalize (lg_sl ([.long p0]) ++ List.replicate (7 - (lg_sl ([.long p0])).length) Slot.unset).toArray = ls at hl ⊢
  have hl : lv_has ls 7 [(0, .long p0)] := hl
  have h := hQ
  unfold wp_X7_root at h
  refine lv_lconst (v := (0 : Int64)) hx hb dX7_root_0 (by decide) ?_
  refine lv_lstore_n (lv' := [(2, .long (0 : Int64)), (0, .long p0)]) hx hb dX7_root_1 rfl hl (by decide) rfl (fun ls hl => ?_)
  refine lv_bipush (v := (16 : Int32)) hx hb dX7_root_2 (by decide) ?_
  refine lv_istore (lv' := [(4, .int (16 : Int32)), (2, .long (0 : Int64)), (0, .long p0)]) hx hb dX7_root_4 hl (by decide) rfl (fun ls hl => ?_)
  obtain ⟨I_6_0, m_6_0, h0_6_0, hs_6_0⟩ := h
  have key_6_0 : ∀ (n : Nat) (l4_6_0 : Int32) (l2_6_0 : Int64), m_6_0 l4_6_0 l2_6_0 < n → I_6_0 l4_6_0 l2_6_0 → ∀ (ls : Array Slot) (H : Heap) (locs : List Loc), lv_has ls 7 [(4, .int l4_6_0), (2, .long l2_6_0), (0, .long p0)] → va_P (dC, dI) vwCl [] H → va_D A [] → va_S A s.heap H locs → W p l e (headSpec wsX7_root rm_X7_root).room s m ([.long p0] : List Value).toArray below meth c H locs 0 0 (MQ below (qc_X7_root dC dI cI cJ cZ Q A) ([.long p0] : List Value).toArray s 0 0 A) (F0 m 6 ls []) := by
    intro n
    induction n with
    | zero =>
      intro l4_6_0 l2_6_0 hm
      exact absurd hm (Nat.not_lt_zero _)
    | succ n ih_6_0 =>
      intro l4_6_0 l2_6_0 hm_6_0 hI ls H locs hl hP hD hS
      have h := hs_6_0 l4_6_0 l2_6_0 hI
      refine lv_iload hx hb dX7_root_6 (lv_at hl 0 rfl) ?_
      refine lv_if_lt (tgt := 38) hx hb dX7_root_8 (by decide) (fun c_2 => ?_) (fun c_2 => ?_)
      · replace h := h.1 c_2
        refine lv_lload_n hx hb dX7_root_38 rfl (lv_at hl 1 rfl) ?_
        have hP9 := hP.sub (ws' := []) [] rfl
        have hD9 := hD.sub (ws' := []) [] (by decide) rfl
        exact W.lret (v := l2_6_0) hx hb hr (fun t ht hW => ⟨⟨_, (), rfl, h, by rw [ht]; exact hP9, hD9⟩, hS.F ht⟩) hS.2.2 dX7_root_39
      · replace h := h.2 c_2
        refine lv_lload_n hx hb dX7_root_11 rfl (lv_at hl 1 rfl) ?_
        refine lv_lconst (v := (1 : Int64)) hx hb dX7_root_12 (by decide) ?_
        refine lv_iload hx hb dX7_root_13 (lv_at hl 0 rfl) ?_
        refine lv_lshl hx hb dX7_root_15 rfl ?_
        refine lv_lor hx hb dX7_root_16 ?_
        refine lv_topl (fun x5_3 e_x5_3 => ?_)
        replace h := h x5_3 e_x5_3
        refine lv_lstore (lv' := [(5, .long x5_3), (4, .int l4_6_0), (2, .long l2_6_0), (0, .long p0)]) hx hb dX7_root_17 hl (by decide) rfl (fun ls hl => ?_)
        refine lv_lload hx hb dX7_root_19 (lv_at hl 0 rfl) ?_
        refine lv_lload hx hb dX7_root_21 (lv_at hl 0 rfl) ?_
        refine lv_lmul hx hb dX7_root_23 ?_
        refine lv_lload_n hx hb dX7_root_24 rfl (lv_at hl 3 rfl) ?_
        refine W.lcmp hx hb dX7_root_25 ?_
        refine lv_if_gt (tgt := 32) hx hb dX7_root_26 (by decide) (fun c_4 => ?_) (fun c_4 => ?_)
        · replace c_4 := (lg_cmp_gt _ _).mp c_4
          replace h := h.1 c_4
          obtain ⟨x4_5, e_x4_5⟩ : ∃ y : Int32, y = l4_6_0 + (-1 : Int32) := ⟨_, rfl⟩
          replace h := h x4_5 e_x4_5
          refine lv_iinc (v := x4_5) (lv' := [(4, .int x4_5), (5, .long x5_3), (2, .long l2_6_0), (0, .long p0)]) hx hb dX7_root_32 hl (k := 1) rfl (by rw [e_x4_5]; rfl) (by decide) rfl (fun ls hl => ?_)
          refine lv_goto (tgt := 6) hx hb dX7_root_35 (by decide) ?_
          exact ih_6_0 x4_5 l2_6_0 (Nat.lt_of_lt_of_le h.2 (Nat.le_of_lt_succ hm_6_0)) h.1 _ _ _ (lv_sub hl [0, 2, 3] rfl) (hP.sub [] rfl) (hD.sub [] (by decide) rfl) hS
        · replace c_4 := lc_ngt c_4
          replace h := h.2 c_4
          refine lv_lload hx hb dX7_root_29 (lv_at hl 0 rfl) ?_
          refine lv_lstore_n (lv' := [(2, .long x5_3), (5, .long x5_3), (4, .int l4_6_0), (0, .long p0)]) hx hb dX7_root_31 rfl hl (by decide) rfl (fun ls hl => ?_)
          obtain ⟨x4_6, e_x4_6⟩ : ∃ y : Int32, y = l4_6_0 + (-1 : Int32) := ⟨_, rfl⟩
          replace h := h x4_6 e_x4_6
          refine lv_iinc (v := x4_6) (lv' := [(4, .int x4_6), (2, .long x5_3), (5, .long x5_3), (0, .long p0)]) hx hb dX7_root_32 hl (k := 2) rfl (by rw [e_x4_6]; rfl) (by decide) rfl (fun ls hl => ?_)
          refine lv_goto (tgt := 6) hx hb dX7_root_35 (by decide) ?_
          exact ih_6_0 x4_6 x5_3 (Nat.lt_of_lt_of_le h.2 (Nat.le_of_lt_succ hm_6_0)) h.1 _ _ _ (lv_sub hl [0, 1, 3] rfl) (hP.sub [] rfl) (hD.sub [] (by decide) rfl) hS
  exact key_6_0 _ (16 : Int32) (0 : Int64) (Nat.lt_succ_self _) h0_6_0 _ _ _ (lv_sub hl [0, 1, 2] rfl) (hP.sub [] rfl) (hD.sub [] (by decide) rfl) hS
def wp_X7_commonDivisor  (p0 : Int32) (p1 : Int32) (Q : Int32 → Prop) : Prop :=
  (∃ (I_7_0 : Int32 → Int32 → Int32 → Prop) (m_7_0 : Int32 → Int32 → Int32 → Nat), I_7_0 (0 : Int32) p1 p0 ∧ ∀ (l4_7_0 : Int32) (l3_7_0 : Int32) (l2_7_0 : Int32), I_7_0 l4_7_0 l3_7_0 l2_7_0 → (((64 : Int32) ≤ l4_7_0 → Q l2_7_0) ∧ (¬ (64 : Int32) ≤ l4_7_0 → ((l3_7_0 = (0 : Int32) → Q l2_7_0) ∧ (¬ l3_7_0 = (0 : Int32) → (¬ l3_7_0 = 0 ∧ (∀ x5_5 : Int32, x5_5 = (l2_7_0 - l2_7_0 / l3_7_0 * l3_7_0) → (∀ x4_6 : Int32, x4_6 = l4_7_0 + (1 : Int32) → (I_7_0 x4_6 x5_5 l3_7_0 ∧ m_7_0 x4_6 x5_5 l3_7_0 < m_7_0 l4_7_0 l3_7_0 l2_7_0)))))))))
abbrev rm_X7_commonDivisor : Room := { frames := 0, cells := 0, slots := 0, locals := 0 }
abbrev qc_X7_commonDivisor (dC : Nat → ClassId) (dI : Nat → Nat → Nat) (cI cJ cZ : ClassId)  (Q : Int32 → Prop) (A : Nat → Prop) : Array Value → State → Outcome → State → Prop := va_Qi (fun (r : Int32) (_ : Unit) => Q r) (post_ dC dI A (fun (_ : Unit) => ([] : va_W))) A
set_option maxHeartbeats 4000000 in
set_option maxRecDepth 100000 in
theorem c_X7_commonDivisor (l : Launch) (dC : Nat → ClassId) (dI : Nat → Nat → Nat) (cI cJ cZ : ClassId) (sz : Nat)  (p0 : Int32) (p1 : Int32) (Q : Int32 → Prop) (hQ : wp_X7_commonDivisor p0 p1 Q) : Met l yX7_commonDivisor wsX7_commonDivisor rm_X7_commonDivisor (pre_ dC dI cI cJ cZ [.int p0, .int p1] ([] : va_W) sz) (qc_X7_commonDivisor dC dI cI cJ cZ Q (va_A ([] : va_W) sz)) 0 0 (va_A ([] : va_W) sz) := by
  refine Met.ofW (cc := cX7_commonDivisor) (maxL := 6) (ret := (some .int)) (by decide) rfl ?_
  intro p e s m args below meth c s₁ B hml hv
  obtain ⟨rfl, hsz, hP, hK, hN, hD0⟩ := hv
  have hx := B.exec
  have hb := B.bytes
  have hr := B.returns
  have hts := atoms_spec (ws := wsX7_commonDivisor) B.pre
  have hown : s.vm.findClass RX7 = some m.cls := findClass_of_methodNamed B.named
  subst hsz
  have hD := hD0.self (sz := s.heap.size)
  generalize hAe : va_A ([] : va_W) s.heap.size = A at hD ⊢
  have hA : ∀ q : Nat, s.heap.size ≤ q → A q := fun q h => by rw [← hAe]; exact Or.inr h
  have hS : va_S A s.heap s.heap [] := va_S.rf
  have hl := lv_entry ([.int p0, .int p1]) (n := 6) (Nat.le_of_ble_eq_true rfl)
  rw [lg_entry_eq]
  generalize (lg_sl ([.int p0, .int p1]) ++ List.replicate (6 - (lg_sl ([.int p0, .int p1])).length) Slot.unset).toArray = ls at hl ⊢
  have hl : lv_has ls 6 [(0, .int p0), (1, .int p1)] := hl
  have h := hQ
  unfold wp_X7_commonDivisor at h
  refine lv_iload_n hx hb dX7_commonDivisor_0 rfl (lv_at hl 0 rfl) ?_
  refine lv_istore_n (lv' := [(2, .int p0), (0, .int p0), (1, .int p1)]) hx hb dX7_commonDivisor_1 rfl hl (by decide) rfl (fun ls hl => ?_)
  refine lv_iload_n hx hb dX7_commonDivisor_2 rfl (lv_at hl 2 rfl) ?_
  refine lv_istore_n (lv' := [(3, .int p1), (2, .int p0), (0, .int p0), (1, .int p1)]) hx hb dX7_commonDivisor_3 rfl hl (by decide) rfl (fun ls hl => ?_)
  refine lv_iconst (v := (0 : Int32)) hx hb dX7_commonDivisor_4 (by decide) ?_
  refine lv_istore (lv' := [(4, .int (0 : Int32)), (3, .int p1), (2, .int p0), (0, .int p0), (1, .int p1)]) hx hb dX7_commonDivisor_5 hl (by decide) rfl (fun ls hl => ?_)
  obtain ⟨I_7_0, m_7_0, h0_7_0, hs_7_0⟩ := h
  have key_7_0 : ∀ (n : Nat) (l4_7_0 : Int32) (l3_7_0 : Int32) (l2_7_0 : Int32), m_7_0 l4_7_0 l3_7_0 l2_7_0 < n → I_7_0 l4_7_0 l3_7_0 l2_7_0 → ∀ (ls : Array Slot) (H : Heap) (locs : List Loc), lv_has ls 6 [(4, .int l4_7_0), (3, .int l3_7_0), (2, .int l2_7_0)] → va_P (dC, dI) vwCl [] H → va_D A [] → va_S A s.heap H locs → W p l e (headSpec wsX7_commonDivisor rm_X7_commonDivisor).room s m ([.int p0, .int p1] : List Value).toArray below meth c H locs 0 0 (MQ below (qc_X7_commonDivisor dC dI cI cJ cZ Q A) ([.int p0, .int p1] : List Value).toArray s 0 0 A) (F0 m 7 ls []) := by
    intro n
    induction n with
    | zero =>
      intro l4_7_0 l3_7_0 l2_7_0 hm
      exact absurd hm (Nat.not_lt_zero _)
    | succ n ih_7_0 =>
      intro l4_7_0 l3_7_0 l2_7_0 hm_7_0 hI ls H locs hl hP hD hS
      have h := hs_7_0 l4_7_0 l3_7_0 l2_7_0 hI
      refine lv_iload hx hb dX7_commonDivisor_7 (lv_at hl 0 rfl) ?_
      refine lv_bipush (v := (64 : Int32)) hx hb dX7_commonDivisor_9 (by decide) ?_
      refine lv_icmp_ge (tgt := 34) hx hb dX7_commonDivisor_11 (by decide) (fun c_2 => ?_) (fun c_2 => ?_)
      · replace h := h.1 c_2
        refine lv_iload_n hx hb dX7_commonDivisor_34 rfl (lv_at hl 2 rfl) ?_
        have hP9 := hP.sub (ws' := []) [] rfl
        have hD9 := hD.sub (ws' := []) [] (by decide) rfl
        exact W.iret (v := l2_7_0) hx hb hr (fun t ht hW => ⟨⟨_, (), rfl, h, by rw [ht]; exact hP9, hD9⟩, hS.F ht⟩) hS.2.2 dX7_commonDivisor_35
      · replace h := h.2 c_2
        refine lv_iload_n hx hb dX7_commonDivisor_14 rfl (lv_at hl 1 rfl) ?_
        refine lv_if_eq (tgt := 34) hx hb dX7_commonDivisor_15 (by decide) (fun c_3 => ?_) (fun c_3 => ?_)
        · replace h := h.1 c_3
          refine lv_iload_n hx hb dX7_commonDivisor_34 rfl (lv_at hl 2 rfl) ?_
          have hP9 := hP.sub (ws' := []) [] rfl
          have hD9 := hD.sub (ws' := []) [] (by decide) rfl
          exact W.iret (v := l2_7_0) hx hb hr (fun t ht hW => ⟨⟨_, (), rfl, h, by rw [ht]; exact hP9, hD9⟩, hS.F ht⟩) hS.2.2 dX7_commonDivisor_35
        · replace h := h.2 c_3
          refine lv_iload_n hx hb dX7_commonDivisor_18 rfl (lv_at hl 2 rfl) ?_
          refine lv_iload_n hx hb dX7_commonDivisor_19 rfl (lv_at hl 1 rfl) ?_
          obtain ⟨hne_4, h⟩ := h
          refine lv_irem hx hb dX7_commonDivisor_20 hne_4 ?_
          refine lv_topi (fun x5_5 e_x5_5 => ?_)
          replace h := h x5_5 e_x5_5
          refine lv_istore (lv' := [(5, .int x5_5), (4, .int l4_7_0), (3, .int l3_7_0), (2, .int l2_7_0)]) hx hb dX7_commonDivisor_21 hl (by decide) rfl (fun ls hl => ?_)
          refine lv_iload_n hx hb dX7_commonDivisor_23 rfl (lv_at hl 2 rfl) ?_
          refine lv_istore_n (lv' := [(2, .int l3_7_0), (5, .int x5_5), (4, .int l4_7_0), (3, .int l3_7_0)]) hx hb dX7_commonDivisor_24 rfl hl (by decide) rfl (fun ls hl => ?_)
          refine lv_iload hx hb dX7_commonDivisor_25 (lv_at hl 1 rfl) ?_
          refine lv_istore_n (lv' := [(3, .int x5_5), (2, .int l3_7_0), (5, .int x5_5), (4, .int l4_7_0)]) hx hb dX7_commonDivisor_27 rfl hl (by decide) rfl (fun ls hl => ?_)
          obtain ⟨x4_6, e_x4_6⟩ : ∃ y : Int32, y = l4_7_0 + (1 : Int32) := ⟨_, rfl⟩
          replace h := h x4_6 e_x4_6
          refine lv_iinc (v := x4_6) (lv' := [(4, .int x4_6), (3, .int x5_5), (2, .int l3_7_0), (5, .int x5_5)]) hx hb dX7_commonDivisor_28 hl (k := 3) rfl (by rw [e_x4_6]; rfl) (by decide) rfl (fun ls hl => ?_)
          refine lv_goto (tgt := 7) hx hb dX7_commonDivisor_31 (by decide) ?_
          exact ih_7_0 x4_6 x5_5 l3_7_0 (Nat.lt_of_lt_of_le h.2 (Nat.le_of_lt_succ hm_7_0)) h.1 _ _ _ (lv_sub hl [0, 1, 2] rfl) (hP.sub [] rfl) (hD.sub [] (by decide) rfl) hS
  exact key_7_0 _ (0 : Int32) p1 p0 (Nat.lt_succ_self _) h0_7_0 _ _ _ (lv_sub hl [0, 1, 2] rfl) (hP.sub [] rfl) (hD.sub [] (by decide) rfl) hS
def wp_X7_floorSum  (p0 : Int64) (p1 : Int64) (p2 : Int64) (p3 : Int64) (Q : Int64 → Prop) : Prop :=
  (∃ (I_6_0 : Int32 → Int64 → Int64 → Int64 → Int64 → Int64 → Prop) (m_6_0 : Int32 → Int64 → Int64 → Int64 → Int64 → Int64 → Nat), I_6_0 (0 : Int32) (0 : Int64) p0 p1 p2 p3 ∧ ∀ (l10_6_0 : Int32) (l8_6_0 : Int64) (l0_6_0 : Int64) (l2_6_0 : Int64) (l4_6_0 : Int64) (l6_6_0 : Int64), I_6_0 l10_6_0 l8_6_0 l0_6_0 l2_6_0 l4_6_0 l6_6_0 → (((64 : Int32) ≤ l10_6_0 → Q l8_6_0) ∧ (¬ (64 : Int32) ≤ l10_6_0 → ((l6_6_0 ≤ (0 : Int64) → Q l8_6_0) ∧ (¬ l6_6_0 ≤ (0 : Int64) → (¬ l6_6_0 = 0 ∧ (¬ l6_6_0 = 0 ∧ (∀ x8_6 : Int64, x8_6 = (l8_6_0 + ((((l0_6_0 * (l0_6_0 - (1 : Int64))) / (2 : Int64)) * (l2_6_0 / l6_6_0)) + (l0_6_0 * (l4_6_0 / l6_6_0)))) → (¬ l6_6_0 = 0 ∧ (∀ x2_8 : Int64, x2_8 = (l2_6_0 - l2_6_0 / l6_6_0 * l6_6_0) → (¬ l6_6_0 = 0 ∧ (∀ x4_10 : Int64, x4_10 = (l4_6_0 - l4_6_0 / l6_6_0 * l6_6_0) → (∀ x11_11 : Int64, x11_11 = ((x2_8 * l0_6_0) + x4_10) → ((l6_6_0 ≤ x11_11 → (¬ l6_6_0 = 0 ∧ (∀ x0_14 : Int64, x0_14 = (x11_11 / l6_6_0) → (¬ l6_6_0 = 0 ∧ (∀ x4_16 : Int64, x4_16 = (x11_11 - x11_11 / l6_6_0 * l6_6_0) → (∀ x10_17 : Int32, x10_17 = l10_6_0 + (1 : Int32) → (I_6_0 x10_17 x8_6 x0_14 l6_6_0 x4_16 x2_8 ∧ m_6_0 x10_17 x8_6 x0_14 l6_6_0 x4_16 x2_8 < m_6_0 l10_6_0 l8_6_0 l0_6_0 l2_6_0 l4_6_0 l6_6_0))))))) ∧ (¬ l6_6_0 ≤ x11_11 → Q x8_6)))))))))))))))
abbrev rm_X7_floorSum : Room := { frames := 0, cells := 0, slots := 0, locals := 0 }
abbrev qc_X7_floorSum (dC : Nat → ClassId) (dI : Nat → Nat → Nat) (cI cJ cZ : ClassId)  (Q : Int64 → Prop) (A : Nat → Prop) : Array Value → State → Outcome → State → Prop := va_Ql (fun (r : Int64) (_ : Unit) => Q r) (post_ dC dI A (fun (_ : Unit) => ([] : va_W))) A
set_option maxHeartbeats 4000000 in
set_option maxRecDepth 100000 in
theorem c_X7_floorSum (l : Launch) (dC : Nat → ClassId) (dI : Nat → Nat → Nat) (cI cJ cZ : ClassId) (sz : Nat)  (p0 : Int64) (p1 : Int64) (p2 : Int64) (p3 : Int64) (Q : Int64 → Prop) (hQ : wp_X7_floorSum p0 p1 p2 p3 Q) : Met l yX7_floorSum wsX7_floorSum rm_X7_floorSum (pre_ dC dI cI cJ cZ [.long p0, .long p1, .long p2, .long p3] ([] : va_W) sz) (qc_X7_floorSum dC dI cI cJ cZ Q (va_A ([] : va_W) sz)) 0 0 (va_A ([] : va_W) sz) := by
  refine Met.ofW (cc := cX7_floorSum) (maxL := 15) (ret := (some .long)) (by decide) rfl ?_
  intro p e s m args below meth c s₁ B hml hv
  obtain ⟨rfl, hsz, hP, hK, hN, hD0⟩ := hv
  have hx := B.exec
  have hb := B.bytes
  have hr := B.returns
  have hts := atoms_spec (ws := wsX7_floorSum) B.pre
  have hown : s.vm.findClass RX7 = some m.cls := findClass_of_methodNamed B.named
  subst hsz
  have hD := hD0.self (sz := s.heap.size)
  generalize hAe : va_A ([] : va_W) s.heap.size = A at hD ⊢
  have hA : ∀ q : Nat, s.heap.size ≤ q → A q := fun q h => by rw [← hAe]; exact Or.inr h
  have hS : va_S A s.heap s.heap [] := va_S.rf
  have hl := lv_entry ([.long p0, .long p1, .long p2, .long p3]) (n := 15) (Nat.le_of_ble_eq_true rfl)
  rw [lg_entry_eq]
  generalize (lg_sl ([.long p0, .long p1, .long p2, .long p3]) ++ List.replicate (15 - (lg_sl ([.long p0, .long p1, .long p2, .long p3])).length) Slot.unset).toArray = ls at hl ⊢
  have hl : lv_has ls 15 [(0, .long p0), (2, .long p1), (4, .long p2), (6, .long p3)] := hl
  have h := hQ
  unfold wp_X7_floorSum at h
  have hw_0 := hts (.constantLong RX7 7 (2)) (by decide +kernel)
  refine lv_lconst (v := (0 : Int64)) hx hb dX7_floorSum_0 (by decide) ?_
  refine lv_lstore (lv' := [(8, .long (0 : Int64)), (0, .long p0), (2, .long p1), (4, .long p2), (6, .long p3)]) hx hb dX7_floorSum_1 hl (by decide) rfl (fun ls hl => ?_)
  refine lv_iconst (v := (0 : Int32)) hx hb dX7_floorSum_3 (by decide) ?_
  refine lv_istore (lv' := [(10, .int (0 : Int32)), (8, .long (0 : Int64)), (0, .long p0), (2, .long p1), (4, .long p2), (6, .long p3)]) hx hb dX7_floorSum_4 hl (by decide) rfl (fun ls hl => ?_)
  obtain ⟨I_6_0, m_6_0, h0_6_0, hs_6_0⟩ := h
  have key_6_0 : ∀ (n : Nat) (l10_6_0 : Int32) (l8_6_0 : Int64) (l0_6_0 : Int64) (l2_6_0 : Int64) (l4_6_0 : Int64) (l6_6_0 : Int64), m_6_0 l10_6_0 l8_6_0 l0_6_0 l2_6_0 l4_6_0 l6_6_0 < n → I_6_0 l10_6_0 l8_6_0 l0_6_0 l2_6_0 l4_6_0 l6_6_0 → ∀ (ls : Array Slot) (H : Heap) (locs : List Loc), lv_has ls 15 [(10, .int l10_6_0), (8, .long l8_6_0), (0, .long l0_6_0), (2, .long l2_6_0), (4, .long l4_6_0), (6, .long l6_6_0)] → va_P (dC, dI) vwCl [] H → va_D A [] → va_S A s.heap H locs → W p l e (headSpec wsX7_floorSum rm_X7_floorSum).room s m ([.long p0, .long p1, .long p2, .long p3] : List Value).toArray below meth c H locs 0 0 (MQ below (qc_X7_floorSum dC dI cI cJ cZ Q A) ([.long p0, .long p1, .long p2, .long p3] : List Value).toArray s 0 0 A) (F0 m 6 ls []) := by
    intro n
    induction n with
    | zero =>
      intro l10_6_0 l8_6_0 l0_6_0 l2_6_0 l4_6_0 l6_6_0 hm
      exact absurd hm (Nat.not_lt_zero _)
    | succ n ih_6_0 =>
      intro l10_6_0 l8_6_0 l0_6_0 l2_6_0 l4_6_0 l6_6_0 hm_6_0 hI ls H locs hl hP hD hS
      have h := hs_6_0 l10_6_0 l8_6_0 l0_6_0 l2_6_0 l4_6_0 l6_6_0 hI
      refine lv_iload hx hb dX7_floorSum_6 (lv_at hl 0 rfl) ?_
      refine lv_bipush (v := (64 : Int32)) hx hb dX7_floorSum_8 (by decide) ?_
      refine lv_icmp_ge (tgt := 107) hx hb dX7_floorSum_10 (by decide) (fun c_2 => ?_) (fun c_2 => ?_)
      · replace h := h.1 c_2
        refine lv_lload hx hb dX7_floorSum_107 (lv_at hl 1 rfl) ?_
        have hP9 := hP.sub (ws' := []) [] rfl
        have hD9 := hD.sub (ws' := []) [] (by decide) rfl
        exact W.lret (v := l8_6_0) hx hb hr (fun t ht hW => ⟨⟨_, (), rfl, h, by rw [ht]; exact hP9, hD9⟩, hS.F ht⟩) hS.2.2 dX7_floorSum_109
      · replace h := h.2 c_2
        refine lv_lload hx hb dX7_floorSum_13 (lv_at hl 5 rfl) ?_
        refine lv_lconst (v := (0 : Int64)) hx hb dX7_floorSum_15 (by decide) ?_
        refine W.lcmp hx hb dX7_floorSum_16 ?_
        refine lv_if_le (tgt := 107) hx hb dX7_floorSum_17 (by decide) (fun c_3 => ?_) (fun c_3 => ?_)
        · replace c_3 := (lg_cmp_le _ _).mp c_3
          replace h := h.1 c_3
          refine lv_lload hx hb dX7_floorSum_107 (lv_at hl 1 rfl) ?_
          have hP9 := hP.sub (ws' := []) [] rfl
          have hD9 := hD.sub (ws' := []) [] (by decide) rfl
          exact W.lret (v := l8_6_0) hx hb hr (fun t ht hW => ⟨⟨_, (), rfl, h, by rw [ht]; exact hP9, hD9⟩, hS.F ht⟩) hS.2.2 dX7_floorSum_109
        · replace c_3 := lc_nle c_3
          replace h := h.2 c_3
          refine lv_lload hx hb dX7_floorSum_20 (lv_at hl 1 rfl) ?_
          refine lv_lload_n hx hb dX7_floorSum_22 rfl (lv_at hl 2 rfl) ?_
          refine lv_lload_n hx hb dX7_floorSum_23 rfl (lv_at hl 2 rfl) ?_
          refine lv_lconst (v := (1 : Int64)) hx hb dX7_floorSum_24 (by decide) ?_
          refine lv_lsub hx hb dX7_floorSum_25 ?_
          refine lv_lmul hx hb dX7_floorSum_26 ?_
          refine lv_ldc2 hx hb hown hw_0 dX7_floorSum_27 ?_
          refine lv_ldiv hx hb dX7_floorSum_30 (by decide) ?_
          refine lv_lload_n hx hb dX7_floorSum_31 rfl (lv_at hl 3 rfl) ?_
          refine lv_lload hx hb dX7_floorSum_32 (lv_at hl 5 rfl) ?_
          obtain ⟨hne_4, h⟩ := h
          refine lv_ldiv hx hb dX7_floorSum_34 hne_4 ?_
          refine lv_lmul hx hb dX7_floorSum_35 ?_
          refine lv_lload_n hx hb dX7_floorSum_36 rfl (lv_at hl 2 rfl) ?_
          refine lv_lload hx hb dX7_floorSum_37 (lv_at hl 4 rfl) ?_
          refine lv_lload hx hb dX7_floorSum_39 (lv_at hl 5 rfl) ?_
          obtain ⟨hne_5, h⟩ := h
          refine lv_ldiv hx hb dX7_floorSum_41 hne_5 ?_
          refine lv_lmul hx hb dX7_floorSum_42 ?_
          refine lv_ladd hx hb dX7_floorSum_43 ?_
          refine lv_ladd hx hb dX7_floorSum_44 ?_
          refine lv_topl (fun x8_6 e_x8_6 => ?_)
          replace h := h x8_6 e_x8_6
          refine lv_lstore (lv' := [(8, .long x8_6), (10, .int l10_6_0), (0, .long l0_6_0), (2, .long l2_6_0), (4, .long l4_6_0), (6, .long l6_6_0)]) hx hb dX7_floorSum_45 hl (by decide) rfl (fun ls hl => ?_)
          refine lv_lload_n hx hb dX7_floorSum_47 rfl (lv_at hl 3 rfl) ?_
          refine lv_lload hx hb dX7_floorSum_48 (lv_at hl 5 rfl) ?_
          obtain ⟨hne_7, h⟩ := h
          refine lv_lrem hx hb dX7_floorSum_50 hne_7 ?_
          refine lv_topl (fun x2_8 e_x2_8 => ?_)
          replace h := h x2_8 e_x2_8
          refine lv_lstore_n (lv' := [(2, .long x2_8), (8, .long x8_6), (10, .int l10_6_0), (0, .long l0_6_0), (4, .long l4_6_0), (6, .long l6_6_0)]) hx hb dX7_floorSum_51 rfl hl (by decide) rfl (fun ls hl => ?_)
          refine lv_lload hx hb dX7_floorSum_52 (lv_at hl 4 rfl) ?_
          refine lv_lload hx hb dX7_floorSum_54 (lv_at hl 5 rfl) ?_
          obtain ⟨hne_9, h⟩ := h
          refine lv_lrem hx hb dX7_floorSum_56 hne_9 ?_
          refine lv_topl (fun x4_10 e_x4_10 => ?_)
          replace h := h x4_10 e_x4_10
          refine lv_lstore (lv' := [(4, .long x4_10), (2, .long x2_8), (8, .long x8_6), (10, .int l10_6_0), (0, .long l0_6_0), (6, .long l6_6_0)]) hx hb dX7_floorSum_57 hl (by decide) rfl (fun ls hl => ?_)
          refine lv_lload_n hx hb dX7_floorSum_59 rfl (lv_at hl 1 rfl) ?_
          refine lv_lload_n hx hb dX7_floorSum_60 rfl (lv_at hl 4 rfl) ?_
          refine lv_lmul hx hb dX7_floorSum_61 ?_
          refine lv_lload hx hb dX7_floorSum_62 (lv_at hl 0 rfl) ?_
          refine lv_ladd hx hb dX7_floorSum_64 ?_
          refine lv_topl (fun x11_11 e_x11_11 => ?_)
          replace h := h x11_11 e_x11_11
          refine lv_lstore (lv' := [(11, .long x11_11), (4, .long x4_10), (2, .long x2_8), (8, .long x8_6), (10, .int l10_6_0), (0, .long l0_6_0), (6, .long l6_6_0)]) hx hb dX7_floorSum_65 hl (by decide) rfl (fun ls hl => ?_)
          refine lv_lload hx hb dX7_floorSum_67 (lv_at hl 0 rfl) ?_
          refine lv_lload hx hb dX7_floorSum_69 (lv_at hl 6 rfl) ?_
          refine W.lcmp hx hb dX7_floorSum_71 ?_
          refine lv_if_ge (tgt := 78) hx hb dX7_floorSum_72 (by decide) (fun c_12 => ?_) (fun c_12 => ?_)
          · replace c_12 := (lg_cmp_ge _ _).mp c_12
            replace h := h.1 c_12
            refine lv_lload hx hb dX7_floorSum_78 (lv_at hl 0 rfl) ?_
            refine lv_lload hx hb dX7_floorSum_80 (lv_at hl 6 rfl) ?_
            obtain ⟨hne_13, h⟩ := h
            refine lv_ldiv hx hb dX7_floorSum_82 hne_13 ?_
            refine lv_topl (fun x0_14 e_x0_14 => ?_)
            replace h := h x0_14 e_x0_14
            refine lv_lstore_n (lv' := [(0, .long x0_14), (11, .long x11_11), (4, .long x4_10), (2, .long x2_8), (8, .long x8_6), (10, .int l10_6_0), (6, .long l6_6_0)]) hx hb dX7_floorSum_83 rfl hl (by decide) rfl (fun ls hl => ?_)
            refine lv_lload hx hb dX7_floorSum_84 (lv_at hl 1 rfl) ?_
            refine lv_lload hx hb dX7_floorSum_86 (lv_at hl 6 rfl) ?_
            obtain ⟨hne_15, h⟩ := h
            refine lv_lrem hx hb dX7_floorSum_88 hne_15 ?_
            refine lv_topl (fun x4_16 e_x4_16 => ?_)
            replace h := h x4_16 e_x4_16
            refine lv_lstore (lv' := [(4, .long x4_16), (0, .long x0_14), (11, .long x11_11), (2, .long x2_8), (8, .long x8_6), (10, .int l10_6_0), (6, .long l6_6_0)]) hx hb dX7_floorSum_89 hl (by decide) rfl (fun ls hl => ?_)
            refine lv_lload hx hb dX7_floorSum_91 (lv_at hl 6 rfl) ?_
            refine lv_lstore (lv' := [(13, .long l6_6_0), (4, .long x4_16), (0, .long x0_14), (11, .long x11_11), (2, .long x2_8), (8, .long x8_6), (10, .int l10_6_0), (6, .long l6_6_0)]) hx hb dX7_floorSum_93 hl (by decide) rfl (fun ls hl => ?_)
            refine lv_lload_n hx hb dX7_floorSum_95 rfl (lv_at hl 4 rfl) ?_
            refine lv_lstore (lv' := [(6, .long x2_8), (13, .long l6_6_0), (4, .long x4_16), (0, .long x0_14), (11, .long x11_11), (2, .long x2_8), (8, .long x8_6), (10, .int l10_6_0)]) hx hb dX7_floorSum_96 hl (by decide) rfl (fun ls hl => ?_)
            refine lv_lload hx hb dX7_floorSum_98 (lv_at hl 1 rfl) ?_
            refine lv_lstore_n (lv' := [(2, .long l6_6_0), (6, .long x2_8), (13, .long l6_6_0), (4, .long x4_16), (0, .long x0_14), (11, .long x11_11), (8, .long x8_6), (10, .int l10_6_0)]) hx hb dX7_floorSum_100 rfl hl (by decide) rfl (fun ls hl => ?_)
            obtain ⟨x10_17, e_x10_17⟩ : ∃ y : Int32, y = l10_6_0 + (1 : Int32) := ⟨_, rfl⟩
            replace h := h x10_17 e_x10_17
            refine lv_iinc (v := x10_17) (lv' := [(10, .int x10_17), (2, .long l6_6_0), (6, .long x2_8), (13, .long l6_6_0), (4, .long x4_16), (0, .long x0_14), (11, .long x11_11), (8, .long x8_6)]) hx hb dX7_floorSum_101 hl (k := 7) rfl (by rw [e_x10_17]; rfl) (by decide) rfl (fun ls hl => ?_)
            refine lv_goto (tgt := 6) hx hb dX7_floorSum_104 (by decide) ?_
            exact ih_6_0 x10_17 x8_6 x0_14 l6_6_0 x4_16 x2_8 (Nat.lt_of_lt_of_le h.2 (Nat.le_of_lt_succ hm_6_0)) h.1 _ _ _ (lv_sub hl [0, 7, 5, 1, 4, 2] rfl) (hP.sub [] rfl) (hD.sub [] (by decide) rfl) hS
          · replace c_12 := lc_nge c_12
            replace h := h.2 c_12
            refine lv_goto (tgt := 107) hx hb dX7_floorSum_75 (by decide) ?_
            refine lv_lload hx hb dX7_floorSum_107 (lv_at hl 3 rfl) ?_
            have hP9 := hP.sub (ws' := []) [] rfl
            have hD9 := hD.sub (ws' := []) [] (by decide) rfl
            exact W.lret (v := x8_6) hx hb hr (fun t ht hW => ⟨⟨_, (), rfl, h, by rw [ht]; exact hP9, hD9⟩, hS.F ht⟩) hS.2.2 dX7_floorSum_109
  exact key_6_0 _ (0 : Int32) (0 : Int64) p0 p1 p2 p3 (Nat.lt_succ_self _) h0_6_0 _ _ _ (lv_sub hl [0, 1, 2, 3, 4, 5] rfl) (hP.sub [] rfl) (hD.sub [] (by decide) rfl) hS
def wp_X7_pointsUnder  (p0 : Int64) (Q : Int64 → Prop) : Prop :=
  wp_X7_root p0 (fun r_1 => (∃ (I_11_1 : Int64 → Int64 → Prop) (m_11_1 : Int64 → Int64 → Nat), I_11_1 (1 : Int64) (0 : Int64) ∧ ∀ (l6_11_1 : Int64) (l4_11_1 : Int64), I_11_1 l6_11_1 l4_11_1 → ((r_1 < l6_11_1 → Q (((2 : Int64) * l4_11_1) - (r_1 * r_1))) ∧ (¬ r_1 < l6_11_1 → (¬ l6_11_1 = 0 ∧ (∀ x4_5 : Int64, x4_5 = (l4_11_1 + (p0 / l6_11_1)) → (∀ x6_6 : Int64, x6_6 = (l6_11_1 + (1 : Int64)) → (I_11_1 x6_6 x4_5 ∧ m_11_1 x6_6 x4_5 < m_11_1 l6_11_1 l4_11_1))))))))
abbrev rm_X7_pointsUnder : Room := { frames := 1, cells := 0, slots := 0, locals := 26 }
abbrev qc_X7_pointsUnder (dC : Nat → ClassId) (dI : Nat → Nat → Nat) (cI cJ cZ : ClassId)  (Q : Int64 → Prop) (A : Nat → Prop) : Array Value → State → Outcome → State → Prop := va_Ql (fun (r : Int64) (_ : Unit) => Q r) (post_ dC dI A (fun (_ : Unit) => ([] : va_W))) A
set_option maxHeartbeats 4000000 in
set_option maxRecDepth 100000 in
theorem c_X7_pointsUnder (l : Launch) (dC : Nat → ClassId) (dI : Nat → Nat → Nat) (cI cJ cZ : ClassId) (sz : Nat)  (p0 : Int64) (Q : Int64 → Prop) (hQ : wp_X7_pointsUnder p0 Q) : Met l yX7_pointsUnder wsX7_pointsUnder rm_X7_pointsUnder (pre_ dC dI cI cJ cZ [.long p0] ([] : va_W) sz) (qc_X7_pointsUnder dC dI cI cJ cZ Q (va_A ([] : va_W) sz)) 0 0 (va_A ([] : va_W) sz) := by
  refine Met.ofW (cc := cX7_pointsUnder) (maxL := 8) (ret := (some .long)) (by decide) rfl ?_
  intro p e s m args below meth c s₁ B hml hv
  obtain ⟨rfl, hsz, hP, hK, hN, hD0⟩ := hv
  have hx := B.exec
  have hb := B.bytes
  have hr := B.returns
  have hts := atoms_spec (ws := wsX7_pointsUnder) B.pre
  have hown : s.vm.findClass RX7 = some m.cls := findClass_of_methodNamed B.named
  subst hsz
  have hD := hD0.self (sz := s.heap.size)
  generalize hAe : va_A ([] : va_W) s.heap.size = A at hD ⊢
  have hA : ∀ q : Nat, s.heap.size ≤ q → A q := fun q h => by rw [← hAe]; exact Or.inr h
  have hS : va_S A s.heap s.heap [] := va_S.rf
  have hl := lv_entry ([.long p0]) (n := 8) (Nat.le_of_ble_eq_true rfl)
  rw [lg_entry_eq]
  generalize (lg_sl ([.long p0]) ++ List.replicate (8 - (lg_sl ([.long p0])).length) Slot.unset).toArray = ls at hl ⊢
  have hl : lv_has ls 8 [(0, .long p0)] := hl
  have h := hQ
  unfold wp_X7_pointsUnder at h
  have hw_0 := hts (.constantLong RX7 7 (2)) (by decide +kernel)
  refine lv_lload_n hx hb dX7_pointsUnder_0 rfl (lv_at hl 0 rfl) ?_
  have hPc := hP.sub (ws' := []) [] rfl
  have hDc := hD.sub (ws' := []) [] (by decide) rfl
  have hFc := va_free (wc := []) hD hS hA [] rfl
  refine va_calll (va_runS (As := [.long p0]) (rest := []) ⟨hx, hb, hml, hown, hts⟩ (c_X7_root l dC dI cI cJ cZ _ p0 _ h) (va_cwS 1 hts gX7_pointsUnder_X7_root rfl rfl rfl (by decide +kernel) ⟨Nat.le_of_ble_eq_true rfl, Nat.le_of_ble_eq_true rfl⟩) ⟨pre_fb, pre_of hPc hDc hK hN⟩ rfl rfl hl.1 rfl (lv_room (Nat.le_of_ble_eq_true rfl)) dX7_pointsUnder_1 ⟨by first | exact Nat.le_of_ble_eq_true rfl | exact Nat.le_refl _, by first | exact Nat.le_of_ble_eq_true rfl | exact Nat.le_refl _⟩) hS (fun q _ h => hFc q h) hFc (fun r_1 u t H1 locs ht hvm h hB hz1 hk1 hS => ?_)
  obtain ⟨hP1, hD1⟩ := hB
  rw [ht] at hP1
  try dsimp only at h
  obtain ⟨hP, hD⟩ := va_join (wr := []) (w1 := []) hP hD [] [] rfl rfl (by decide) (by decide) hk1 hFc hP1 hD1
  generalize H1 = H at hP hS ⊢
  have hP : va_P (dC, dI) vwCl [] H := hP
  have hD : va_D A [] := hD
  refine lv_lstore_n (lv' := [(2, .long r_1), (0, .long p0)]) hx hb dX7_pointsUnder_4 rfl hl (by decide) rfl (fun ls hl => ?_)
  refine lv_lconst (v := (0 : Int64)) hx hb dX7_pointsUnder_5 (by decide) ?_
  refine lv_lstore (lv' := [(4, .long (0 : Int64)), (2, .long r_1), (0, .long p0)]) hx hb dX7_pointsUnder_6 hl (by decide) rfl (fun ls hl => ?_)
  refine lv_lconst (v := (1 : Int64)) hx hb dX7_pointsUnder_8 (by decide) ?_
  refine lv_lstore (lv' := [(6, .long (1 : Int64)), (4, .long (0 : Int64)), (2, .long r_1), (0, .long p0)]) hx hb dX7_pointsUnder_9 hl (by decide) rfl (fun ls hl => ?_)
  obtain ⟨I_11_1, m_11_1, h0_11_1, hs_11_1⟩ := h
  have key_11_1 : ∀ (n : Nat) (l6_11_1 : Int64) (l4_11_1 : Int64), m_11_1 l6_11_1 l4_11_1 < n → I_11_1 l6_11_1 l4_11_1 → ∀ (ls : Array Slot) (H : Heap) (locs : List Loc), lv_has ls 8 [(6, .long l6_11_1), (4, .long l4_11_1), (2, .long r_1), (0, .long p0)] → va_P (dC, dI) vwCl [] H → va_D A [] → va_S A s.heap H locs → W p l e (headSpec wsX7_pointsUnder rm_X7_pointsUnder).room s m ([.long p0] : List Value).toArray below meth c H locs 0 0 (MQ below (qc_X7_pointsUnder dC dI cI cJ cZ Q A) ([.long p0] : List Value).toArray s 0 0 A) (F0 m 11 ls []) := by
    intro n
    induction n with
    | zero =>
      intro l6_11_1 l4_11_1 hm
      exact absurd hm (Nat.not_lt_zero _)
    | succ n ih_11_1 =>
      intro l6_11_1 l4_11_1 hm_11_1 hI ls H locs hl hP hD hS
      have h := hs_11_1 l6_11_1 l4_11_1 hI
      refine lv_lload hx hb dX7_pointsUnder_11 (lv_at hl 0 rfl) ?_
      refine lv_lload_n hx hb dX7_pointsUnder_13 rfl (lv_at hl 2 rfl) ?_
      refine W.lcmp hx hb dX7_pointsUnder_14 ?_
      refine lv_if_gt (tgt := 36) hx hb dX7_pointsUnder_15 (by decide) (fun c_3 => ?_) (fun c_3 => ?_)
      · replace c_3 := (lg_cmp_gt _ _).mp c_3
        replace h := h.1 c_3
        refine lv_ldc2 hx hb hown hw_0 dX7_pointsUnder_36 ?_
        refine lv_lload hx hb dX7_pointsUnder_39 (lv_at hl 1 rfl) ?_
        refine lv_lmul hx hb dX7_pointsUnder_41 ?_
        refine lv_lload_n hx hb dX7_pointsUnder_42 rfl (lv_at hl 2 rfl) ?_
        refine lv_lload_n hx hb dX7_pointsUnder_43 rfl (lv_at hl 2 rfl) ?_
        refine lv_lmul hx hb dX7_pointsUnder_44 ?_
        refine lv_lsub hx hb dX7_pointsUnder_45 ?_
        have hP9 := hP.sub (ws' := []) [] rfl
        have hD9 := hD.sub (ws' := []) [] (by decide) rfl
        exact W.lret (v := (((2 : Int64) * l4_11_1) - (r_1 * r_1))) hx hb hr (fun t ht hW => ⟨⟨_, (), rfl, h, by rw [ht]; exact hP9, hD9⟩, hS.F ht⟩) hS.2.2 dX7_pointsUnder_46
      · replace c_3 := lc_ngt c_3
        replace h := h.2 c_3
        refine lv_lload hx hb dX7_pointsUnder_18 (lv_at hl 1 rfl) ?_
        refine lv_lload_n hx hb dX7_pointsUnder_20 rfl (lv_at hl 3 rfl) ?_
        refine lv_lload hx hb dX7_pointsUnder_21 (lv_at hl 0 rfl) ?_
        obtain ⟨hne_4, h⟩ := h
        refine lv_ldiv hx hb dX7_pointsUnder_23 hne_4 ?_
        refine lv_ladd hx hb dX7_pointsUnder_24 ?_
        refine lv_topl (fun x4_5 e_x4_5 => ?_)
        replace h := h x4_5 e_x4_5
        refine lv_lstore (lv' := [(4, .long x4_5), (6, .long l6_11_1), (2, .long r_1), (0, .long p0)]) hx hb dX7_pointsUnder_25 hl (by decide) rfl (fun ls hl => ?_)
        refine lv_lload hx hb dX7_pointsUnder_27 (lv_at hl 1 rfl) ?_
        refine lv_lconst (v := (1 : Int64)) hx hb dX7_pointsUnder_29 (by decide) ?_
        refine lv_ladd hx hb dX7_pointsUnder_30 ?_
        refine lv_topl (fun x6_6 e_x6_6 => ?_)
        replace h := h x6_6 e_x6_6
        refine lv_lstore (lv' := [(6, .long x6_6), (4, .long x4_5), (2, .long r_1), (0, .long p0)]) hx hb dX7_pointsUnder_31 hl (by decide) rfl (fun ls hl => ?_)
        refine lv_goto (tgt := 11) hx hb dX7_pointsUnder_33 (by decide) ?_
        exact ih_11_1 x6_6 x4_5 (Nat.lt_of_lt_of_le h.2 (Nat.le_of_lt_succ hm_11_1)) h.1 _ _ _ (lv_sub hl [0, 1, 2, 3] rfl) (hP.sub [] rfl) (hD.sub [] (by decide) rfl) hS
  exact key_11_1 _ (1 : Int64) (0 : Int64) (Nat.lt_succ_self _) h0_11_1 _ _ _ (lv_sub hl [0, 1, 2, 3] rfl) (hP.sub [] rfl) (hD.sub [] (by decide) rfl) hS
def wp_X7_isFarRule  (p0 : Int32) (Q : Int32 → Prop) : Prop :=
  ((p0 = (0 : Int32) → Q (1 : Int32)) ∧ (¬ p0 = (0 : Int32) → ((p0 = (1 : Int32) → Q (1 : Int32)) ∧ (¬ p0 = (1 : Int32) → ((p0 = (2 : Int32) → Q (1 : Int32)) ∧ (¬ p0 = (2 : Int32) → ((p0 = (9 : Int32) → Q (1 : Int32)) ∧ (¬ p0 = (9 : Int32) → Q (0 : Int32)))))))))
abbrev rm_X7_isFarRule : Room := { frames := 0, cells := 0, slots := 0, locals := 0 }
abbrev qc_X7_isFarRule (dC : Nat → ClassId) (dI : Nat → Nat → Nat) (cI cJ cZ : ClassId)  (Q : Int32 → Prop) (A : Nat → Prop) : Array Value → State → Outcome → State → Prop := va_Qi (fun (r : Int32) (_ : Unit) => Q r) (post_ dC dI A (fun (_ : Unit) => ([] : va_W))) A
set_option maxHeartbeats 4000000 in
set_option maxRecDepth 100000 in
theorem c_X7_isFarRule (l : Launch) (dC : Nat → ClassId) (dI : Nat → Nat → Nat) (cI cJ cZ : ClassId) (sz : Nat)  (p0 : Int32) (Q : Int32 → Prop) (hQ : wp_X7_isFarRule p0 Q) : Met l yX7_isFarRule wsX7_isFarRule rm_X7_isFarRule (pre_ dC dI cI cJ cZ [.int p0] ([] : va_W) sz) (qc_X7_isFarRule dC dI cI cJ cZ Q (va_A ([] : va_W) sz)) 0 0 (va_A ([] : va_W) sz) := by
  refine Met.ofW (cc := cX7_isFarRule) (maxL := 1) (ret := (some .boolean)) (by decide) rfl ?_
  intro p e s m args below meth c s₁ B hml hv
  obtain ⟨rfl, hsz, hP, hK, hN, hD0⟩ := hv
  have hx := B.exec
  have hb := B.bytes
  have hr := B.returns
  have hts := atoms_spec (ws := wsX7_isFarRule) B.pre
  have hown : s.vm.findClass RX7 = some m.cls := findClass_of_methodNamed B.named
  subst hsz
  have hD := hD0.self (sz := s.heap.size)
  generalize hAe : va_A ([] : va_W) s.heap.size = A at hD ⊢
  have hA : ∀ q : Nat, s.heap.size ≤ q → A q := fun q h => by rw [← hAe]; exact Or.inr h
  have hS : va_S A s.heap s.heap [] := va_S.rf
  have hl := lv_entry ([.int p0]) (n := 1) (Nat.le_of_ble_eq_true rfl)
  rw [lg_entry_eq]
  generalize (lg_sl ([.int p0]) ++ List.replicate (1 - (lg_sl ([.int p0])).length) Slot.unset).toArray = ls at hl ⊢
  have hl : lv_has ls 1 [(0, .int p0)] := hl
  have h := hQ
  unfold wp_X7_isFarRule at h
  refine lv_iload_n hx hb dX7_isFarRule_0 rfl (lv_at hl 0 rfl) ?_
  refine lv_if_eq (tgt := 20) hx hb dX7_isFarRule_1 (by decide) (fun c_1 => ?_) (fun c_1 => ?_)
  · replace h := h.1 c_1
    refine lv_iconst (v := (1 : Int32)) hx hb dX7_isFarRule_20 (by decide) ?_
    refine lv_goto (tgt := 25) hx hb dX7_isFarRule_21 (by decide) ?_
    have hP9 := hP.sub (ws' := []) [] rfl
    have hD9 := hD.sub (ws' := []) [] (by decide) rfl
    exact W.zret (v := (1 : Int32)) hx hb hr (by decide) (fun t ht hW => ⟨⟨_, (), rfl, h, by rw [ht]; exact hP9, hD9⟩, hS.F ht⟩) hS.2.2 dX7_isFarRule_25
  · replace h := h.2 c_1
    refine lv_iload_n hx hb dX7_isFarRule_4 rfl (lv_at hl 0 rfl) ?_
    refine lv_iconst (v := (1 : Int32)) hx hb dX7_isFarRule_5 (by decide) ?_
    refine lv_icmp_eq (tgt := 20) hx hb dX7_isFarRule_6 (by decide) (fun c_2 => ?_) (fun c_2 => ?_)
    · replace h := h.1 c_2
      refine lv_iconst (v := (1 : Int32)) hx hb dX7_isFarRule_20 (by decide) ?_
      refine lv_goto (tgt := 25) hx hb dX7_isFarRule_21 (by decide) ?_
      have hP9 := hP.sub (ws' := []) [] rfl
      have hD9 := hD.sub (ws' := []) [] (by decide) rfl
      exact W.zret (v := (1 : Int32)) hx hb hr (by decide) (fun t ht hW => ⟨⟨_, (), rfl, h, by rw [ht]; exact hP9, hD9⟩, hS.F ht⟩) hS.2.2 dX7_isFarRule_25
    · replace h := h.2 c_2
      refine lv_iload_n hx hb dX7_isFarRule_9 rfl (lv_at hl 0 rfl) ?_
      refine lv_iconst (v := (2 : Int32)) hx hb dX7_isFarRule_10 (by decide) ?_
      refine lv_icmp_eq (tgt := 20) hx hb dX7_isFarRule_11 (by decide) (fun c_3 => ?_) (fun c_3 => ?_)
      · replace h := h.1 c_3
        refine lv_iconst (v := (1 : Int32)) hx hb dX7_isFarRule_20 (by decide) ?_
        refine lv_goto (tgt := 25) hx hb dX7_isFarRule_21 (by decide) ?_
        have hP9 := hP.sub (ws' := []) [] rfl
        have hD9 := hD.sub (ws' := []) [] (by decide) rfl
        exact W.zret (v := (1 : Int32)) hx hb hr (by decide) (fun t ht hW => ⟨⟨_, (), rfl, h, by rw [ht]; exact hP9, hD9⟩, hS.F ht⟩) hS.2.2 dX7_isFarRule_25
      · replace h := h.2 c_3
        refine lv_iload_n hx hb dX7_isFarRule_14 rfl (lv_at hl 0 rfl) ?_
        refine lv_bipush (v := (9 : Int32)) hx hb dX7_isFarRule_15 (by decide) ?_
        refine lv_icmp_ne (tgt := 24) hx hb dX7_isFarRule_17 (by decide) (fun c_4 => ?_) (fun c_4 => ?_)
        · replace h := h.2 c_4
          refine lv_iconst (v := (0 : Int32)) hx hb dX7_isFarRule_24 (by decide) ?_
          have hP9 := hP.sub (ws' := []) [] rfl
          have hD9 := hD.sub (ws' := []) [] (by decide) rfl
          exact W.zret (v := (0 : Int32)) hx hb hr (by decide) (fun t ht hW => ⟨⟨_, (), rfl, h, by rw [ht]; exact hP9, hD9⟩, hS.F ht⟩) hS.2.2 dX7_isFarRule_25
        · replace h := h.1 c_4
          refine lv_iconst (v := (1 : Int32)) hx hb dX7_isFarRule_20 (by decide) ?_
          refine lv_goto (tgt := 25) hx hb dX7_isFarRule_21 (by decide) ?_
          have hP9 := hP.sub (ws' := []) [] rfl
          have hD9 := hD.sub (ws' := []) [] (by decide) rfl
          exact W.zret (v := (1 : Int32)) hx hb hr (by decide) (fun t ht hW => ⟨⟨_, (), rfl, h, by rw [ht]; exact hP9, hD9⟩, hS.F ht⟩) hS.2.2 dX7_isFarRule_25
def wp_X7_squaresUpTo  (p0 : Int64) (Q : Int64 → Prop) : Prop :=
  (∀ x2_1 : Int64, x2_1 = ((p0 * (p0 + (1 : Int64))) / (2 : Int64)) → (∀ x4_2 : Int64, x4_2 = (((2 : Int64) * p0) + (1 : Int64)) → (((x2_1 - x2_1 / (3 : Int64) * (3 : Int64)) = (0 : Int64) → Q ((x2_1 / (3 : Int64)) * x4_2)) ∧ (¬ (x2_1 - x2_1 / (3 : Int64) * (3 : Int64)) = (0 : Int64) → Q (x2_1 * (x4_2 / (3 : Int64)))))))
abbrev rm_X7_squaresUpTo : Room := { frames := 0, cells := 0, slots := 0, locals := 0 }
abbrev qc_X7_squaresUpTo (dC : Nat → ClassId) (dI : Nat → Nat → Nat) (cI cJ cZ : ClassId)  (Q : Int64 → Prop) (A : Nat → Prop) : Array Value → State → Outcome → State → Prop := va_Ql (fun (r : Int64) (_ : Unit) => Q r) (post_ dC dI A (fun (_ : Unit) => ([] : va_W))) A
set_option maxHeartbeats 4000000 in
set_option maxRecDepth 100000 in
theorem c_X7_squaresUpTo (l : Launch) (dC : Nat → ClassId) (dI : Nat → Nat → Nat) (cI cJ cZ : ClassId) (sz : Nat)  (p0 : Int64) (Q : Int64 → Prop) (hQ : wp_X7_squaresUpTo p0 Q) : Met l yX7_squaresUpTo wsX7_squaresUpTo rm_X7_squaresUpTo (pre_ dC dI cI cJ cZ [.long p0] ([] : va_W) sz) (qc_X7_squaresUpTo dC dI cI cJ cZ Q (va_A ([] : va_W) sz)) 0 0 (va_A ([] : va_W) sz) := by
  refine Met.ofW (cc := cX7_squaresUpTo) (maxL := 6) (ret := (some .long)) (by decide) rfl ?_
  intro p e s m args below meth c s₁ B hml hv
  obtain ⟨rfl, hsz, hP, hK, hN, hD0⟩ := hv
  have hx := B.exec
  have hb := B.bytes
  have hr := B.returns
  have hts := atoms_spec (ws := wsX7_squaresUpTo) B.pre
  have hown : s.vm.findClass RX7 = some m.cls := findClass_of_methodNamed B.named
  subst hsz
  have hD := hD0.self (sz := s.heap.size)
  generalize hAe : va_A ([] : va_W) s.heap.size = A at hD ⊢
  have hA : ∀ q : Nat, s.heap.size ≤ q → A q := fun q h => by rw [← hAe]; exact Or.inr h
  have hS : va_S A s.heap s.heap [] := va_S.rf
  have hl := lv_entry ([.long p0]) (n := 6) (Nat.le_of_ble_eq_true rfl)
  rw [lg_entry_eq]
  generalize (lg_sl ([.long p0]) ++ List.replicate (6 - (lg_sl ([.long p0])).length) Slot.unset).toArray = ls at hl ⊢
  have hl : lv_has ls 6 [(0, .long p0)] := hl
  have h := hQ
  unfold wp_X7_squaresUpTo at h
  have hw_0 := hts (.constantLong RX7 7 (2)) (by decide +kernel)
  have hw_1 := hts (.constantLong RX7 25 (3)) (by decide +kernel)
  refine lv_lload_n hx hb dX7_squaresUpTo_0 rfl (lv_at hl 0 rfl) ?_
  refine lv_lload_n hx hb dX7_squaresUpTo_1 rfl (lv_at hl 0 rfl) ?_
  refine lv_lconst (v := (1 : Int64)) hx hb dX7_squaresUpTo_2 (by decide) ?_
  refine lv_ladd hx hb dX7_squaresUpTo_3 ?_
  refine lv_lmul hx hb dX7_squaresUpTo_4 ?_
  refine lv_ldc2 hx hb hown hw_0 dX7_squaresUpTo_5 ?_
  refine lv_ldiv hx hb dX7_squaresUpTo_8 (by decide) ?_
  refine lv_topl (fun x2_1 e_x2_1 => ?_)
  replace h := h x2_1 e_x2_1
  refine lv_lstore_n (lv' := [(2, .long x2_1), (0, .long p0)]) hx hb dX7_squaresUpTo_9 rfl hl (by decide) rfl (fun ls hl => ?_)
  refine lv_ldc2 hx hb hown hw_0 dX7_squaresUpTo_10 ?_
  refine lv_lload_n hx hb dX7_squaresUpTo_13 rfl (lv_at hl 1 rfl) ?_
  refine lv_lmul hx hb dX7_squaresUpTo_14 ?_
  refine lv_lconst (v := (1 : Int64)) hx hb dX7_squaresUpTo_15 (by decide) ?_
  refine lv_ladd hx hb dX7_squaresUpTo_16 ?_
  refine lv_topl (fun x4_2 e_x4_2 => ?_)
  replace h := h x4_2 e_x4_2
  refine lv_lstore (lv' := [(4, .long x4_2), (2, .long x2_1), (0, .long p0)]) hx hb dX7_squaresUpTo_17 hl (by decide) rfl (fun ls hl => ?_)
  refine lv_lload_n hx hb dX7_squaresUpTo_19 rfl (lv_at hl 1 rfl) ?_
  refine lv_ldc2 hx hb hown hw_1 dX7_squaresUpTo_20 ?_
  refine lv_lrem hx hb dX7_squaresUpTo_23 (by decide) ?_
  refine lv_lconst (v := (0 : Int64)) hx hb dX7_squaresUpTo_24 (by decide) ?_
  refine W.lcmp hx hb dX7_squaresUpTo_25 ?_
  refine lv_if_ne (tgt := 40) hx hb dX7_squaresUpTo_26 (by decide) (fun c_3 => ?_) (fun c_3 => ?_)
  · replace c_3 := lc_neq c_3
    replace h := h.2 c_3
    refine lv_lload_n hx hb dX7_squaresUpTo_40 rfl (lv_at hl 1 rfl) ?_
    refine lv_lload hx hb dX7_squaresUpTo_41 (lv_at hl 0 rfl) ?_
    refine lv_ldc2 hx hb hown hw_1 dX7_squaresUpTo_43 ?_
    refine lv_ldiv hx hb dX7_squaresUpTo_46 (by decide) ?_
    refine lv_lmul hx hb dX7_squaresUpTo_47 ?_
    have hP9 := hP.sub (ws' := []) [] rfl
    have hD9 := hD.sub (ws' := []) [] (by decide) rfl
    exact W.lret (v := (x2_1 * (x4_2 / (3 : Int64)))) hx hb hr (fun t ht hW => ⟨⟨_, (), rfl, h, by rw [ht]; exact hP9, hD9⟩, hS.F ht⟩) hS.2.2 dX7_squaresUpTo_48
  · replace c_3 := (lg_cmp_eq _ _).mp c_3
    replace h := h.1 c_3
    refine lv_lload_n hx hb dX7_squaresUpTo_29 rfl (lv_at hl 1 rfl) ?_
    refine lv_ldc2 hx hb hown hw_1 dX7_squaresUpTo_30 ?_
    refine lv_ldiv hx hb dX7_squaresUpTo_33 (by decide) ?_
    refine lv_lload hx hb dX7_squaresUpTo_34 (lv_at hl 0 rfl) ?_
    refine lv_lmul hx hb dX7_squaresUpTo_36 ?_
    refine lv_goto (tgt := 48) hx hb dX7_squaresUpTo_37 (by decide) ?_
    have hP9 := hP.sub (ws' := []) [] rfl
    have hD9 := hD.sub (ws' := []) [] (by decide) rfl
    exact W.lret (v := ((x2_1 / (3 : Int64)) * x4_2)) hx hb hr (fun t ht hW => ⟨⟨_, (), rfl, h, by rw [ht]; exact hP9, hD9⟩, hS.F ht⟩) hS.2.2 dX7_squaresUpTo_48
def wp_X7_ruleAt  (p0 : Int32) (p1 : Int64) (Q : Int64 → Prop) : Prop :=
  ((p0 = (0 : Int32) → ((p1 = (1 : Int64) → Q (1 : Int64)) ∧ (¬ p1 = (1 : Int64) → Q (0 : Int64)))) ∧ (p0 = (1 : Int32) → Q (1 : Int64)) ∧ (p0 = (2 : Int32) → Q p1) ∧ (¬ p0 = (0 : Int32) → ¬ p0 = (1 : Int32) → ¬ p0 = (2 : Int32) → Q (p1 * p1)))
abbrev rm_X7_ruleAt : Room := { frames := 0, cells := 0, slots := 0, locals := 0 }
abbrev qc_X7_ruleAt (dC : Nat → ClassId) (dI : Nat → Nat → Nat) (cI cJ cZ : ClassId)  (Q : Int64 → Prop) (A : Nat → Prop) : Array Value → State → Outcome → State → Prop := va_Ql (fun (r : Int64) (_ : Unit) => Q r) (post_ dC dI A (fun (_ : Unit) => ([] : va_W))) A
set_option maxHeartbeats 4000000 in
set_option maxRecDepth 100000 in
theorem c_X7_ruleAt (l : Launch) (dC : Nat → ClassId) (dI : Nat → Nat → Nat) (cI cJ cZ : ClassId) (sz : Nat)  (p0 : Int32) (p1 : Int64) (Q : Int64 → Prop) (hQ : wp_X7_ruleAt p0 p1 Q) : Met l yX7_ruleAt wsX7_ruleAt rm_X7_ruleAt (pre_ dC dI cI cJ cZ [.int p0, .long p1] ([] : va_W) sz) (qc_X7_ruleAt dC dI cI cJ cZ Q (va_A ([] : va_W) sz)) 0 0 (va_A ([] : va_W) sz) := by
  refine Met.ofW (cc := cX7_ruleAt) (maxL := 3) (ret := (some .long)) (by decide) rfl ?_
  intro p e s m args below meth c s₁ B hml hv
  obtain ⟨rfl, hsz, hP, hK, hN, hD0⟩ := hv
  have hx := B.exec
  have hb := B.bytes
  have hr := B.returns
  have hts := atoms_spec (ws := wsX7_ruleAt) B.pre
  have hown : s.vm.findClass RX7 = some m.cls := findClass_of_methodNamed B.named
  subst hsz
  have hD := hD0.self (sz := s.heap.size)
  generalize hAe : va_A ([] : va_W) s.heap.size = A at hD ⊢
  have hA : ∀ q : Nat, s.heap.size ≤ q → A q := fun q h => by rw [← hAe]; exact Or.inr h
  have hS : va_S A s.heap s.heap [] := va_S.rf
  have hl := lv_entry ([.int p0, .long p1]) (n := 3) (Nat.le_of_ble_eq_true rfl)
  rw [lg_entry_eq]
  generalize (lg_sl ([.int p0, .long p1]) ++ List.replicate (3 - (lg_sl ([.int p0, .long p1])).length) Slot.unset).toArray = ls at hl ⊢
  have hl : lv_has ls 3 [(0, .int p0), (1, .long p1)] := hl
  have h := hQ
  unfold wp_X7_ruleAt at h
  refine lv_iload_n hx hb dX7_ruleAt_0 rfl (lv_at hl 0 rfl) ?_
  by_cases c_1 : p0 = (0 : Int32)
  · refine lv_tableIn (off := 27) (tgt := 28) hx hb dX7_ruleAt_1 (by rw [c_1]; decide) (by rw [c_1]; decide) (by rw [c_1]; rfl) (by decide) ?_
    replace h := h.1 c_1
    refine lv_lload_n hx hb dX7_ruleAt_28 rfl (lv_at hl 1 rfl) ?_
    refine lv_lconst (v := (1 : Int64)) hx hb dX7_ruleAt_29 (by decide) ?_
    refine W.lcmp hx hb dX7_ruleAt_30 ?_
    refine lv_if_ne (tgt := 38) hx hb dX7_ruleAt_31 (by decide) (fun c_2 => ?_) (fun c_2 => ?_)
    · replace c_2 := lc_neq c_2
      replace h := h.2 c_2
      refine lv_lconst (v := (0 : Int64)) hx hb dX7_ruleAt_38 (by decide) ?_
      have hP9 := hP.sub (ws' := []) [] rfl
      have hD9 := hD.sub (ws' := []) [] (by decide) rfl
      exact W.lret (v := (0 : Int64)) hx hb hr (fun t ht hW => ⟨⟨_, (), rfl, h, by rw [ht]; exact hP9, hD9⟩, hS.F ht⟩) hS.2.2 dX7_ruleAt_39
    · replace c_2 := (lg_cmp_eq _ _).mp c_2
      replace h := h.1 c_2
      refine lv_lconst (v := (1 : Int64)) hx hb dX7_ruleAt_34 (by decide) ?_
      refine lv_goto (tgt := 39) hx hb dX7_ruleAt_35 (by decide) ?_
      have hP9 := hP.sub (ws' := []) [] rfl
      have hD9 := hD.sub (ws' := []) [] (by decide) rfl
      exact W.lret (v := (1 : Int64)) hx hb hr (fun t ht hW => ⟨⟨_, (), rfl, h, by rw [ht]; exact hP9, hD9⟩, hS.F ht⟩) hS.2.2 dX7_ruleAt_39
  by_cases c_3 : p0 = (1 : Int32)
  · refine lv_tableIn (off := 39) (tgt := 40) hx hb dX7_ruleAt_1 (by rw [c_3]; decide) (by rw [c_3]; decide) (by rw [c_3]; rfl) (by decide) ?_
    replace h := h.2.1 c_3
    refine lv_lconst (v := (1 : Int64)) hx hb dX7_ruleAt_40 (by decide) ?_
    have hP9 := hP.sub (ws' := []) [] rfl
    have hD9 := hD.sub (ws' := []) [] (by decide) rfl
    exact W.lret (v := (1 : Int64)) hx hb hr (fun t ht hW => ⟨⟨_, (), rfl, h, by rw [ht]; exact hP9, hD9⟩, hS.F ht⟩) hS.2.2 dX7_ruleAt_41
  by_cases c_4 : p0 = (2 : Int32)
  · refine lv_tableIn (off := 41) (tgt := 42) hx hb dX7_ruleAt_1 (by rw [c_4]; decide) (by rw [c_4]; decide) (by rw [c_4]; rfl) (by decide) ?_
    replace h := h.2.2.1 c_4
    refine lv_lload_n hx hb dX7_ruleAt_42 rfl (lv_at hl 1 rfl) ?_
    have hP9 := hP.sub (ws' := []) [] rfl
    have hD9 := hD.sub (ws' := []) [] (by decide) rfl
    exact W.lret (v := p1) hx hb hr (fun t ht hW => ⟨⟨_, (), rfl, h, by rw [ht]; exact hP9, hD9⟩, hS.F ht⟩) hS.2.2 dX7_ruleAt_43
  have t0 : p0.toInt ≠ 0 := fun q => c_1 (Int32.toInt_inj.mp (q.trans (by decide)))
  have t1 : p0.toInt ≠ 1 := fun q => c_3 (Int32.toInt_inj.mp (q.trans (by decide)))
  have t2 : p0.toInt ≠ 2 := fun q => c_4 (Int32.toInt_inj.mp (q.trans (by decide)))
  refine lv_tableOut (tgt := 44) hx hb dX7_ruleAt_1 (by omega) (by decide) ?_
  replace h := h.2.2.2 c_1 c_3 c_4
  refine lv_lload_n hx hb dX7_ruleAt_44 rfl (lv_at hl 1 rfl) ?_
  refine lv_lload_n hx hb dX7_ruleAt_45 rfl (lv_at hl 1 rfl) ?_
  refine lv_lmul hx hb dX7_ruleAt_46 ?_
  have hP9 := hP.sub (ws' := []) [] rfl
  have hD9 := hD.sub (ws' := []) [] (by decide) rfl
  exact W.lret (v := (p1 * p1)) hx hb hr (fun t ht hW => ⟨⟨_, (), rfl, h, by rw [ht]; exact hP9, hD9⟩, hS.F ht⟩) hS.2.2 dX7_ruleAt_47
def wp_X7_ruleUpTo  (p0 : Int32) (p1 : Int64) (Q : Int64 → Prop) : Prop :=
  ((p0 = (0 : Int32) → ((p1 < (1 : Int64) → Q (0 : Int64)) ∧ (¬ p1 < (1 : Int64) → Q (1 : Int64)))) ∧ (p0 = (1 : Int32) → Q p1) ∧ (p0 = (2 : Int32) → Q ((p1 * (p1 + (1 : Int64))) / (2 : Int64))) ∧ (¬ p0 = (0 : Int32) → ¬ p0 = (1 : Int32) → ¬ p0 = (2 : Int32) → wp_X7_squaresUpTo p1 (fun r_5 => Q r_5)))
abbrev rm_X7_ruleUpTo : Room := { frames := 1, cells := 0, slots := 0, locals := 25 }
abbrev qc_X7_ruleUpTo (dC : Nat → ClassId) (dI : Nat → Nat → Nat) (cI cJ cZ : ClassId)  (Q : Int64 → Prop) (A : Nat → Prop) : Array Value → State → Outcome → State → Prop := va_Ql (fun (r : Int64) (_ : Unit) => Q r) (post_ dC dI A (fun (_ : Unit) => ([] : va_W))) A
set_option maxHeartbeats 4000000 in
set_option maxRecDepth 100000 in
theorem c_X7_ruleUpTo (l : Launch) (dC : Nat → ClassId) (dI : Nat → Nat → Nat) (cI cJ cZ : ClassId) (sz : Nat)  (p0 : Int32) (p1 : Int64) (Q : Int64 → Prop) (hQ : wp_X7_ruleUpTo p0 p1 Q) : Met l yX7_ruleUpTo wsX7_ruleUpTo rm_X7_ruleUpTo (pre_ dC dI cI cJ cZ [.int p0, .long p1] ([] : va_W) sz) (qc_X7_ruleUpTo dC dI cI cJ cZ Q (va_A ([] : va_W) sz)) 0 0 (va_A ([] : va_W) sz) := by
  refine Met.ofW (cc := cX7_ruleUpTo) (maxL := 3) (ret := (some .long)) (by decide) rfl ?_
  intro p e s m args below meth c s₁ B hml hv
  obtain ⟨rfl, hsz, hP, hK, hN, hD0⟩ := hv
  have hx := B.exec
  have hb := B.bytes
  have hr := B.returns
  have hts := atoms_spec (ws := wsX7_ruleUpTo) B.pre
  have hown : s.vm.findClass RX7 = some m.cls := findClass_of_methodNamed B.named
  subst hsz
  have hD := hD0.self (sz := s.heap.size)
  generalize hAe : va_A ([] : va_W) s.heap.size = A at hD ⊢
  have hA : ∀ q : Nat, s.heap.size ≤ q → A q := fun q h => by rw [← hAe]; exact Or.inr h
  have hS : va_S A s.heap s.heap [] := va_S.rf
  have hl := lv_entry ([.int p0, .long p1]) (n := 3) (Nat.le_of_ble_eq_true rfl)
  rw [lg_entry_eq]
  generalize (lg_sl ([.int p0, .long p1]) ++ List.replicate (3 - (lg_sl ([.int p0, .long p1])).length) Slot.unset).toArray = ls at hl ⊢
  have hl : lv_has ls 3 [(0, .int p0), (1, .long p1)] := hl
  have h := hQ
  unfold wp_X7_ruleUpTo at h
  have hw_0 := hts (.constantLong RX7 7 (2)) (by decide +kernel)
  refine lv_iload_n hx hb dX7_ruleUpTo_0 rfl (lv_at hl 0 rfl) ?_
  by_cases c_1 : p0 = (0 : Int32)
  · refine lv_tableIn (off := 27) (tgt := 28) hx hb dX7_ruleUpTo_1 (by rw [c_1]; decide) (by rw [c_1]; decide) (by rw [c_1]; rfl) (by decide) ?_
    replace h := h.1 c_1
    refine lv_lload_n hx hb dX7_ruleUpTo_28 rfl (lv_at hl 1 rfl) ?_
    refine lv_lconst (v := (1 : Int64)) hx hb dX7_ruleUpTo_29 (by decide) ?_
    refine W.lcmp hx hb dX7_ruleUpTo_30 ?_
    refine lv_if_lt (tgt := 38) hx hb dX7_ruleUpTo_31 (by decide) (fun c_2 => ?_) (fun c_2 => ?_)
    · replace c_2 := (lg_cmp_lt _ _).mp c_2
      replace h := h.1 c_2
      refine lv_lconst (v := (0 : Int64)) hx hb dX7_ruleUpTo_38 (by decide) ?_
      have hP9 := hP.sub (ws' := []) [] rfl
      have hD9 := hD.sub (ws' := []) [] (by decide) rfl
      exact W.lret (v := (0 : Int64)) hx hb hr (fun t ht hW => ⟨⟨_, (), rfl, h, by rw [ht]; exact hP9, hD9⟩, hS.F ht⟩) hS.2.2 dX7_ruleUpTo_39
    · replace c_2 := lc_nlt c_2
      replace h := h.2 c_2
      refine lv_lconst (v := (1 : Int64)) hx hb dX7_ruleUpTo_34 (by decide) ?_
      refine lv_goto (tgt := 39) hx hb dX7_ruleUpTo_35 (by decide) ?_
      have hP9 := hP.sub (ws' := []) [] rfl
      have hD9 := hD.sub (ws' := []) [] (by decide) rfl
      exact W.lret (v := (1 : Int64)) hx hb hr (fun t ht hW => ⟨⟨_, (), rfl, h, by rw [ht]; exact hP9, hD9⟩, hS.F ht⟩) hS.2.2 dX7_ruleUpTo_39
  by_cases c_3 : p0 = (1 : Int32)
  · refine lv_tableIn (off := 39) (tgt := 40) hx hb dX7_ruleUpTo_1 (by rw [c_3]; decide) (by rw [c_3]; decide) (by rw [c_3]; rfl) (by decide) ?_
    replace h := h.2.1 c_3
    refine lv_lload_n hx hb dX7_ruleUpTo_40 rfl (lv_at hl 1 rfl) ?_
    have hP9 := hP.sub (ws' := []) [] rfl
    have hD9 := hD.sub (ws' := []) [] (by decide) rfl
    exact W.lret (v := p1) hx hb hr (fun t ht hW => ⟨⟨_, (), rfl, h, by rw [ht]; exact hP9, hD9⟩, hS.F ht⟩) hS.2.2 dX7_ruleUpTo_41
  by_cases c_4 : p0 = (2 : Int32)
  · refine lv_tableIn (off := 41) (tgt := 42) hx hb dX7_ruleUpTo_1 (by rw [c_4]; decide) (by rw [c_4]; decide) (by rw [c_4]; rfl) (by decide) ?_
    replace h := h.2.2.1 c_4
    refine lv_lload_n hx hb dX7_ruleUpTo_42 rfl (lv_at hl 1 rfl) ?_
    refine lv_lload_n hx hb dX7_ruleUpTo_43 rfl (lv_at hl 1 rfl) ?_
    refine lv_lconst (v := (1 : Int64)) hx hb dX7_ruleUpTo_44 (by decide) ?_
    refine lv_ladd hx hb dX7_ruleUpTo_45 ?_
    refine lv_lmul hx hb dX7_ruleUpTo_46 ?_
    refine lv_ldc2 hx hb hown hw_0 dX7_ruleUpTo_47 ?_
    refine lv_ldiv hx hb dX7_ruleUpTo_50 (by decide) ?_
    have hP9 := hP.sub (ws' := []) [] rfl
    have hD9 := hD.sub (ws' := []) [] (by decide) rfl
    exact W.lret (v := ((p1 * (p1 + (1 : Int64))) / (2 : Int64))) hx hb hr (fun t ht hW => ⟨⟨_, (), rfl, h, by rw [ht]; exact hP9, hD9⟩, hS.F ht⟩) hS.2.2 dX7_ruleUpTo_51
  have t0 : p0.toInt ≠ 0 := fun q => c_1 (Int32.toInt_inj.mp (q.trans (by decide)))
  have t1 : p0.toInt ≠ 1 := fun q => c_3 (Int32.toInt_inj.mp (q.trans (by decide)))
  have t2 : p0.toInt ≠ 2 := fun q => c_4 (Int32.toInt_inj.mp (q.trans (by decide)))
  refine lv_tableOut (tgt := 52) hx hb dX7_ruleUpTo_1 (by omega) (by decide) ?_
  replace h := h.2.2.2 c_1 c_3 c_4
  refine lv_lload_n hx hb dX7_ruleUpTo_52 rfl (lv_at hl 1 rfl) ?_
  have hPc := hP.sub (ws' := []) [] rfl
  have hDc := hD.sub (ws' := []) [] (by decide) rfl
  have hFc := va_free (wc := []) hD hS hA [] rfl
  refine va_calll (va_runS (As := [.long p1]) (rest := []) ⟨hx, hb, hml, hown, hts⟩ (c_X7_squaresUpTo l dC dI cI cJ cZ _ p1 _ h) (va_cwS 1 hts gX7_ruleUpTo_X7_squaresUpTo rfl rfl rfl (by decide +kernel) ⟨Nat.le_of_ble_eq_true rfl, Nat.le_of_ble_eq_true rfl⟩) ⟨pre_fb, pre_of hPc hDc hK hN⟩ rfl rfl hl.1 rfl (lv_room (Nat.le_of_ble_eq_true rfl)) dX7_ruleUpTo_53 ⟨by first | exact Nat.le_of_ble_eq_true rfl | exact Nat.le_refl _, by first | exact Nat.le_of_ble_eq_true rfl | exact Nat.le_refl _⟩) hS (fun q _ h => hFc q h) hFc (fun r_5 u t H1 locs ht hvm h hB hz1 hk1 hS => ?_)
  obtain ⟨hP1, hD1⟩ := hB
  rw [ht] at hP1
  try dsimp only at h
  obtain ⟨hP, hD⟩ := va_join (wr := []) (w1 := []) hP hD [] [] rfl rfl (by decide) (by decide) hk1 hFc hP1 hD1
  generalize H1 = H at hP hS ⊢
  have hP : va_P (dC, dI) vwCl [] H := hP
  have hD : va_D A [] := hD
  have hP9 := hP.sub (ws' := []) [] rfl
  have hD9 := hD.sub (ws' := []) [] (by decide) rfl
  exact W.lret (v := r_5) hx hb hr (fun t ht hW => ⟨⟨_, (), rfl, h, by rw [ht]; exact hP9, hD9⟩, hS.F ht⟩) hS.2.2 dX7_ruleUpTo_56
def wp_X7_farSum  (p0 : Int32) (p1 : Int32) (p2 : Int32) (Q : Int64 → Prop) : Prop :=
  wp_X7_root (p2.toInt64) (fun r_1 => (∃ (I_12_1 : Int64 → Int64 → Prop) (m_12_1 : Int64 → Int64 → Nat), I_12_1 (1 : Int64) (0 : Int64) ∧ ∀ (l7_12_1 : Int64) (l5_12_1 : Int64), I_12_1 l7_12_1 l5_12_1 → ((r_1 < l7_12_1 → wp_X7_ruleUpTo p0 r_1 (fun r_4 => wp_X7_ruleUpTo p1 r_1 (fun r_5 => Q (l5_12_1 - (r_4 * r_5))))) ∧ (¬ r_1 < l7_12_1 → (¬ l7_12_1 = 0 ∧ (∀ x9_7 : Int64, x9_7 = (p2.toInt64 / l7_12_1) → wp_X7_ruleAt p0 l7_12_1 (fun r_8 => wp_X7_ruleUpTo p1 x9_7 (fun r_9 => wp_X7_ruleAt p1 l7_12_1 (fun r_10 => wp_X7_ruleUpTo p0 x9_7 (fun r_11 => (∀ x5_12 : Int64, x5_12 = (l5_12_1 + ((r_8 * r_9) + (r_10 * r_11))) → (∀ x7_13 : Int64, x7_13 = (l7_12_1 + (1 : Int64)) → (I_12_1 x7_13 x5_12 ∧ m_12_1 x7_13 x5_12 < m_12_1 l7_12_1 l5_12_1)))))))))))))
abbrev rm_X7_farSum : Room := { frames := 2, cells := 0, slots := 0, locals := 47 }
abbrev qc_X7_farSum (dC : Nat → ClassId) (dI : Nat → Nat → Nat) (cI cJ cZ : ClassId)  (Q : Int64 → Prop) (A : Nat → Prop) : Array Value → State → Outcome → State → Prop := va_Ql (fun (r : Int64) (_ : Unit) => Q r) (post_ dC dI A (fun (_ : Unit) => ([] : va_W))) A
set_option maxHeartbeats 4000000 in
set_option maxRecDepth 100000 in
theorem c_X7_farSum (l : Launch) (dC : Nat → ClassId) (dI : Nat → Nat → Nat) (cI cJ cZ : ClassId) (sz : Nat)  (p0 : Int32) (p1 : Int32) (p2 : Int32) (Q : Int64 → Prop) (hQ : wp_X7_farSum p0 p1 p2 Q) : Met l yX7_farSum wsX7_farSum rm_X7_farSum (pre_ dC dI cI cJ cZ [.int p0, .int p1, .int p2] ([] : va_W) sz) (qc_X7_farSum dC dI cI cJ cZ Q (va_A ([] : va_W) sz)) 0 0 (va_A ([] : va_W) sz) := by
  refine Met.ofW (cc := cX7_farSum) (maxL := 11) (ret := (some .long)) (by decide) rfl ?_
  intro p e s m args below meth c s₁ B hml hv
  obtain ⟨rfl, hsz, hP, hK, hN, hD0⟩ := hv
  have hx := B.exec
  have hb := B.bytes
  have hr := B.returns
  have hts := atoms_spec (ws := wsX7_farSum) B.pre
  have hown : s.vm.findClass RX7 = some m.cls := findClass_of_methodNamed B.named
  subst hsz
  have hD := hD0.self (sz := s.heap.size)
  generalize hAe : va_A ([] : va_W) s.heap.size = A at hD ⊢
  have hA : ∀ q : Nat, s.heap.size ≤ q → A q := fun q h => by rw [← hAe]; exact Or.inr h
  have hS : va_S A s.heap s.heap [] := va_S.rf
  have hl := lv_entry ([.int p0, .int p1, .int p2]) (n := 11) (Nat.le_of_ble_eq_true rfl)
  rw [lg_entry_eq]
  generalize (lg_sl ([.int p0, .int p1, .int p2]) ++ List.replicate (11 - (lg_sl ([.int p0, .int p1, .int p2])).length) Slot.unset).toArray = ls at hl ⊢
  have hl : lv_has ls 11 [(0, .int p0), (1, .int p1), (2, .int p2)] := hl
  have h := hQ
  unfold wp_X7_farSum at h
  refine lv_iload_n hx hb dX7_farSum_0 rfl (lv_at hl 2 rfl) ?_
  refine lv_i2l hx hb dX7_farSum_1 rfl ?_
  have hPc := hP.sub (ws' := []) [] rfl
  have hDc := hD.sub (ws' := []) [] (by decide) rfl
  have hFc := va_free (wc := []) hD hS hA [] rfl
  refine va_calll (va_runS (As := [.long p2.toInt64]) (rest := []) ⟨hx, hb, hml, hown, hts⟩ (c_X7_root l dC dI cI cJ cZ _ (p2.toInt64) _ h) (va_cwS 1 hts gX7_farSum_X7_root rfl rfl rfl (by decide +kernel) ⟨Nat.le_of_ble_eq_true rfl, Nat.le_of_ble_eq_true rfl⟩) ⟨pre_fb, pre_of hPc hDc hK hN⟩ rfl rfl hl.1 rfl (lv_room (Nat.le_of_ble_eq_true rfl)) dX7_farSum_2 ⟨by first | exact Nat.le_of_ble_eq_true rfl | exact Nat.le_refl _, by first | exact Nat.le_of_ble_eq_true rfl | exact Nat.le_refl _⟩) hS (fun q _ h => hFc q h) hFc (fun r_1 u t H1 locs ht hvm h hB hz1 hk1 hS => ?_)
  obtain ⟨hP1, hD1⟩ := hB
  rw [ht] at hP1
  try dsimp only at h
  obtain ⟨hP, hD⟩ := va_join (wr := []) (w1 := []) hP hD [] [] rfl rfl (by decide) (by decide) hk1 hFc hP1 hD1
  generalize H1 = H at hP hS ⊢
  have hP : va_P (dC, dI) vwCl [] H := hP
  have hD : va_D A [] := hD
  refine lv_lstore_n (lv' := [(3, .long r_1), (0, .int p0), (1, .int p1), (2, .int p2)]) hx hb dX7_farSum_5 rfl hl (by decide) rfl (fun ls hl => ?_)
  refine lv_lconst (v := (0 : Int64)) hx hb dX7_farSum_6 (by decide) ?_
  refine lv_lstore (lv' := [(5, .long (0 : Int64)), (3, .long r_1), (0, .int p0), (1, .int p1), (2, .int p2)]) hx hb dX7_farSum_7 hl (by decide) rfl (fun ls hl => ?_)
  refine lv_lconst (v := (1 : Int64)) hx hb dX7_farSum_9 (by decide) ?_
  refine lv_lstore (lv' := [(7, .long (1 : Int64)), (5, .long (0 : Int64)), (3, .long r_1), (0, .int p0), (1, .int p1), (2, .int p2)]) hx hb dX7_farSum_10 hl (by decide) rfl (fun ls hl => ?_)
  obtain ⟨I_12_1, m_12_1, h0_12_1, hs_12_1⟩ := h
  have key_12_1 : ∀ (n : Nat) (l7_12_1 : Int64) (l5_12_1 : Int64), m_12_1 l7_12_1 l5_12_1 < n → I_12_1 l7_12_1 l5_12_1 → ∀ (ls : Array Slot) (H : Heap) (locs : List Loc), lv_has ls 11 [(7, .long l7_12_1), (5, .long l5_12_1), (3, .long r_1), (0, .int p0), (1, .int p1), (2, .int p2)] → va_P (dC, dI) vwCl [] H → va_D A [] → va_S A s.heap H locs → W p l e (headSpec wsX7_farSum rm_X7_farSum).room s m ([.int p0, .int p1, .int p2] : List Value).toArray below meth c H locs 0 0 (MQ below (qc_X7_farSum dC dI cI cJ cZ Q A) ([.int p0, .int p1, .int p2] : List Value).toArray s 0 0 A) (F0 m 12 ls []) := by
    intro n
    induction n with
    | zero =>
      intro l7_12_1 l5_12_1 hm
      exact absurd hm (Nat.not_lt_zero _)
    | succ n ih_12_1 =>
      intro l7_12_1 l5_12_1 hm_12_1 hI ls H locs hl hP hD hS
      have h := hs_12_1 l7_12_1 l5_12_1 hI
      refine lv_lload hx hb dX7_farSum_12 (lv_at hl 0 rfl) ?_
      refine lv_lload_n hx hb dX7_farSum_14 rfl (lv_at hl 2 rfl) ?_
      refine W.lcmp hx hb dX7_farSum_15 ?_
      refine lv_if_gt (tgt := 67) hx hb dX7_farSum_16 (by decide) (fun c_3 => ?_) (fun c_3 => ?_)
      · replace c_3 := (lg_cmp_gt _ _).mp c_3
        replace h := h.1 c_3
        refine lv_lload hx hb dX7_farSum_67 (lv_at hl 1 rfl) ?_
        refine lv_iload_n hx hb dX7_farSum_69 rfl (lv_at hl 3 rfl) ?_
        refine lv_lload_n hx hb dX7_farSum_70 rfl (lv_at hl 2 rfl) ?_
        have hPc := hP.sub (ws' := []) [] rfl
        have hDc := hD.sub (ws' := []) [] (by decide) rfl
        have hFc := va_free (wc := []) hD hS hA [] rfl
        refine va_calll (va_runS (As := [.int p0, .long r_1]) (rest := [.long l5_12_1]) ⟨hx, hb, hml, hown, hts⟩ (c_X7_ruleUpTo l dC dI cI cJ cZ _ p0 r_1 _ h) (va_cwS 2 hts gX7_farSum_X7_ruleUpTo rfl rfl rfl (by decide +kernel) ⟨Nat.le_of_ble_eq_true rfl, Nat.le_of_ble_eq_true rfl⟩) ⟨pre_fb, pre_of hPc hDc hK hN⟩ rfl rfl hl.1 rfl (lv_room (Nat.le_of_ble_eq_true rfl)) dX7_farSum_71 ⟨by first | exact Nat.le_of_ble_eq_true rfl | exact Nat.le_refl _, by first | exact Nat.le_of_ble_eq_true rfl | exact Nat.le_refl _⟩) hS (fun q _ h => hFc q h) hFc (fun r_4 u t H1 locs ht hvm h hB hz1 hk1 hS => ?_)
        obtain ⟨hP1, hD1⟩ := hB
        rw [ht] at hP1
        try dsimp only at h
        obtain ⟨hP, hD⟩ := va_join (wr := []) (w1 := []) hP hD [] [] rfl rfl (by decide) (by decide) hk1 hFc hP1 hD1
        generalize H1 = H at hP hS ⊢
        have hP : va_P (dC, dI) vwCl [] H := hP
        have hD : va_D A [] := hD
        refine lv_iload_n hx hb dX7_farSum_74 rfl (lv_at hl 4 rfl) ?_
        refine lv_lload_n hx hb dX7_farSum_75 rfl (lv_at hl 2 rfl) ?_
        have hPc := hP.sub (ws' := []) [] rfl
        have hDc := hD.sub (ws' := []) [] (by decide) rfl
        have hFc := va_free (wc := []) hD hS hA [] rfl
        refine va_calll (va_runS (As := [.int p1, .long r_1]) (rest := [.long r_4, .long l5_12_1]) ⟨hx, hb, hml, hown, hts⟩ (c_X7_ruleUpTo l dC dI cI cJ cZ _ p1 r_1 _ h) (va_cwS 2 hts gX7_farSum_X7_ruleUpTo rfl rfl rfl (by decide +kernel) ⟨Nat.le_of_ble_eq_true rfl, Nat.le_of_ble_eq_true rfl⟩) ⟨pre_fb, pre_of hPc hDc hK hN⟩ rfl rfl hl.1 rfl (lv_room (Nat.le_of_ble_eq_true rfl)) dX7_farSum_76 ⟨by first | exact Nat.le_of_ble_eq_true rfl | exact Nat.le_refl _, by first | exact Nat.le_of_ble_eq_true rfl | exact Nat.le_refl _⟩) hS (fun q _ h => hFc q h) hFc (fun r_5 u t H1 locs ht hvm h hB hz1 hk1 hS => ?_)
        obtain ⟨hP1, hD1⟩ := hB
        rw [ht] at hP1
        try dsimp only at h
        obtain ⟨hP, hD⟩ := va_join (wr := []) (w1 := []) hP hD [] [] rfl rfl (by decide) (by decide) hk1 hFc hP1 hD1
        generalize H1 = H at hP hS ⊢
        have hP : va_P (dC, dI) vwCl [] H := hP
        have hD : va_D A [] := hD
        refine lv_lmul hx hb dX7_farSum_79 ?_
        refine lv_lsub hx hb dX7_farSum_80 ?_
        have hP9 := hP.sub (ws' := []) [] rfl
        have hD9 := hD.sub (ws' := []) [] (by decide) rfl
        exact W.lret (v := (l5_12_1 - (r_4 * r_5))) hx hb hr (fun t ht hW => ⟨⟨_, (), rfl, h, by rw [ht]; exact hP9, hD9⟩, hS.F ht⟩) hS.2.2 dX7_farSum_81
      · replace c_3 := lc_ngt c_3
        replace h := h.2 c_3
        refine lv_iload_n hx hb dX7_farSum_19 rfl (lv_at hl 5 rfl) ?_
        refine lv_i2l hx hb dX7_farSum_20 rfl ?_
        refine lv_lload hx hb dX7_farSum_21 (lv_at hl 0 rfl) ?_
        obtain ⟨hne_6, h⟩ := h
        refine lv_ldiv hx hb dX7_farSum_23 hne_6 ?_
        refine lv_topl (fun x9_7 e_x9_7 => ?_)
        replace h := h x9_7 e_x9_7
        refine lv_lstore (lv' := [(9, .long x9_7), (7, .long l7_12_1), (5, .long l5_12_1), (3, .long r_1), (0, .int p0), (1, .int p1), (2, .int p2)]) hx hb dX7_farSum_24 hl (by decide) rfl (fun ls hl => ?_)
        refine lv_lload hx hb dX7_farSum_26 (lv_at hl 2 rfl) ?_
        refine lv_iload_n hx hb dX7_farSum_28 rfl (lv_at hl 4 rfl) ?_
        refine lv_lload hx hb dX7_farSum_29 (lv_at hl 1 rfl) ?_
        have hPc := hP.sub (ws' := []) [] rfl
        have hDc := hD.sub (ws' := []) [] (by decide) rfl
        have hFc := va_free (wc := []) hD hS hA [] rfl
        refine va_calll (va_runS (As := [.int p0, .long l7_12_1]) (rest := [.long l5_12_1]) ⟨hx, hb, hml, hown, hts⟩ (c_X7_ruleAt l dC dI cI cJ cZ _ p0 l7_12_1 _ h) (va_cwS 2 hts gX7_farSum_X7_ruleAt rfl rfl rfl (by decide +kernel) ⟨Nat.le_of_ble_eq_true rfl, Nat.le_of_ble_eq_true rfl⟩) ⟨pre_fb, pre_of hPc hDc hK hN⟩ rfl rfl hl.1 rfl (lv_room (Nat.le_of_ble_eq_true rfl)) dX7_farSum_31 ⟨by first | exact Nat.le_of_ble_eq_true rfl | exact Nat.le_refl _, by first | exact Nat.le_of_ble_eq_true rfl | exact Nat.le_refl _⟩) hS (fun q _ h => hFc q h) hFc (fun r_8 u t H1 locs ht hvm h hB hz1 hk1 hS => ?_)
        obtain ⟨hP1, hD1⟩ := hB
        rw [ht] at hP1
        try dsimp only at h
        obtain ⟨hP, hD⟩ := va_join (wr := []) (w1 := []) hP hD [] [] rfl rfl (by decide) (by decide) hk1 hFc hP1 hD1
        generalize H1 = H at hP hS ⊢
        have hP : va_P (dC, dI) vwCl [] H := hP
        have hD : va_D A [] := hD
        refine lv_iload_n hx hb dX7_farSum_34 rfl (lv_at hl 5 rfl) ?_
        refine lv_lload hx hb dX7_farSum_35 (lv_at hl 0 rfl) ?_
        have hPc := hP.sub (ws' := []) [] rfl
        have hDc := hD.sub (ws' := []) [] (by decide) rfl
        have hFc := va_free (wc := []) hD hS hA [] rfl
        refine va_calll (va_runS (As := [.int p1, .long x9_7]) (rest := [.long r_8, .long l5_12_1]) ⟨hx, hb, hml, hown, hts⟩ (c_X7_ruleUpTo l dC dI cI cJ cZ _ p1 x9_7 _ h) (va_cwS 2 hts gX7_farSum_X7_ruleUpTo rfl rfl rfl (by decide +kernel) ⟨Nat.le_of_ble_eq_true rfl, Nat.le_of_ble_eq_true rfl⟩) ⟨pre_fb, pre_of hPc hDc hK hN⟩ rfl rfl hl.1 rfl (lv_room (Nat.le_of_ble_eq_true rfl)) dX7_farSum_37 ⟨by first | exact Nat.le_of_ble_eq_true rfl | exact Nat.le_refl _, by first | exact Nat.le_of_ble_eq_true rfl | exact Nat.le_refl _⟩) hS (fun q _ h => hFc q h) hFc (fun r_9 u t H1 locs ht hvm h hB hz1 hk1 hS => ?_)
        obtain ⟨hP1, hD1⟩ := hB
        rw [ht] at hP1
        try dsimp only at h
        obtain ⟨hP, hD⟩ := va_join (wr := []) (w1 := []) hP hD [] [] rfl rfl (by decide) (by decide) hk1 hFc hP1 hD1
        generalize H1 = H at hP hS ⊢
        have hP : va_P (dC, dI) vwCl [] H := hP
        have hD : va_D A [] := hD
        refine lv_lmul hx hb dX7_farSum_40 ?_
        refine lv_iload_n hx hb dX7_farSum_41 rfl (lv_at hl 5 rfl) ?_
        refine lv_lload hx hb dX7_farSum_42 (lv_at hl 1 rfl) ?_
        have hPc := hP.sub (ws' := []) [] rfl
        have hDc := hD.sub (ws' := []) [] (by decide) rfl
        have hFc := va_free (wc := []) hD hS hA [] rfl
        refine va_calll (va_runS (As := [.int p1, .long l7_12_1]) (rest := [.long (r_8 * r_9), .long l5_12_1]) ⟨hx, hb, hml, hown, hts⟩ (c_X7_ruleAt l dC dI cI cJ cZ _ p1 l7_12_1 _ h) (va_cwS 2 hts gX7_farSum_X7_ruleAt rfl rfl rfl (by decide +kernel) ⟨Nat.le_of_ble_eq_true rfl, Nat.le_of_ble_eq_true rfl⟩) ⟨pre_fb, pre_of hPc hDc hK hN⟩ rfl rfl hl.1 rfl (lv_room (Nat.le_of_ble_eq_true rfl)) dX7_farSum_44 ⟨by first | exact Nat.le_of_ble_eq_true rfl | exact Nat.le_refl _, by first | exact Nat.le_of_ble_eq_true rfl | exact Nat.le_refl _⟩) hS (fun q _ h => hFc q h) hFc (fun r_10 u t H1 locs ht hvm h hB hz1 hk1 hS => ?_)
        obtain ⟨hP1, hD1⟩ := hB
        rw [ht] at hP1
        try dsimp only at h
        obtain ⟨hP, hD⟩ := va_join (wr := []) (w1 := []) hP hD [] [] rfl rfl (by decide) (by decide) hk1 hFc hP1 hD1
        generalize H1 = H at hP hS ⊢
        have hP : va_P (dC, dI) vwCl [] H := hP
        have hD : va_D A [] := hD
        refine lv_iload_n hx hb dX7_farSum_47 rfl (lv_at hl 4 rfl) ?_
        refine lv_lload hx hb dX7_farSum_48 (lv_at hl 0 rfl) ?_
        have hPc := hP.sub (ws' := []) [] rfl
        have hDc := hD.sub (ws' := []) [] (by decide) rfl
        have hFc := va_free (wc := []) hD hS hA [] rfl
        refine va_calll (va_runS (As := [.int p0, .long x9_7]) (rest := [.long r_10, .long (r_8 * r_9), .long l5_12_1]) ⟨hx, hb, hml, hown, hts⟩ (c_X7_ruleUpTo l dC dI cI cJ cZ _ p0 x9_7 _ h) (va_cwS 2 hts gX7_farSum_X7_ruleUpTo rfl rfl rfl (by decide +kernel) ⟨Nat.le_of_ble_eq_true rfl, Nat.le_of_ble_eq_true rfl⟩) ⟨pre_fb, pre_of hPc hDc hK hN⟩ rfl rfl hl.1 rfl (lv_room (Nat.le_of_ble_eq_true rfl)) dX7_farSum_50 ⟨by first | exact Nat.le_of_ble_eq_true rfl | exact Nat.le_refl _, by first | exact Nat.le_of_ble_eq_true rfl | exact Nat.le_refl _⟩) hS (fun q _ h => hFc q h) hFc (fun r_11 u t H1 locs ht hvm h hB hz1 hk1 hS => ?_)
        obtain ⟨hP1, hD1⟩ := hB
        rw [ht] at hP1
        try dsimp only at h
        obtain ⟨hP, hD⟩ := va_join (wr := []) (w1 := []) hP hD [] [] rfl rfl (by decide) (by decide) hk1 hFc hP1 hD1
        generalize H1 = H at hP hS ⊢
        have hP : va_P (dC, dI) vwCl [] H := hP
        have hD : va_D A [] := hD
        refine lv_lmul hx hb dX7_farSum_53 ?_
        refine lv_ladd hx hb dX7_farSum_54 ?_
        refine lv_ladd hx hb dX7_farSum_55 ?_
        refine lv_topl (fun x5_12 e_x5_12 => ?_)
        replace h := h x5_12 e_x5_12
        refine lv_lstore (lv' := [(5, .long x5_12), (9, .long x9_7), (7, .long l7_12_1), (3, .long r_1), (0, .int p0), (1, .int p1), (2, .int p2)]) hx hb dX7_farSum_56 hl (by decide) rfl (fun ls hl => ?_)
        refine lv_lload hx hb dX7_farSum_58 (lv_at hl 2 rfl) ?_
        refine lv_lconst (v := (1 : Int64)) hx hb dX7_farSum_60 (by decide) ?_
        refine lv_ladd hx hb dX7_farSum_61 ?_
        refine lv_topl (fun x7_13 e_x7_13 => ?_)
        replace h := h x7_13 e_x7_13
        refine lv_lstore (lv' := [(7, .long x7_13), (5, .long x5_12), (9, .long x9_7), (3, .long r_1), (0, .int p0), (1, .int p1), (2, .int p2)]) hx hb dX7_farSum_62 hl (by decide) rfl (fun ls hl => ?_)
        refine lv_goto (tgt := 12) hx hb dX7_farSum_64 (by decide) ?_
        exact ih_12_1 x7_13 x5_12 (Nat.lt_of_lt_of_le h.2 (Nat.le_of_lt_succ hm_12_1)) h.1 _ _ _ (lv_sub hl [0, 1, 3, 4, 5, 6] rfl) (hP.sub [] rfl) (hD.sub [] (by decide) rfl) hS
  exact key_12_1 _ (1 : Int64) (0 : Int64) (Nat.lt_succ_self _) h0_12_1 _ _ _ (lv_sub hl [0, 1, 2, 3, 4, 5] rfl) (hP.sub [] rfl) (hD.sub [] (by decide) rfl) hS

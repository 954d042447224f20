def wp_X9_in  (p0 : Int64) (p1 : Int64) (p2 : Int64) (Q : Int32 → Prop) : Prop :=
  ((p0 < p1 → Q (0 : Int32)) ∧ (¬ p0 < p1 → ((p2 < p0 → Q (0 : Int32)) ∧ (¬ p2 < p0 → Q (1 : Int32)))))
abbrev rm_X9_in : Room := { frames := 0, cells := 0, slots := 0, locals := 0 }
abbrev qc_X9_in (dC : Nat → ClassId) (dI : Nat → Nat → Nat) (cI cJ cZ : ClassId)  (Q : Int32 → Prop) (A : Nat → Prop) : Array Value → State → Outcome → State → Prop := va_Qi (fun (r : Int32) (_ : Unit) => Q r) (post_ dC dI A (fun (_ : Unit) => ([] : va_W))) A
set_option maxHeartbeats 4000000 in
set_option maxRecDepth 100000 in
theorem c_X9_in (l : Launch) (dC : Nat → ClassId) (dI : Nat → Nat → Nat) (cI cJ cZ : ClassId) (sz : Nat)  (p0 : Int64) (p1 : Int64) (p2 : Int64) (Q : Int32 → Prop) (hQ : wp_X9_in p0 p1 p2 Q) : Met l yX9_in wsX9_in rm_X9_in (pre_ dC dI cI cJ cZ [.long p0, .long p1, .long p2] ([] : va_W) sz) (qc_X9_in dC dI cI cJ cZ Q (va_A ([] : va_W) sz)) 0 0 (va_A ([] : va_W) sz) := by
  refine Met.ofW (cc := cX9_in) (maxL := 6) (ret := (some .boolean)) (by decide) rfl ?_
  intro p e s m args below meth c s₁ B hml hv
  obtain ⟨rfl, hsz, hP, hK, hN, hD0⟩ := hv
  have hx := B.exec
  have hb := B.bytes
  have hr := B.returns
  have hts := atoms_spec (ws := wsX9_in) B.pre
  have hown : s.vm.findClass RX9 = some m.cls := findClass_of_methodNamed B.named
  subst hsz
  have hD := hD0.self (sz := s.heap.size)
  generalize hAe : va_A ([] : va_W) s.heap.size = A at hD ⊢
  have hA : ∀ q : Nat, s.heap.size ≤ q → A q := fun q h => by rw [← hAe]; exact Or.inr h
  have hS : va_S A s.heap s.heap [] := va_S.rf
  have hl := lv_entry ([.long p0, .long p1, .long p2]) (n := 6) (Nat.le_of_ble_eq_true rfl)
  rw [lg_entry_eq]
  generalize (lg_sl ([.long p0, .long p1, .long p2]) ++ List.replicate (6 - (lg_sl ([.long p0, .long p1, .long p2])).length) Slot.unset).toArray = ls at hl ⊢
  have hl : lv_has ls 6 [(0, .long p0), (2, .long p1), (4, .long p2)] := hl
  have h := hQ
  unfold wp_X9_in at h
  refine lv_lload_n hx hb dX9_in_0 rfl (lv_at hl 0 rfl) ?_
  refine lv_lload_n hx hb dX9_in_1 rfl (lv_at hl 1 rfl) ?_
  refine W.lcmp hx hb dX9_in_2 ?_
  refine lv_if_lt (tgt := 17) hx hb dX9_in_3 (by decide) (fun c_1 => ?_) (fun c_1 => ?_)
  · replace c_1 := (lg_cmp_lt _ _).mp c_1
    replace h := h.1 c_1
    refine lv_iconst (v := (0 : Int32)) hx hb dX9_in_17 (by decide) ?_
    have hP9 := hP.sub (ws' := []) [] rfl
    have hD9 := hD.sub (ws' := []) [] (by decide) rfl
    exact W.zret (v := (0 : Int32)) hx hb hr (by decide) (fun t ht hW => ⟨⟨_, (), rfl, h, by rw [ht]; exact hP9, hD9⟩, hS.F ht⟩) hS.2.2 dX9_in_18
  · replace c_1 := lc_nlt c_1
    replace h := h.2 c_1
    refine lv_lload_n hx hb dX9_in_6 rfl (lv_at hl 0 rfl) ?_
    refine lv_lload hx hb dX9_in_7 (lv_at hl 2 rfl) ?_
    refine W.lcmp hx hb dX9_in_9 ?_
    refine lv_if_gt (tgt := 17) hx hb dX9_in_10 (by decide) (fun c_2 => ?_) (fun c_2 => ?_)
    · replace c_2 := (lg_cmp_gt _ _).mp c_2
      replace h := h.1 c_2
      refine lv_iconst (v := (0 : Int32)) hx hb dX9_in_17 (by decide) ?_
      have hP9 := hP.sub (ws' := []) [] rfl
      have hD9 := hD.sub (ws' := []) [] (by decide) rfl
      exact W.zret (v := (0 : Int32)) hx hb hr (by decide) (fun t ht hW => ⟨⟨_, (), rfl, h, by rw [ht]; exact hP9, hD9⟩, hS.F ht⟩) hS.2.2 dX9_in_18
    · replace c_2 := lc_ngt c_2
      replace h := h.2 c_2
      refine lv_iconst (v := (1 : Int32)) hx hb dX9_in_13 (by decide) ?_
      refine lv_goto (tgt := 18) hx hb dX9_in_14 (by decide) ?_
      have hP9 := hP.sub (ws' := []) [] rfl
      have hD9 := hD.sub (ws' := []) [] (by decide) rfl
      exact W.zret (v := (1 : Int32)) hx hb hr (by decide) (fun t ht hW => ⟨⟨_, (), rfl, h, by rw [ht]; exact hP9, hD9⟩, hS.F ht⟩) hS.2.2 dX9_in_18
def wp_X9_parts (a0_primes : Int32) (a0_prime : Nat → Int32) (a0_partMany : Int32) (a0_partPrime : Nat → Int64) (a0_partPower : Nat → Int32) (a0_foundLeast : Int64) (a0_foundGreatest : Int64) (a0_foundSquare : Int32) (p1 : Int64) (p2 : Int32) (Q : Int32 → Int64 → Int64 → Int32 → (Nat → Int64) → (Nat → Int32) → Prop) : Prop :=
  (∃ (I_24_0 : Int32 → Int32 → Int64 → Int64 → Int64 → Int32 → (Nat → Int64) → (Nat → Int32) → Prop) (m_24_0 : Int32 → Int32 → Int64 → Int64 → Int64 → Int32 → (Nat → Int64) → (Nat → Int32) → Nat), I_24_0 (0 : Int32) (0 : Int32) p1 (1 : Int64) (1 : Int64) (0 : Int32) a0_partPrime a0_partPower ∧ ∀ (l7_24_0 : Int32) (l6_24_0 : Int32) (l4_24_0 : Int64) (a0_foundLeast_24_0 : Int64) (a0_foundGreatest_24_0 : Int64) (a0_foundSquare_24_0 : Int32) (a0_partPrime_24_0 : Nat → Int64) (a0_partPower_24_0 : Nat → Int32), I_24_0 l7_24_0 l6_24_0 l4_24_0 a0_foundLeast_24_0 a0_foundGreatest_24_0 a0_foundSquare_24_0 a0_partPrime_24_0 a0_partPower_24_0 → ((a0_primes ≤ l7_24_0 → ((l4_24_0 ≤ (1 : Int64) → ((p2 = (0 : Int32) → Q a0_partMany a0_foundLeast_24_0 a0_foundGreatest_24_0 a0_foundSquare_24_0 a0_partPrime_24_0 a0_partPower_24_0) ∧ (¬ p2 = (0 : Int32) → Q l6_24_0 a0_foundLeast_24_0 a0_foundGreatest_24_0 a0_foundSquare_24_0 a0_partPrime_24_0 a0_partPower_24_0))) ∧ (¬ l4_24_0 ≤ (1 : Int64) → ((a0_foundLeast_24_0 = (1 : Int64) → ((p2 = (0 : Int32) → (∀ x6_14 : Int32, x6_14 = l6_24_0 + (1 : Int32) → ((p2 = (0 : Int32) → Q a0_partMany l4_24_0 l4_24_0 a0_foundSquare_24_0 a0_partPrime_24_0 a0_partPower_24_0) ∧ (¬ p2 = (0 : Int32) → Q x6_14 l4_24_0 l4_24_0 a0_foundSquare_24_0 a0_partPrime_24_0 a0_partPower_24_0)))) ∧ (¬ p2 = (0 : Int32) → (vp_in l6_24_0 16 ∧ (vp_in l6_24_0 16 ∧ (∀ x6_18 : Int32, x6_18 = l6_24_0 + (1 : Int32) → ((p2 = (0 : Int32) → Q a0_partMany l4_24_0 l4_24_0 a0_foundSquare_24_0 (vp_updL a0_partPrime_24_0 l6_24_0.toNatClampNeg l4_24_0) (upd a0_partPower_24_0 l6_24_0.toNatClampNeg (1 : Int32))) ∧ (¬ p2 = (0 : Int32) → Q x6_18 l4_24_0 l4_24_0 a0_foundSquare_24_0 (vp_updL a0_partPrime_24_0 l6_24_0.toNatClampNeg l4_24_0) (upd a0_partPower_24_0 l6_24_0.toNatClampNeg (1 : Int32)))))))))) ∧ (¬ a0_foundLeast_24_0 = (1 : Int64) → ((p2 = (0 : Int32) → (∀ x6_7 : Int32, x6_7 = l6_24_0 + (1 : Int32) → ((p2 = (0 : Int32) → Q a0_partMany a0_foundLeast_24_0 l4_24_0 a0_foundSquare_24_0 a0_partPrime_24_0 a0_partPower_24_0) ∧ (¬ p2 = (0 : Int32) → Q x6_7 a0_foundLeast_24_0 l4_24_0 a0_foundSquare_24_0 a0_partPrime_24_0 a0_partPower_24_0)))) ∧ (¬ p2 = (0 : Int32) → (vp_in l6_24_0 16 ∧ (vp_in l6_24_0 16 ∧ (∀ x6_11 : Int32, x6_11 = l6_24_0 + (1 : Int32) → ((p2 = (0 : Int32) → Q a0_partMany a0_foundLeast_24_0 l4_24_0 a0_foundSquare_24_0 (vp_updL a0_partPrime_24_0 l6_24_0.toNatClampNeg l4_24_0) (upd a0_partPower_24_0 l6_24_0.toNatClampNeg (1 : Int32))) ∧ (¬ p2 = (0 : Int32) → Q x6_11 a0_foundLeast_24_0 l4_24_0 a0_foundSquare_24_0 (vp_updL a0_partPrime_24_0 l6_24_0.toNatClampNeg l4_24_0) (upd a0_partPower_24_0 l6_24_0.toNatClampNeg (1 : Int32)))))))))))))) ∧ (¬ a0_primes ≤ l7_24_0 → (vp_in l7_24_0 9592 ∧ (vp_in l7_24_0 9592 ∧ ((l4_24_0 < ((a0_prime l7_24_0.toNatClampNeg).toInt64 * (a0_prime l7_24_0.toNatClampNeg).toInt64) → ((l4_24_0 ≤ (1 : Int64) → ((p2 = (0 : Int32) → Q a0_partMany a0_foundLeast_24_0 a0_foundGreatest_24_0 a0_foundSquare_24_0 a0_partPrime_24_0 a0_partPower_24_0) ∧ (¬ p2 = (0 : Int32) → Q l6_24_0 a0_foundLeast_24_0 a0_foundGreatest_24_0 a0_foundSquare_24_0 a0_partPrime_24_0 a0_partPower_24_0))) ∧ (¬ l4_24_0 ≤ (1 : Int64) → ((a0_foundLeast_24_0 = (1 : Int64) → ((p2 = (0 : Int32) → (∀ x6_34 : Int32, x6_34 = l6_24_0 + (1 : Int32) → ((p2 = (0 : Int32) → Q a0_partMany l4_24_0 l4_24_0 a0_foundSquare_24_0 a0_partPrime_24_0 a0_partPower_24_0) ∧ (¬ p2 = (0 : Int32) → Q x6_34 l4_24_0 l4_24_0 a0_foundSquare_24_0 a0_partPrime_24_0 a0_partPower_24_0)))) ∧ (¬ p2 = (0 : Int32) → (vp_in l6_24_0 16 ∧ (vp_in l6_24_0 16 ∧ (∀ x6_38 : Int32, x6_38 = l6_24_0 + (1 : Int32) → ((p2 = (0 : Int32) → Q a0_partMany l4_24_0 l4_24_0 a0_foundSquare_24_0 (vp_updL a0_partPrime_24_0 l6_24_0.toNatClampNeg l4_24_0) (upd a0_partPower_24_0 l6_24_0.toNatClampNeg (1 : Int32))) ∧ (¬ p2 = (0 : Int32) → Q x6_38 l4_24_0 l4_24_0 a0_foundSquare_24_0 (vp_updL a0_partPrime_24_0 l6_24_0.toNatClampNeg l4_24_0) (upd a0_partPower_24_0 l6_24_0.toNatClampNeg (1 : Int32)))))))))) ∧ (¬ a0_foundLeast_24_0 = (1 : Int64) → ((p2 = (0 : Int32) → (∀ x6_27 : Int32, x6_27 = l6_24_0 + (1 : Int32) → ((p2 = (0 : Int32) → Q a0_partMany a0_foundLeast_24_0 l4_24_0 a0_foundSquare_24_0 a0_partPrime_24_0 a0_partPower_24_0) ∧ (¬ p2 = (0 : Int32) → Q x6_27 a0_foundLeast_24_0 l4_24_0 a0_foundSquare_24_0 a0_partPrime_24_0 a0_partPower_24_0)))) ∧ (¬ p2 = (0 : Int32) → (vp_in l6_24_0 16 ∧ (vp_in l6_24_0 16 ∧ (∀ x6_31 : Int32, x6_31 = l6_24_0 + (1 : Int32) → ((p2 = (0 : Int32) → Q a0_partMany a0_foundLeast_24_0 l4_24_0 a0_foundSquare_24_0 (vp_updL a0_partPrime_24_0 l6_24_0.toNatClampNeg l4_24_0) (upd a0_partPower_24_0 l6_24_0.toNatClampNeg (1 : Int32))) ∧ (¬ p2 = (0 : Int32) → Q x6_31 a0_foundLeast_24_0 l4_24_0 a0_foundSquare_24_0 (vp_updL a0_partPrime_24_0 l6_24_0.toNatClampNeg l4_24_0) (upd a0_partPower_24_0 l6_24_0.toNatClampNeg (1 : Int32)))))))))))))) ∧ (¬ l4_24_0 < ((a0_prime l7_24_0.toNatClampNeg).toInt64 * (a0_prime l7_24_0.toNatClampNeg).toInt64) → (∃ (I_59_39 : Int32 → Int64 → Prop) (m_59_39 : Int32 → Int64 → Nat), I_59_39 (0 : Int32) l4_24_0 ∧ ∀ (l8_59_39 : Int32) (l4_59_39 : Int64), I_59_39 l8_59_39 l4_59_39 → (vp_in l7_24_0 9592 ∧ (¬ (a0_prime l7_24_0.toNatClampNeg).toInt64 = 0 ∧ (((l4_59_39 - l4_59_39 / (a0_prime l7_24_0.toNatClampNeg).toInt64 * (a0_prime l7_24_0.toNatClampNeg).toInt64) = (0 : Int64) → (vp_in l7_24_0 9592 ∧ (¬ (a0_prime l7_24_0.toNatClampNeg).toInt64 = 0 ∧ (∀ x4_113 : Int64, x4_113 = (l4_59_39 / (a0_prime l7_24_0.toNatClampNeg).toInt64) → (∀ x8_114 : Int32, x8_114 = l8_59_39 + (1 : Int32) → (I_59_39 x8_114 x4_113 ∧ m_59_39 x8_114 x4_113 < m_59_39 l8_59_39 l4_59_39)))))) ∧ (¬ (l4_59_39 - l4_59_39 / (a0_prime l7_24_0.toNatClampNeg).toInt64 * (a0_prime l7_24_0.toNatClampNeg).toInt64) = (0 : Int64) → ((l8_59_39 ≤ (0 : Int32) → (∀ x7_45 : Int32, x7_45 = l7_24_0 + (1 : Int32) → (I_24_0 x7_45 l6_24_0 l4_59_39 a0_foundLeast_24_0 a0_foundGreatest_24_0 a0_foundSquare_24_0 a0_partPrime_24_0 a0_partPower_24_0 ∧ m_24_0 x7_45 l6_24_0 l4_59_39 a0_foundLeast_24_0 a0_foundGreatest_24_0 a0_foundSquare_24_0 a0_partPrime_24_0 a0_partPower_24_0 < m_24_0 l7_24_0 l6_24_0 l4_24_0 a0_foundLeast_24_0 a0_foundGreatest_24_0 a0_foundSquare_24_0 a0_partPrime_24_0 a0_partPower_24_0))) ∧ (¬ l8_59_39 ≤ (0 : Int32) → ((a0_foundLeast_24_0 = (1 : Int64) → (vp_in l7_24_0 9592 ∧ (∀ y_79 : Int64, y_79 = (a0_prime l7_24_0.toNatClampNeg).toInt64 → (vp_in l7_24_0 9592 ∧ (∀ y_81 : Int64, y_81 = (a0_prime l7_24_0.toNatClampNeg).toInt64 → ((a0_foundSquare_24_0 = (0 : Int32) → ((l8_59_39 ≤ (1 : Int32) → ((p2 = (0 : Int32) → (∀ x6_94 : Int32, x6_94 = l6_24_0 + (1 : Int32) → (∀ x7_95 : Int32, x7_95 = l7_24_0 + (1 : Int32) → (I_24_0 x7_95 x6_94 l4_59_39 y_79 y_81 (0 : Int32) a0_partPrime_24_0 a0_partPower_24_0 ∧ m_24_0 x7_95 x6_94 l4_59_39 y_79 y_81 (0 : Int32) a0_partPrime_24_0 a0_partPower_24_0 < m_24_0 l7_24_0 l6_24_0 l4_24_0 a0_foundLeast_24_0 a0_foundGreatest_24_0 a0_foundSquare_24_0 a0_partPrime_24_0 a0_partPower_24_0)))) ∧ (¬ p2 = (0 : Int32) → (vp_in l7_24_0 9592 ∧ (∀ y_97 : Int64, y_97 = (a0_prime l7_24_0.toNatClampNeg).toInt64 → (vp_in l6_24_0 16 ∧ (vp_in l6_24_0 16 ∧ (∀ x6_100 : Int32, x6_100 = l6_24_0 + (1 : Int32) → (∀ x7_101 : Int32, x7_101 = l7_24_0 + (1 : Int32) → (I_24_0 x7_101 x6_100 l4_59_39 y_79 y_81 (0 : Int32) (vp_updL a0_partPrime_24_0 l6_24_0.toNatClampNeg y_97) (upd a0_partPower_24_0 l6_24_0.toNatClampNeg l8_59_39) ∧ m_24_0 x7_101 x6_100 l4_59_39 y_79 y_81 (0 : Int32) (vp_updL a0_partPrime_24_0 l6_24_0.toNatClampNeg y_97) (upd a0_partPower_24_0 l6_24_0.toNatClampNeg l8_59_39) < m_24_0 l7_24_0 l6_24_0 l4_24_0 a0_foundLeast_24_0 a0_foundGreatest_24_0 a0_foundSquare_24_0 a0_partPrime_24_0 a0_partPower_24_0)))))))))) ∧ (¬ l8_59_39 ≤ (1 : Int32) → ((p2 = (0 : Int32) → (∀ x6_103 : Int32, x6_103 = l6_24_0 + (1 : Int32) → (∀ x7_104 : Int32, x7_104 = l7_24_0 + (1 : Int32) → (I_24_0 x7_104 x6_103 l4_59_39 y_79 y_81 (1 : Int32) a0_partPrime_24_0 a0_partPower_24_0 ∧ m_24_0 x7_104 x6_103 l4_59_39 y_79 y_81 (1 : Int32) a0_partPrime_24_0 a0_partPower_24_0 < m_24_0 l7_24_0 l6_24_0 l4_24_0 a0_foundLeast_24_0 a0_foundGreatest_24_0 a0_foundSquare_24_0 a0_partPrime_24_0 a0_partPower_24_0)))) ∧ (¬ p2 = (0 : Int32) → (vp_in l7_24_0 9592 ∧ (∀ y_106 : Int64, y_106 = (a0_prime l7_24_0.toNatClampNeg).toInt64 → (vp_in l6_24_0 16 ∧ (vp_in l6_24_0 16 ∧ (∀ x6_109 : Int32, x6_109 = l6_24_0 + (1 : Int32) → (∀ x7_110 : Int32, x7_110 = l7_24_0 + (1 : Int32) → (I_24_0 x7_110 x6_109 l4_59_39 y_79 y_81 (1 : Int32) (vp_updL a0_partPrime_24_0 l6_24_0.toNatClampNeg y_106) (upd a0_partPower_24_0 l6_24_0.toNatClampNeg l8_59_39) ∧ m_24_0 x7_110 x6_109 l4_59_39 y_79 y_81 (1 : Int32) (vp_updL a0_partPrime_24_0 l6_24_0.toNatClampNeg y_106) (upd a0_partPower_24_0 l6_24_0.toNatClampNeg l8_59_39) < m_24_0 l7_24_0 l6_24_0 l4_24_0 a0_foundLeast_24_0 a0_foundGreatest_24_0 a0_foundSquare_24_0 a0_partPrime_24_0 a0_partPower_24_0)))))))))))) ∧ (¬ a0_foundSquare_24_0 = (0 : Int32) → ((p2 = (0 : Int32) → (∀ x6_84 : Int32, x6_84 = l6_24_0 + (1 : Int32) → (∀ x7_85 : Int32, x7_85 = l7_24_0 + (1 : Int32) → (I_24_0 x7_85 x6_84 l4_59_39 y_79 y_81 (1 : Int32) a0_partPrime_24_0 a0_partPower_24_0 ∧ m_24_0 x7_85 x6_84 l4_59_39 y_79 y_81 (1 : Int32) a0_partPrime_24_0 a0_partPower_24_0 < m_24_0 l7_24_0 l6_24_0 l4_24_0 a0_foundLeast_24_0 a0_foundGreatest_24_0 a0_foundSquare_24_0 a0_partPrime_24_0 a0_partPower_24_0)))) ∧ (¬ p2 = (0 : Int32) → (vp_in l7_24_0 9592 ∧ (∀ y_87 : Int64, y_87 = (a0_prime l7_24_0.toNatClampNeg).toInt64 → (vp_in l6_24_0 16 ∧ (vp_in l6_24_0 16 ∧ (∀ x6_90 : Int32, x6_90 = l6_24_0 + (1 : Int32) → (∀ x7_91 : Int32, x7_91 = l7_24_0 + (1 : Int32) → (I_24_0 x7_91 x6_90 l4_59_39 y_79 y_81 (1 : Int32) (vp_updL a0_partPrime_24_0 l6_24_0.toNatClampNeg y_87) (upd a0_partPower_24_0 l6_24_0.toNatClampNeg l8_59_39) ∧ m_24_0 x7_91 x6_90 l4_59_39 y_79 y_81 (1 : Int32) (vp_updL a0_partPrime_24_0 l6_24_0.toNatClampNeg y_87) (upd a0_partPower_24_0 l6_24_0.toNatClampNeg l8_59_39) < m_24_0 l7_24_0 l6_24_0 l4_24_0 a0_foundLeast_24_0 a0_foundGreatest_24_0 a0_foundSquare_24_0 a0_partPrime_24_0 a0_partPower_24_0)))))))))))))))) ∧ (¬ a0_foundLeast_24_0 = (1 : Int64) → (vp_in l7_24_0 9592 ∧ (∀ y_48 : Int64, y_48 = (a0_prime l7_24_0.toNatClampNeg).toInt64 → ((a0_foundSquare_24_0 = (0 : Int32) → ((l8_59_39 ≤ (1 : Int32) → ((p2 = (0 : Int32) → (∀ x6_61 : Int32, x6_61 = l6_24_0 + (1 : Int32) → (∀ x7_62 : Int32, x7_62 = l7_24_0 + (1 : Int32) → (I_24_0 x7_62 x6_61 l4_59_39 a0_foundLeast_24_0 y_48 (0 : Int32) a0_partPrime_24_0 a0_partPower_24_0 ∧ m_24_0 x7_62 x6_61 l4_59_39 a0_foundLeast_24_0 y_48 (0 : Int32) a0_partPrime_24_0 a0_partPower_24_0 < m_24_0 l7_24_0 l6_24_0 l4_24_0 a0_foundLeast_24_0 a0_foundGreatest_24_0 a0_foundSquare_24_0 a0_partPrime_24_0 a0_partPower_24_0)))) ∧ (¬ p2 = (0 : Int32) → (vp_in l7_24_0 9592 ∧ (∀ y_64 : Int64, y_64 = (a0_prime l7_24_0.toNatClampNeg).toInt64 → (vp_in l6_24_0 16 ∧ (vp_in l6_24_0 16 ∧ (∀ x6_67 : Int32, x6_67 = l6_24_0 + (1 : Int32) → (∀ x7_68 : Int32, x7_68 = l7_24_0 + (1 : Int32) → (I_24_0 x7_68 x6_67 l4_59_39 a0_foundLeast_24_0 y_48 (0 : Int32) (vp_updL a0_partPrime_24_0 l6_24_0.toNatClampNeg y_64) (upd a0_partPower_24_0 l6_24_0.toNatClampNeg l8_59_39) ∧ m_24_0 x7_68 x6_67 l4_59_39 a0_foundLeast_24_0 y_48 (0 : Int32) (vp_updL a0_partPrime_24_0 l6_24_0.toNatClampNeg y_64) (upd a0_partPower_24_0 l6_24_0.toNatClampNeg l8_59_39) < m_24_0 l7_24_0 l6_24_0 l4_24_0 a0_foundLeast_24_0 a0_foundGreatest_24_0 a0_foundSquare_24_0 a0_partPrime_24_0 a0_partPower_24_0)))))))))) ∧ (¬ l8_59_39 ≤ (1 : Int32) → ((p2 = (0 : Int32) → (∀ x6_70 : Int32, x6_70 = l6_24_0 + (1 : Int32) → (∀ x7_71 : Int32, x7_71 = l7_24_0 + (1 : Int32) → (I_24_0 x7_71 x6_70 l4_59_39 a0_foundLeast_24_0 y_48 (1 : Int32) a0_partPrime_24_0 a0_partPower_24_0 ∧ m_24_0 x7_71 x6_70 l4_59_39 a0_foundLeast_24_0 y_48 (1 : Int32) a0_partPrime_24_0 a0_partPower_24_0 < m_24_0 l7_24_0 l6_24_0 l4_24_0 a0_foundLeast_24_0 a0_foundGreatest_24_0 a0_foundSquare_24_0 a0_partPrime_24_0 a0_partPower_24_0)))) ∧ (¬ p2 = (0 : Int32) → (vp_in l7_24_0 9592 ∧ (∀ y_73 : Int64, y_73 = (a0_prime l7_24_0.toNatClampNeg).toInt64 → (vp_in l6_24_0 16 ∧ (vp_in l6_24_0 16 ∧ (∀ x6_76 : Int32, x6_76 = l6_24_0 + (1 : Int32) → (∀ x7_77 : Int32, x7_77 = l7_24_0 + (1 : Int32) → (I_24_0 x7_77 x6_76 l4_59_39 a0_foundLeast_24_0 y_48 (1 : Int32) (vp_updL a0_partPrime_24_0 l6_24_0.toNatClampNeg y_73) (upd a0_partPower_24_0 l6_24_0.toNatClampNeg l8_59_39) ∧ m_24_0 x7_77 x6_76 l4_59_39 a0_foundLeast_24_0 y_48 (1 : Int32) (vp_updL a0_partPrime_24_0 l6_24_0.toNatClampNeg y_73) (upd a0_partPower_24_0 l6_24_0.toNatClampNeg l8_59_39) < m_24_0 l7_24_0 l6_24_0 l4_24_0 a0_foundLeast_24_0 a0_foundGreatest_24_0 a0_foundSquare_24_0 a0_partPrime_24_0 a0_partPower_24_0)))))))))))) ∧ (¬ a0_foundSquare_24_0 = (0 : Int32) → ((p2 = (0 : Int32) → (∀ x6_51 : Int32, x6_51 = l6_24_0 + (1 : Int32) → (∀ x7_52 : Int32, x7_52 = l7_24_0 + (1 : Int32) → (I_24_0 x7_52 x6_51 l4_59_39 a0_foundLeast_24_0 y_48 (1 : Int32) a0_partPrime_24_0 a0_partPower_24_0 ∧ m_24_0 x7_52 x6_51 l4_59_39 a0_foundLeast_24_0 y_48 (1 : Int32) a0_partPrime_24_0 a0_partPower_24_0 < m_24_0 l7_24_0 l6_24_0 l4_24_0 a0_foundLeast_24_0 a0_foundGreatest_24_0 a0_foundSquare_24_0 a0_partPrime_24_0 a0_partPower_24_0)))) ∧ (¬ p2 = (0 : Int32) → (vp_in l7_24_0 9592 ∧ (∀ y_54 : Int64, y_54 = (a0_prime l7_24_0.toNatClampNeg).toInt64 → (vp_in l6_24_0 16 ∧ (vp_in l6_24_0 16 ∧ (∀ x6_57 : Int32, x6_57 = l6_24_0 + (1 : Int32) → (∀ x7_58 : Int32, x7_58 = l7_24_0 + (1 : Int32) → (I_24_0 x7_58 x6_57 l4_59_39 a0_foundLeast_24_0 y_48 (1 : Int32) (vp_updL a0_partPrime_24_0 l6_24_0.toNatClampNeg y_54) (upd a0_partPower_24_0 l6_24_0.toNatClampNeg l8_59_39) ∧ m_24_0 x7_58 x6_57 l4_59_39 a0_foundLeast_24_0 y_48 (1 : Int32) (vp_updL a0_partPrime_24_0 l6_24_0.toNatClampNeg y_54) (upd a0_partPower_24_0 l6_24_0.toNatClampNeg l8_59_39) < m_24_0 l7_24_0 l6_24_0 l4_24_0 a0_foundLeast_24_0 a0_foundGreatest_24_0 a0_foundSquare_24_0 a0_partPrime_24_0 a0_partPower_24_0)))))))))))))))))))))))))))))
abbrev rm_X9_parts : Room := { frames := 0, cells := 0, slots := 0, locals := 0 }
abbrev qc_X9_parts (dC : Nat → ClassId) (dI : Nat → Nat → Nat) (cI cJ cZ : ClassId) (h_a0 : Nat) (a0_primes : Int32) (a0_prime : Nat → Int32) (q_a0_prime : Nat) (w_a0_isNone : Value) (a0_hasSpan : Int32) (a0_spanFrom : Int64) (a0_spanMany : Int32) (w_a0_least : Value) (w_a0_greatest : Value) (w_a0_isSquared : Value) (a0_hasPart : Int32) (a0_parted : Int64) (a0_partMany : Int32) (a0_partPrime : Nat → Int64) (q_a0_partPrime : Nat) (a0_partPower : Nat → Int32) (q_a0_partPower : Nat) (a0_rows : Int32) (w_a0_row : Value) (a0_foundLeast : Int64) (a0_foundGreatest : Int64) (a0_foundSquare : Int32) (Q : Int32 → Int64 → Int64 → Int32 → (Nat → Int64) → (Nat → Int32) → Prop) (A : Nat → Prop) : Array Value → State → Outcome → State → Prop := va_Qv (fun (u : Int32 × Int64 × Int64 × Int32 × (Nat → Int64) × (Nat → Int32)) => Q u.1 u.2.1 u.2.2.1 u.2.2.2.1 u.2.2.2.2.1 u.2.2.2.2.2) (post_ dC dI A (fun (u : Int32 × Int64 × Int64 × Int32 × (Nat → Int64) × (Nat → Int32)) => [(h_a0, .inr (8, [.int a0_primes, .ref q_a0_prime, w_a0_isNone, .int a0_hasSpan, .long a0_spanFrom, .int a0_spanMany, w_a0_least, w_a0_greatest, w_a0_isSquared, .int a0_hasPart, .long a0_parted, .int u.1, .ref q_a0_partPrime, .ref q_a0_partPower, .int a0_rows, w_a0_row, .long u.2.1, .long u.2.2.1, .int u.2.2.2.1])), (q_a0_prime, .inl (cI, 9592, .inl a0_prime)), (q_a0_partPrime, .inl (cJ, 16, .inr (.inl (u.2.2.2.2.1)))), (q_a0_partPower, .inl (cI, 16, .inl (u.2.2.2.2.2)))])) A
set_option maxHeartbeats 4000000 in
set_option maxRecDepth 100000 in
theorem c_X9_parts (l : Launch) (dC : Nat → ClassId) (dI : Nat → Nat → Nat) (cI cJ cZ : ClassId) (sz : Nat) (h_a0 : Nat) (a0_primes : Int32) (a0_prime : Nat → Int32) (q_a0_prime : Nat) (w_a0_isNone : Value) (a0_hasSpan : Int32) (a0_spanFrom : Int64) (a0_spanMany : Int32) (w_a0_least : Value) (w_a0_greatest : Value) (w_a0_isSquared : Value) (a0_hasPart : Int32) (a0_parted : Int64) (a0_partMany : Int32) (a0_partPrime : Nat → Int64) (q_a0_partPrime : Nat) (a0_partPower : Nat → Int32) (q_a0_partPower : Nat) (a0_rows : Int32) (w_a0_row : Value) (a0_foundLeast : Int64) (a0_foundGreatest : Int64) (a0_foundSquare : Int32) (p1 : Int64) (p2 : Int32) (Q : Int32 → Int64 → Int64 → Int32 → (Nat → Int64) → (Nat → Int32) → Prop) (hQ : wp_X9_parts a0_primes a0_prime a0_partMany a0_partPrime a0_partPower a0_foundLeast a0_foundGreatest a0_foundSquare p1 p2 Q) : Met l yX9_parts wsX9_parts rm_X9_parts (pre_ dC dI cI cJ cZ [.ref h_a0, .long p1, .int p2] [(h_a0, .inr (8, [.int a0_primes, .ref q_a0_prime, w_a0_isNone, .int a0_hasSpan, .long a0_spanFrom, .int a0_spanMany, w_a0_least, w_a0_greatest, w_a0_isSquared, .int a0_hasPart, .long a0_parted, .int a0_partMany, .ref q_a0_partPrime, .ref q_a0_partPower, .int a0_rows, w_a0_row, .long a0_foundLeast, .long a0_foundGreatest, .int a0_foundSquare])), (q_a0_prime, .inl (cI, 9592, .inl a0_prime)), (q_a0_partPrime, .inl (cJ, 16, .inr (.inl a0_partPrime))), (q_a0_partPower, .inl (cI, 16, .inl a0_partPower))] sz) (qc_X9_parts dC dI cI cJ cZ h_a0 a0_primes a0_prime q_a0_prime w_a0_isNone a0_hasSpan a0_spanFrom a0_spanMany w_a0_least w_a0_greatest w_a0_isSquared a0_hasPart a0_parted a0_partMany a0_partPrime q_a0_partPrime a0_partPower q_a0_partPower a0_rows w_a0_row a0_foundLeast a0_foundGreatest a0_foundSquare Q (va_A [(h_a0, .inr (8, [.int a0_primes, .ref q_a0_prime, w_a0_isNone, .int a0_hasSpan, .long a0_spanFrom, .int a0_spanMany, w_a0_least, w_a0_greatest, w_a0_isSquared, .int a0_hasPart, .long a0_parted, .int a0_partMany, .ref q_a0_partPrime, .ref q_a0_partPower, .int a0_rows, w_a0_row, .long a0_foundLeast, .long a0_foundGreatest, .int a0_foundSquare])), (q_a0_prime, .inl (cI, 9592, .inl a0_prime)), (q_a0_partPrime, .inl (cJ, 16, .inr (.inl a0_partPrime))), (q_a0_partPower, .inl (cI, 16, .inl a0_partPower))] sz)) 0 0 (va_A [(h_a0, .inr (8, [.int a0_primes, .ref q_a0_prime, w_a0_isNone, .int a0_hasSpan, .long a0_spanFrom, .int a0_spanMany, w_a0_least, w_a0_greatest, w_a0_isSquared, .int a0_hasPart, .long a0_parted, .int a0_partMany, .ref q_a0_partPrime, .ref q_a0_partPower, .int a0_rows, w_a0_row, .long a0_foundLeast, .long a0_foundGreatest, .int a0_foundSquare])), (q_a0_prime, .inl (cI, 9592, .inl a0_prime)), (q_a0_partPrime, .inl (cJ, 16, .inr (.inl a0_partPrime))), (q_a0_partPower, .inl (cI, 16, .inl a0_partPower))] sz) := by
  refine Met.ofW (cc := cX9_parts) (maxL := 9) (ret := none) (by decide) rfl ?_
  intro p e s m args below meth c s₁ B hml hv
  obtain ⟨rfl, hsz, hP, hK, hN, hD0⟩ := hv
  have hx := B.exec
  have hb := B.bytes
  have hr := B.returns
  have hts := atoms_spec (ws := wsX9_parts) B.pre
  have hown : s.vm.findClass RX9 = some m.cls := findClass_of_methodNamed B.named
  subst hsz
  have hD := hD0.self (sz := s.heap.size)
  generalize hAe : va_A [(h_a0, .inr (8, [.int a0_primes, .ref q_a0_prime, w_a0_isNone, .int a0_hasSpan, .long a0_spanFrom, .int a0_spanMany, w_a0_least, w_a0_greatest, w_a0_isSquared, .int a0_hasPart, .long a0_parted, .int a0_partMany, .ref q_a0_partPrime, .ref q_a0_partPower, .int a0_rows, w_a0_row, .long a0_foundLeast, .long a0_foundGreatest, .int a0_foundSquare])), (q_a0_prime, .inl (cI, 9592, .inl a0_prime)), (q_a0_partPrime, .inl (cJ, 16, .inr (.inl a0_partPrime))), (q_a0_partPower, .inl (cI, 16, .inl a0_partPower))] s.heap.size = A at hD ⊢
  have hA : ∀ q : Nat, s.heap.size ≤ q → A q := fun q h => by rw [← hAe]; exact Or.inr h
  have hS : va_S A s.heap s.heap [] := va_S.rf
  have hl := lv_entry ([.ref h_a0, .long p1, .int p2]) (n := 9) (Nat.le_of_ble_eq_true rfl)
  rw [lg_entry_eq]
  generalize (lg_sl ([.ref h_a0, .long p1, .int p2]) ++ List.replicate (9 - (lg_sl ([.ref h_a0, .long p1, .int p2])).length) Slot.unset).toArray = ls at hl ⊢
  have hl : lv_has ls 9 [(0, .ref h_a0), (1, .long p1), (3, .int p2)] := hl
  have h := hQ
  unfold wp_X9_parts at h
  have hw_0 := hts (.fieldLink RX9 43 "NumberSievesModel" "foundLeast" "J") (by decide +kernel)
  have hin_X9 : ∀ w ∈ wsX90, w ∈ wsX9_parts := by decide +kernel
  have hw_2 := hts (.fieldLink RX9 47 "NumberSievesModel" "foundGreatest" "J") (by decide +kernel)
  have hw_3 := hts (.fieldLink RX9 50 "NumberSievesModel" "foundSquare" "Z") (by decide +kernel)
  have hw_4 := hts (.fieldLink RX9 39 "NumberSievesModel" "primes" "I") (by decide +kernel)
  have hw_5 := hts (.fieldLink RX9 54 "NumberSievesModel" "partMany" "I") (by decide +kernel)
  have hw_6 := hts (.fieldLink RX9 28 "NumberSievesModel" "partPrime" "[J") (by decide +kernel)
  have hw_7 := hts (.fieldLink RX9 31 "NumberSievesModel" "partPower" "[I") (by decide +kernel)
  have hw_8 := hts (.fieldLink RX9 7 "NumberSievesModel" "prime" "[I") (by decide +kernel)
  refine lv_lload_n hx hb dX9_parts_0 rfl (lv_at hl 1 rfl) ?_
  refine lv_lstore (lv' := [(4, .long p1), (0, .ref h_a0), (1, .long p1), (3, .int p2)]) hx hb dX9_parts_1 hl (by decide) rfl (fun ls hl => ?_)
  refine lv_iconst (v := (0 : Int32)) hx hb dX9_parts_3 (by decide) ?_
  refine lv_istore (lv' := [(6, .int (0 : Int32)), (4, .long p1), (0, .ref h_a0), (1, .long p1), (3, .int p2)]) hx hb dX9_parts_4 hl (by decide) rfl (fun ls hl => ?_)
  refine lv_aload_n hx hb dX9_parts_6 rfl (lv_at hl 2 rfl) ?_
  refine lv_lconst (v := (1 : Int64)) hx hb dX9_parts_7 (by decide) ?_
  refine va_put (D := (dC, dI)) (ci := 8) (v := .long (1 : Int64)) (ty := .long) (C := RX9) (T := TX9) (N := 19) hx hb hts hin_X9 tyX9 tyX9_ok nmX9 hown hK hP hD hS 0 rfl rfl 16 (by decide) hw_0 (fun _ h9 => h9) rfl (by decide +kernel) rfl rfl (Nat.le_of_ble_eq_true rfl) dX9_parts_8 (fun H locs hP hD hS => ?_)
  have hP : va_P (dC, dI) vwCl [(h_a0, .inr (8, [.int a0_primes, .ref q_a0_prime, w_a0_isNone, .int a0_hasSpan, .long a0_spanFrom, .int a0_spanMany, w_a0_least, w_a0_greatest, w_a0_isSquared, .int a0_hasPart, .long a0_parted, .int a0_partMany, .ref q_a0_partPrime, .ref q_a0_partPower, .int a0_rows, w_a0_row, .long (1 : Int64), .long a0_foundGreatest, .int a0_foundSquare])), (q_a0_prime, .inl (cI, 9592, .inl a0_prime)), (q_a0_partPrime, .inl (cJ, 16, .inr (.inl a0_partPrime))), (q_a0_partPower, .inl (cI, 16, .inl a0_partPower))] H := hP
  have hD : va_D A [(h_a0, .inr (8, [.int a0_primes, .ref q_a0_prime, w_a0_isNone, .int a0_hasSpan, .long a0_spanFrom, .int a0_spanMany, w_a0_least, w_a0_greatest, w_a0_isSquared, .int a0_hasPart, .long a0_parted, .int a0_partMany, .ref q_a0_partPrime, .ref q_a0_partPower, .int a0_rows, w_a0_row, .long (1 : Int64), .long a0_foundGreatest, .int a0_foundSquare])), (q_a0_prime, .inl (cI, 9592, .inl a0_prime)), (q_a0_partPrime, .inl (cJ, 16, .inr (.inl a0_partPrime))), (q_a0_partPower, .inl (cI, 16, .inl a0_partPower))] := hD
  refine lv_aload_n hx hb dX9_parts_11 rfl (lv_at hl 2 rfl) ?_
  refine lv_lconst (v := (1 : Int64)) hx hb dX9_parts_12 (by decide) ?_
  refine va_put (D := (dC, dI)) (ci := 8) (v := .long (1 : Int64)) (ty := .long) (C := RX9) (T := TX9) (N := 19) hx hb hts hin_X9 tyX9 tyX9_ok nmX9 hown hK hP hD hS 0 rfl rfl 17 (by decide) hw_2 (fun _ h9 => h9) rfl (by decide +kernel) rfl rfl (Nat.le_of_ble_eq_true rfl) dX9_parts_13 (fun H locs hP hD hS => ?_)
  have hP : va_P (dC, dI) vwCl [(h_a0, .inr (8, [.int a0_primes, .ref q_a0_prime, w_a0_isNone, .int a0_hasSpan, .long a0_spanFrom, .int a0_spanMany, w_a0_least, w_a0_greatest, w_a0_isSquared, .int a0_hasPart, .long a0_parted, .int a0_partMany, .ref q_a0_partPrime, .ref q_a0_partPower, .int a0_rows, w_a0_row, .long (1 : Int64), .long (1 : Int64), .int a0_foundSquare])), (q_a0_prime, .inl (cI, 9592, .inl a0_prime)), (q_a0_partPrime, .inl (cJ, 16, .inr (.inl a0_partPrime))), (q_a0_partPower, .inl (cI, 16, .inl a0_partPower))] H := hP
  have hD : va_D A [(h_a0, .inr (8, [.int a0_primes, .ref q_a0_prime, w_a0_isNone, .int a0_hasSpan, .long a0_spanFrom, .int a0_spanMany, w_a0_least, w_a0_greatest, w_a0_isSquared, .int a0_hasPart, .long a0_parted, .int a0_partMany, .ref q_a0_partPrime, .ref q_a0_partPower, .int a0_rows, w_a0_row, .long (1 : Int64), .long (1 : Int64), .int a0_foundSquare])), (q_a0_prime, .inl (cI, 9592, .inl a0_prime)), (q_a0_partPrime, .inl (cJ, 16, .inr (.inl a0_partPrime))), (q_a0_partPower, .inl (cI, 16, .inl a0_partPower))] := hD
  refine lv_aload_n hx hb dX9_parts_16 rfl (lv_at hl 2 rfl) ?_
  refine lv_iconst (v := (0 : Int32)) hx hb dX9_parts_17 (by decide) ?_
  refine va_put (D := (dC, dI)) (ci := 8) (v := .int (0 : Int32)) (ty := .boolean) (C := RX9) (T := TX9) (N := 19) hx hb hts hin_X9 tyX9 tyX9_ok nmX9 hown hK hP hD hS 0 rfl rfl 18 (by decide) hw_3 (fun _ h9 => h9) rfl (by decide +kernel) rfl rfl (Nat.le_of_ble_eq_true rfl) dX9_parts_18 (fun H locs hP hD hS => ?_)
  have hP : va_P (dC, dI) vwCl [(h_a0, .inr (8, [.int a0_primes, .ref q_a0_prime, w_a0_isNone, .int a0_hasSpan, .long a0_spanFrom, .int a0_spanMany, w_a0_least, w_a0_greatest, w_a0_isSquared, .int a0_hasPart, .long a0_parted, .int a0_partMany, .ref q_a0_partPrime, .ref q_a0_partPower, .int a0_rows, w_a0_row, .long (1 : Int64), .long (1 : Int64), .int (0 : Int32)])), (q_a0_prime, .inl (cI, 9592, .inl a0_prime)), (q_a0_partPrime, .inl (cJ, 16, .inr (.inl a0_partPrime))), (q_a0_partPower, .inl (cI, 16, .inl a0_partPower))] H := hP
  have hD : va_D A [(h_a0, .inr (8, [.int a0_primes, .ref q_a0_prime, w_a0_isNone, .int a0_hasSpan, .long a0_spanFrom, .int a0_spanMany, w_a0_least, w_a0_greatest, w_a0_isSquared, .int a0_hasPart, .long a0_parted, .int a0_partMany, .ref q_a0_partPrime, .ref q_a0_partPower, .int a0_rows, w_a0_row, .long (1 : Int64), .long (1 : Int64), .int (0 : Int32)])), (q_a0_prime, .inl (cI, 9592, .inl a0_prime)), (q_a0_partPrime, .inl (cJ, 16, .inr (.inl a0_partPrime))), (q_a0_partPower, .inl (cI, 16, .inl a0_partPower))] := hD
  refine lv_iconst (v := (0 : Int32)) hx hb dX9_parts_21 (by decide) ?_
  refine lv_istore (lv' := [(7, .int (0 : Int32)), (6, .int (0 : Int32)), (4, .long p1), (0, .ref h_a0), (1, .long p1), (3, .int p2)]) hx hb dX9_parts_22 hl (by decide) rfl (fun ls hl => ?_)
  obtain ⟨I_24_0, m_24_0, h0_24_0, hs_24_0⟩ := h
  have key_24_0 : ∀ (n : Nat) (l7_24_0 : Int32) (l6_24_0 : Int32) (l4_24_0 : Int64) (a0_foundLeast_24_0 : Int64) (a0_foundGreatest_24_0 : Int64) (a0_foundSquare_24_0 : Int32) (a0_partPrime_24_0 : Nat → Int64) (a0_partPower_24_0 : Nat → Int32), m_24_0 l7_24_0 l6_24_0 l4_24_0 a0_foundLeast_24_0 a0_foundGreatest_24_0 a0_foundSquare_24_0 a0_partPrime_24_0 a0_partPower_24_0 < n → I_24_0 l7_24_0 l6_24_0 l4_24_0 a0_foundLeast_24_0 a0_foundGreatest_24_0 a0_foundSquare_24_0 a0_partPrime_24_0 a0_partPower_24_0 → ∀ (ls : Array Slot) (H : Heap) (locs : List Loc), lv_has ls 9 [(7, .int l7_24_0), (6, .int l6_24_0), (4, .long l4_24_0), (0, .ref h_a0), (3, .int p2)] → va_P (dC, dI) vwCl [(h_a0, .inr (8, [.int a0_primes, .ref q_a0_prime, w_a0_isNone, .int a0_hasSpan, .long a0_spanFrom, .int a0_spanMany, w_a0_least, w_a0_greatest, w_a0_isSquared, .int a0_hasPart, .long a0_parted, .int a0_partMany, .ref q_a0_partPrime, .ref q_a0_partPower, .int a0_rows, w_a0_row, .long a0_foundLeast_24_0, .long a0_foundGreatest_24_0, .int a0_foundSquare_24_0])), (q_a0_prime, .inl (cI, 9592, .inl a0_prime)), (q_a0_partPrime, .inl (cJ, 16, .inr (.inl a0_partPrime_24_0))), (q_a0_partPower, .inl (cI, 16, .inl a0_partPower_24_0))] H → va_D A [(h_a0, .inr (8, [.int a0_primes, .ref q_a0_prime, w_a0_isNone, .int a0_hasSpan, .long a0_spanFrom, .int a0_spanMany, w_a0_least, w_a0_greatest, w_a0_isSquared, .int a0_hasPart, .long a0_parted, .int a0_partMany, .ref q_a0_partPrime, .ref q_a0_partPower, .int a0_rows, w_a0_row, .long a0_foundLeast_24_0, .long a0_foundGreatest_24_0, .int a0_foundSquare_24_0])), (q_a0_prime, .inl (cI, 9592, .inl a0_prime)), (q_a0_partPrime, .inl (cJ, 16, .inr (.inl a0_partPrime_24_0))), (q_a0_partPower, .inl (cI, 16, .inl a0_partPower_24_0))] → va_S A s.heap H locs → W p l e (headSpec wsX9_parts rm_X9_parts).room s m ([.ref h_a0, .long p1, .int p2] : List Value).toArray below meth c H locs 0 0 (MQ below (qc_X9_parts dC dI cI cJ cZ h_a0 a0_primes a0_prime q_a0_prime w_a0_isNone a0_hasSpan a0_spanFrom a0_spanMany w_a0_least w_a0_greatest w_a0_isSquared a0_hasPart a0_parted a0_partMany a0_partPrime q_a0_partPrime a0_partPower q_a0_partPower a0_rows w_a0_row a0_foundLeast a0_foundGreatest a0_foundSquare Q A) ([.ref h_a0, .long p1, .int p2] : List Value).toArray s 0 0 A) (F0 m 24 ls []) := by
    intro n
    induction n with
    | zero =>
      intro l7_24_0 l6_24_0 l4_24_0 a0_foundLeast_24_0 a0_foundGreatest_24_0 a0_foundSquare_24_0 a0_partPrime_24_0 a0_partPower_24_0 hm
      exact absurd hm (Nat.not_lt_zero _)
    | succ n ih_24_0 =>
      intro l7_24_0 l6_24_0 l4_24_0 a0_foundLeast_24_0 a0_foundGreatest_24_0 a0_foundSquare_24_0 a0_partPrime_24_0 a0_partPower_24_0 hm_24_0 hI ls H locs hl hP hD hS
      have h := hs_24_0 l7_24_0 l6_24_0 l4_24_0 a0_foundLeast_24_0 a0_foundGreatest_24_0 a0_foundSquare_24_0 a0_partPrime_24_0 a0_partPower_24_0 hI
      refine lv_iload hx hb dX9_parts_24 (lv_at hl 0 rfl) ?_
      refine lv_aload_n hx hb dX9_parts_26 rfl (lv_at hl 3 rfl) ?_
      refine va_get (D := (dC, dI)) (ci := 8) (v := .int a0_primes) (C := RX9) (T := TX9) (N := 19) hx hb hts hin_X9 hown hK hP 0 rfl rfl 0 (by decide) hw_4 (fun _ h9 => h9) rfl dX9_parts_27 ?_
      refine lv_icmp_ge (tgt := 198) hx hb dX9_parts_30 (by decide) (fun c_2 => ?_) (fun c_2 => ?_)
      · replace h := h.1 c_2
        refine lv_lload hx hb dX9_parts_198 (lv_at hl 2 rfl) ?_
        refine lv_lconst (v := (1 : Int64)) hx hb dX9_parts_200 (by decide) ?_
        refine W.lcmp hx hb dX9_parts_201 ?_
        refine lv_if_le (tgt := 257) hx hb dX9_parts_202 (by decide) (fun c_3 => ?_) (fun c_3 => ?_)
        · replace c_3 := (lg_cmp_le _ _).mp c_3
          replace h := h.1 c_3
          refine lv_iload_n hx hb dX9_parts_257 rfl (lv_at hl 4 rfl) ?_
          refine lv_if_eq (tgt := 267) hx hb dX9_parts_258 (by decide) (fun c_4 => ?_) (fun c_4 => ?_)
          · replace h := h.1 c_4
            have hP9 := hP.sub (ws' := [(h_a0, .inr (8, [.int a0_primes, .ref q_a0_prime, w_a0_isNone, .int a0_hasSpan, .long a0_spanFrom, .int a0_spanMany, w_a0_least, w_a0_greatest, w_a0_isSquared, .int a0_hasPart, .long a0_parted, .int a0_partMany, .ref q_a0_partPrime, .ref q_a0_partPower, .int a0_rows, w_a0_row, .long a0_foundLeast_24_0, .long a0_foundGreatest_24_0, .int a0_foundSquare_24_0])), (q_a0_prime, .inl (cI, 9592, .inl a0_prime)), (q_a0_partPrime, .inl (cJ, 16, .inr (.inl a0_partPrime_24_0))), (q_a0_partPower, .inl (cI, 16, .inl a0_partPower_24_0))]) [0, 1, 2, 3] rfl
            have hD9 := hD.sub (ws' := [(h_a0, .inr (8, [.int a0_primes, .ref q_a0_prime, w_a0_isNone, .int a0_hasSpan, .long a0_spanFrom, .int a0_spanMany, w_a0_least, w_a0_greatest, w_a0_isSquared, .int a0_hasPart, .long a0_parted, .int a0_partMany, .ref q_a0_partPrime, .ref q_a0_partPower, .int a0_rows, w_a0_row, .long a0_foundLeast_24_0, .long a0_foundGreatest_24_0, .int a0_foundSquare_24_0])), (q_a0_prime, .inl (cI, 9592, .inl a0_prime)), (q_a0_partPrime, .inl (cJ, 16, .inr (.inl a0_partPrime_24_0))), (q_a0_partPower, .inl (cI, 16, .inl a0_partPower_24_0))]) [0, 1, 2, 3] (by decide) rfl
            exact W.vret hx hb hr (fun t ht hW => ⟨⟨(a0_partMany, a0_foundLeast_24_0, a0_foundGreatest_24_0, a0_foundSquare_24_0, a0_partPrime_24_0, a0_partPower_24_0), rfl, h, by rw [ht]; exact hP9, hD9⟩, hS.F ht⟩) hS.2.2 dX9_parts_267
          · replace h := h.2 c_4
            refine lv_aload_n hx hb dX9_parts_261 rfl (lv_at hl 3 rfl) ?_
            refine lv_iload hx hb dX9_parts_262 (lv_at hl 1 rfl) ?_
            refine va_put (D := (dC, dI)) (ci := 8) (v := .int l6_24_0) (ty := .int) (C := RX9) (T := TX9) (N := 19) hx hb hts hin_X9 tyX9 tyX9_ok nmX9 hown hK hP hD hS 0 rfl rfl 11 (by decide) hw_5 (fun _ h9 => h9) rfl (by decide +kernel) rfl rfl (Nat.le_of_ble_eq_true rfl) dX9_parts_264 (fun H locs hP hD hS => ?_)
            have hP : va_P (dC, dI) vwCl [(h_a0, .inr (8, [.int a0_primes, .ref q_a0_prime, w_a0_isNone, .int a0_hasSpan, .long a0_spanFrom, .int a0_spanMany, w_a0_least, w_a0_greatest, w_a0_isSquared, .int a0_hasPart, .long a0_parted, .int l6_24_0, .ref q_a0_partPrime, .ref q_a0_partPower, .int a0_rows, w_a0_row, .long a0_foundLeast_24_0, .long a0_foundGreatest_24_0, .int a0_foundSquare_24_0])), (q_a0_prime, .inl (cI, 9592, .inl a0_prime)), (q_a0_partPrime, .inl (cJ, 16, .inr (.inl a0_partPrime_24_0))), (q_a0_partPower, .inl (cI, 16, .inl a0_partPower_24_0))] H := hP
            have hD : va_D A [(h_a0, .inr (8, [.int a0_primes, .ref q_a0_prime, w_a0_isNone, .int a0_hasSpan, .long a0_spanFrom, .int a0_spanMany, w_a0_least, w_a0_greatest, w_a0_isSquared, .int a0_hasPart, .long a0_parted, .int l6_24_0, .ref q_a0_partPrime, .ref q_a0_partPower, .int a0_rows, w_a0_row, .long a0_foundLeast_24_0, .long a0_foundGreatest_24_0, .int a0_foundSquare_24_0])), (q_a0_prime, .inl (cI, 9592, .inl a0_prime)), (q_a0_partPrime, .inl (cJ, 16, .inr (.inl a0_partPrime_24_0))), (q_a0_partPower, .inl (cI, 16, .inl a0_partPower_24_0))] := hD
            have hP9 := hP.sub (ws' := [(h_a0, .inr (8, [.int a0_primes, .ref q_a0_prime, w_a0_isNone, .int a0_hasSpan, .long a0_spanFrom, .int a0_spanMany, w_a0_least, w_a0_greatest, w_a0_isSquared, .int a0_hasPart, .long a0_parted, .int l6_24_0, .ref q_a0_partPrime, .ref q_a0_partPower, .int a0_rows, w_a0_row, .long a0_foundLeast_24_0, .long a0_foundGreatest_24_0, .int a0_foundSquare_24_0])), (q_a0_prime, .inl (cI, 9592, .inl a0_prime)), (q_a0_partPrime, .inl (cJ, 16, .inr (.inl a0_partPrime_24_0))), (q_a0_partPower, .inl (cI, 16, .inl a0_partPower_24_0))]) [0, 1, 2, 3] rfl
            have hD9 := hD.sub (ws' := [(h_a0, .inr (8, [.int a0_primes, .ref q_a0_prime, w_a0_isNone, .int a0_hasSpan, .long a0_spanFrom, .int a0_spanMany, w_a0_least, w_a0_greatest, w_a0_isSquared, .int a0_hasPart, .long a0_parted, .int l6_24_0, .ref q_a0_partPrime, .ref q_a0_partPower, .int a0_rows, w_a0_row, .long a0_foundLeast_24_0, .long a0_foundGreatest_24_0, .int a0_foundSquare_24_0])), (q_a0_prime, .inl (cI, 9592, .inl a0_prime)), (q_a0_partPrime, .inl (cJ, 16, .inr (.inl a0_partPrime_24_0))), (q_a0_partPower, .inl (cI, 16, .inl a0_partPower_24_0))]) [0, 1, 2, 3] (by decide) rfl
            exact W.vret hx hb hr (fun t ht hW => ⟨⟨(l6_24_0, a0_foundLeast_24_0, a0_foundGreatest_24_0, a0_foundSquare_24_0, a0_partPrime_24_0, a0_partPower_24_0), rfl, h, by rw [ht]; exact hP9, hD9⟩, hS.F ht⟩) hS.2.2 dX9_parts_267
        · replace c_3 := lc_nle c_3
          replace h := h.2 c_3
          refine lv_aload_n hx hb dX9_parts_205 rfl (lv_at hl 3 rfl) ?_
          refine lv_aload_n hx hb dX9_parts_206 rfl (lv_at hl 3 rfl) ?_
          refine va_get (D := (dC, dI)) (ci := 8) (v := .long a0_foundLeast_24_0) (C := RX9) (T := TX9) (N := 19) hx hb hts hin_X9 hown hK hP 0 rfl rfl 16 (by decide) hw_0 (fun _ h9 => h9) rfl dX9_parts_207 ?_
          refine lv_lconst (v := (1 : Int64)) hx hb dX9_parts_210 (by decide) ?_
          refine W.lcmp hx hb dX9_parts_211 ?_
          refine lv_if_ne (tgt := 220) hx hb dX9_parts_212 (by decide) (fun c_5 => ?_) (fun c_5 => ?_)
          · replace c_5 := lc_neq c_5
            replace h := h.2 c_5
            refine lv_aload_n hx hb dX9_parts_220 rfl (lv_at hl 3 rfl) ?_
            refine va_get (D := (dC, dI)) (ci := 8) (v := .long a0_foundLeast_24_0) (C := RX9) (T := TX9) (N := 19) hx hb hts hin_X9 hown hK hP 0 rfl rfl 16 (by decide) hw_0 (fun _ h9 => h9) rfl dX9_parts_221 ?_
            refine va_put (D := (dC, dI)) (ci := 8) (v := .long a0_foundLeast_24_0) (ty := .long) (C := RX9) (T := TX9) (N := 19) hx hb hts hin_X9 tyX9 tyX9_ok nmX9 hown hK hP hD hS 0 rfl rfl 16 (by decide) hw_0 (fun _ h9 => h9) rfl (by decide +kernel) rfl rfl (Nat.le_of_ble_eq_true rfl) dX9_parts_224 (fun H locs hP hD hS => ?_)
            have hP : va_P (dC, dI) vwCl [(h_a0, .inr (8, [.int a0_primes, .ref q_a0_prime, w_a0_isNone, .int a0_hasSpan, .long a0_spanFrom, .int a0_spanMany, w_a0_least, w_a0_greatest, w_a0_isSquared, .int a0_hasPart, .long a0_parted, .int a0_partMany, .ref q_a0_partPrime, .ref q_a0_partPower, .int a0_rows, w_a0_row, .long a0_foundLeast_24_0, .long a0_foundGreatest_24_0, .int a0_foundSquare_24_0])), (q_a0_prime, .inl (cI, 9592, .inl a0_prime)), (q_a0_partPrime, .inl (cJ, 16, .inr (.inl a0_partPrime_24_0))), (q_a0_partPower, .inl (cI, 16, .inl a0_partPower_24_0))] H := hP
            have hD : va_D A [(h_a0, .inr (8, [.int a0_primes, .ref q_a0_prime, w_a0_isNone, .int a0_hasSpan, .long a0_spanFrom, .int a0_spanMany, w_a0_least, w_a0_greatest, w_a0_isSquared, .int a0_hasPart, .long a0_parted, .int a0_partMany, .ref q_a0_partPrime, .ref q_a0_partPower, .int a0_rows, w_a0_row, .long a0_foundLeast_24_0, .long a0_foundGreatest_24_0, .int a0_foundSquare_24_0])), (q_a0_prime, .inl (cI, 9592, .inl a0_prime)), (q_a0_partPrime, .inl (cJ, 16, .inr (.inl a0_partPrime_24_0))), (q_a0_partPower, .inl (cI, 16, .inl a0_partPower_24_0))] := hD
            refine lv_aload_n hx hb dX9_parts_227 rfl (lv_at hl 3 rfl) ?_
            refine lv_lload hx hb dX9_parts_228 (lv_at hl 2 rfl) ?_
            refine va_put (D := (dC, dI)) (ci := 8) (v := .long l4_24_0) (ty := .long) (C := RX9) (T := TX9) (N := 19) hx hb hts hin_X9 tyX9 tyX9_ok nmX9 hown hK hP hD hS 0 rfl rfl 17 (by decide) hw_2 (fun _ h9 => h9) rfl (by decide +kernel) rfl rfl (Nat.le_of_ble_eq_true rfl) dX9_parts_230 (fun H locs hP hD hS => ?_)
            have hP : va_P (dC, dI) vwCl [(h_a0, .inr (8, [.int a0_primes, .ref q_a0_prime, w_a0_isNone, .int a0_hasSpan, .long a0_spanFrom, .int a0_spanMany, w_a0_least, w_a0_greatest, w_a0_isSquared, .int a0_hasPart, .long a0_parted, .int a0_partMany, .ref q_a0_partPrime, .ref q_a0_partPower, .int a0_rows, w_a0_row, .long a0_foundLeast_24_0, .long l4_24_0, .int a0_foundSquare_24_0])), (q_a0_prime, .inl (cI, 9592, .inl a0_prime)), (q_a0_partPrime, .inl (cJ, 16, .inr (.inl a0_partPrime_24_0))), (q_a0_partPower, .inl (cI, 16, .inl a0_partPower_24_0))] H := hP
            have hD : va_D A [(h_a0, .inr (8, [.int a0_primes, .ref q_a0_prime, w_a0_isNone, .int a0_hasSpan, .long a0_spanFrom, .int a0_spanMany, w_a0_least, w_a0_greatest, w_a0_isSquared, .int a0_hasPart, .long a0_parted, .int a0_partMany, .ref q_a0_partPrime, .ref q_a0_partPower, .int a0_rows, w_a0_row, .long a0_foundLeast_24_0, .long l4_24_0, .int a0_foundSquare_24_0])), (q_a0_prime, .inl (cI, 9592, .inl a0_prime)), (q_a0_partPrime, .inl (cJ, 16, .inr (.inl a0_partPrime_24_0))), (q_a0_partPower, .inl (cI, 16, .inl a0_partPower_24_0))] := hD
            refine lv_iload_n hx hb dX9_parts_233 rfl (lv_at hl 4 rfl) ?_
            refine lv_if_eq (tgt := 254) hx hb dX9_parts_234 (by decide) (fun c_6 => ?_) (fun c_6 => ?_)
            · replace h := h.1 c_6
              obtain ⟨x6_7, e_x6_7⟩ : ∃ y : Int32, y = l6_24_0 + (1 : Int32) := ⟨_, rfl⟩
              replace h := h x6_7 e_x6_7
              refine lv_iinc (v := x6_7) (lv' := [(6, .int x6_7), (7, .int l7_24_0), (4, .long l4_24_0), (0, .ref h_a0), (3, .int p2)]) hx hb dX9_parts_254 hl (k := 1) rfl (by rw [e_x6_7]; rfl) (by decide) rfl (fun ls hl => ?_)
              refine lv_iload_n hx hb dX9_parts_257 rfl (lv_at hl 4 rfl) ?_
              refine lv_if_eq (tgt := 267) hx hb dX9_parts_258 (by decide) (fun c_8 => ?_) (fun c_8 => ?_)
              · replace h := h.1 c_8
                have hP9 := hP.sub (ws' := [(h_a0, .inr (8, [.int a0_primes, .ref q_a0_prime, w_a0_isNone, .int a0_hasSpan, .long a0_spanFrom, .int a0_spanMany, w_a0_least, w_a0_greatest, w_a0_isSquared, .int a0_hasPart, .long a0_parted, .int a0_partMany, .ref q_a0_partPrime, .ref q_a0_partPower, .int a0_rows, w_a0_row, .long a0_foundLeast_24_0, .long l4_24_0, .int a0_foundSquare_24_0])), (q_a0_prime, .inl (cI, 9592, .inl a0_prime)), (q_a0_partPrime, .inl (cJ, 16, .inr (.inl a0_partPrime_24_0))), (q_a0_partPower, .inl (cI, 16, .inl a0_partPower_24_0))]) [0, 1, 2, 3] rfl
                have hD9 := hD.sub (ws' := [(h_a0, .inr (8, [.int a0_primes, .ref q_a0_prime, w_a0_isNone, .int a0_hasSpan, .long a0_spanFrom, .int a0_spanMany, w_a0_least, w_a0_greatest, w_a0_isSquared, .int a0_hasPart, .long a0_parted, .int a0_partMany, .ref q_a0_partPrime, .ref q_a0_partPower, .int a0_rows, w_a0_row, .long a0_foundLeast_24_0, .long l4_24_0, .int a0_foundSquare_24_0])), (q_a0_prime, .inl (cI, 9592, .inl a0_prime)), (q_a0_partPrime, .inl (cJ, 16, .inr (.inl a0_partPrime_24_0))), (q_a0_partPower, .inl (cI, 16, .inl a0_partPower_24_0))]) [0, 1, 2, 3] (by decide) rfl
                exact W.vret hx hb hr (fun t ht hW => ⟨⟨(a0_partMany, a0_foundLeast_24_0, l4_24_0, a0_foundSquare_24_0, a0_partPrime_24_0, a0_partPower_24_0), rfl, h, by rw [ht]; exact hP9, hD9⟩, hS.F ht⟩) hS.2.2 dX9_parts_267
              · replace h := h.2 c_8
                refine lv_aload_n hx hb dX9_parts_261 rfl (lv_at hl 3 rfl) ?_
                refine lv_iload hx hb dX9_parts_262 (lv_at hl 0 rfl) ?_
                refine va_put (D := (dC, dI)) (ci := 8) (v := .int x6_7) (ty := .int) (C := RX9) (T := TX9) (N := 19) hx hb hts hin_X9 tyX9 tyX9_ok nmX9 hown hK hP hD hS 0 rfl rfl 11 (by decide) hw_5 (fun _ h9 => h9) rfl (by decide +kernel) rfl rfl (Nat.le_of_ble_eq_true rfl) dX9_parts_264 (fun H locs hP hD hS => ?_)
                have hP : va_P (dC, dI) vwCl [(h_a0, .inr (8, [.int a0_primes, .ref q_a0_prime, w_a0_isNone, .int a0_hasSpan, .long a0_spanFrom, .int a0_spanMany, w_a0_least, w_a0_greatest, w_a0_isSquared, .int a0_hasPart, .long a0_parted, .int x6_7, .ref q_a0_partPrime, .ref q_a0_partPower, .int a0_rows, w_a0_row, .long a0_foundLeast_24_0, .long l4_24_0, .int a0_foundSquare_24_0])), (q_a0_prime, .inl (cI, 9592, .inl a0_prime)), (q_a0_partPrime, .inl (cJ, 16, .inr (.inl a0_partPrime_24_0))), (q_a0_partPower, .inl (cI, 16, .inl a0_partPower_24_0))] H := hP
                have hD : va_D A [(h_a0, .inr (8, [.int a0_primes, .ref q_a0_prime, w_a0_isNone, .int a0_hasSpan, .long a0_spanFrom, .int a0_spanMany, w_a0_least, w_a0_greatest, w_a0_isSquared, .int a0_hasPart, .long a0_parted, .int x6_7, .ref q_a0_partPrime, .ref q_a0_partPower, .int a0_rows, w_a0_row, .long a0_foundLeast_24_0, .long l4_24_0, .int a0_foundSquare_24_0])), (q_a0_prime, .inl (cI, 9592, .inl a0_prime)), (q_a0_partPrime, .inl (cJ, 16, .inr (.inl a0_partPrime_24_0))), (q_a0_partPower, .inl (cI, 16, .inl a0_partPower_24_0))] := hD
                have hP9 := hP.sub (ws' := [(h_a0, .inr (8, [.int a0_primes, .ref q_a0_prime, w_a0_isNone, .int a0_hasSpan, .long a0_spanFrom, .int a0_spanMany, w_a0_least, w_a0_greatest, w_a0_isSquared, .int a0_hasPart, .long a0_parted, .int x6_7, .ref q_a0_partPrime, .ref q_a0_partPower, .int a0_rows, w_a0_row, .long a0_foundLeast_24_0, .long l4_24_0, .int a0_foundSquare_24_0])), (q_a0_prime, .inl (cI, 9592, .inl a0_prime)), (q_a0_partPrime, .inl (cJ, 16, .inr (.inl a0_partPrime_24_0))), (q_a0_partPower, .inl (cI, 16, .inl a0_partPower_24_0))]) [0, 1, 2, 3] rfl
                have hD9 := hD.sub (ws' := [(h_a0, .inr (8, [.int a0_primes, .ref q_a0_prime, w_a0_isNone, .int a0_hasSpan, .long a0_spanFrom, .int a0_spanMany, w_a0_least, w_a0_greatest, w_a0_isSquared, .int a0_hasPart, .long a0_parted, .int x6_7, .ref q_a0_partPrime, .ref q_a0_partPower, .int a0_rows, w_a0_row, .long a0_foundLeast_24_0, .long l4_24_0, .int a0_foundSquare_24_0])), (q_a0_prime, .inl (cI, 9592, .inl a0_prime)), (q_a0_partPrime, .inl (cJ, 16, .inr (.inl a0_partPrime_24_0))), (q_a0_partPower, .inl (cI, 16, .inl a0_partPower_24_0))]) [0, 1, 2, 3] (by decide) rfl
                exact W.vret hx hb hr (fun t ht hW => ⟨⟨(x6_7, a0_foundLeast_24_0, l4_24_0, a0_foundSquare_24_0, a0_partPrime_24_0, a0_partPower_24_0), rfl, h, by rw [ht]; exact hP9, hD9⟩, hS.F ht⟩) hS.2.2 dX9_parts_267
            · replace h := h.2 c_6
              refine lv_aload_n hx hb dX9_parts_237 rfl (lv_at hl 3 rfl) ?_
              refine va_get (D := (dC, dI)) (ci := 8) (v := .ref q_a0_partPrime) (C := RX9) (T := TX9) (N := 19) hx hb hts hin_X9 hown hK hP 0 rfl rfl 12 (by decide) hw_6 (fun _ h9 => h9) rfl dX9_parts_238 ?_
              refine lv_iload hx hb dX9_parts_241 (lv_at hl 1 rfl) ?_
              refine lv_lload hx hb dX9_parts_243 (lv_at hl 2 rfl) ?_
              obtain ⟨hin_9, h⟩ := h
              refine va_last hx hb hK hP hD hS 2 1 rfl rfl hin_9 dX9_parts_245 (fun H locs hP hD hS => ?_)
              have hP : va_P (dC, dI) vwCl [(h_a0, .inr (8, [.int a0_primes, .ref q_a0_prime, w_a0_isNone, .int a0_hasSpan, .long a0_spanFrom, .int a0_spanMany, w_a0_least, w_a0_greatest, w_a0_isSquared, .int a0_hasPart, .long a0_parted, .int a0_partMany, .ref q_a0_partPrime, .ref q_a0_partPower, .int a0_rows, w_a0_row, .long a0_foundLeast_24_0, .long l4_24_0, .int a0_foundSquare_24_0])), (q_a0_prime, .inl (cI, 9592, .inl a0_prime)), (q_a0_partPrime, .inl (cJ, 16, .inr (.inl (vp_updL a0_partPrime_24_0 l6_24_0.toNatClampNeg l4_24_0)))), (q_a0_partPower, .inl (cI, 16, .inl a0_partPower_24_0))] H := hP
              have hD : va_D A [(h_a0, .inr (8, [.int a0_primes, .ref q_a0_prime, w_a0_isNone, .int a0_hasSpan, .long a0_spanFrom, .int a0_spanMany, w_a0_least, w_a0_greatest, w_a0_isSquared, .int a0_hasPart, .long a0_parted, .int a0_partMany, .ref q_a0_partPrime, .ref q_a0_partPower, .int a0_rows, w_a0_row, .long a0_foundLeast_24_0, .long l4_24_0, .int a0_foundSquare_24_0])), (q_a0_prime, .inl (cI, 9592, .inl a0_prime)), (q_a0_partPrime, .inl (cJ, 16, .inr (.inl (vp_updL a0_partPrime_24_0 l6_24_0.toNatClampNeg l4_24_0)))), (q_a0_partPower, .inl (cI, 16, .inl a0_partPower_24_0))] := hD
              refine lv_aload_n hx hb dX9_parts_246 rfl (lv_at hl 3 rfl) ?_
              refine va_get (D := (dC, dI)) (ci := 8) (v := .ref q_a0_partPower) (C := RX9) (T := TX9) (N := 19) hx hb hts hin_X9 hown hK hP 0 rfl rfl 13 (by decide) hw_7 (fun _ h9 => h9) rfl dX9_parts_247 ?_
              refine lv_iload hx hb dX9_parts_250 (lv_at hl 1 rfl) ?_
              refine lv_iconst (v := (1 : Int32)) hx hb dX9_parts_252 (by decide) ?_
              obtain ⟨hin_10, h⟩ := h
              refine va_iast hx hb hK hP hD hS 3 0 rfl rfl hin_10 dX9_parts_253 (fun H locs hP hD hS => ?_)
              have hP : va_P (dC, dI) vwCl [(h_a0, .inr (8, [.int a0_primes, .ref q_a0_prime, w_a0_isNone, .int a0_hasSpan, .long a0_spanFrom, .int a0_spanMany, w_a0_least, w_a0_greatest, w_a0_isSquared, .int a0_hasPart, .long a0_parted, .int a0_partMany, .ref q_a0_partPrime, .ref q_a0_partPower, .int a0_rows, w_a0_row, .long a0_foundLeast_24_0, .long l4_24_0, .int a0_foundSquare_24_0])), (q_a0_prime, .inl (cI, 9592, .inl a0_prime)), (q_a0_partPrime, .inl (cJ, 16, .inr (.inl (vp_updL a0_partPrime_24_0 l6_24_0.toNatClampNeg l4_24_0)))), (q_a0_partPower, .inl (cI, 16, .inl (upd a0_partPower_24_0 l6_24_0.toNatClampNeg (1 : Int32))))] H := hP
              have hD : va_D A [(h_a0, .inr (8, [.int a0_primes, .ref q_a0_prime, w_a0_isNone, .int a0_hasSpan, .long a0_spanFrom, .int a0_spanMany, w_a0_least, w_a0_greatest, w_a0_isSquared, .int a0_hasPart, .long a0_parted, .int a0_partMany, .ref q_a0_partPrime, .ref q_a0_partPower, .int a0_rows, w_a0_row, .long a0_foundLeast_24_0, .long l4_24_0, .int a0_foundSquare_24_0])), (q_a0_prime, .inl (cI, 9592, .inl a0_prime)), (q_a0_partPrime, .inl (cJ, 16, .inr (.inl (vp_updL a0_partPrime_24_0 l6_24_0.toNatClampNeg l4_24_0)))), (q_a0_partPower, .inl (cI, 16, .inl (upd a0_partPower_24_0 l6_24_0.toNatClampNeg (1 : Int32))))] := hD
              obtain ⟨x6_11, e_x6_11⟩ : ∃ y : Int32, y = l6_24_0 + (1 : Int32) := ⟨_, rfl⟩
              replace h := h x6_11 e_x6_11
              refine lv_iinc (v := x6_11) (lv' := [(6, .int x6_11), (7, .int l7_24_0), (4, .long l4_24_0), (0, .ref h_a0), (3, .int p2)]) hx hb dX9_parts_254 hl (k := 1) rfl (by rw [e_x6_11]; rfl) (by decide) rfl (fun ls hl => ?_)
              refine lv_iload_n hx hb dX9_parts_257 rfl (lv_at hl 4 rfl) ?_
              refine lv_if_eq (tgt := 267) hx hb dX9_parts_258 (by decide) (fun c_12 => ?_) (fun c_12 => ?_)
              · replace h := h.1 c_12
                have hP9 := hP.sub (ws' := [(h_a0, .inr (8, [.int a0_primes, .ref q_a0_prime, w_a0_isNone, .int a0_hasSpan, .long a0_spanFrom, .int a0_spanMany, w_a0_least, w_a0_greatest, w_a0_isSquared, .int a0_hasPart, .long a0_parted, .int a0_partMany, .ref q_a0_partPrime, .ref q_a0_partPower, .int a0_rows, w_a0_row, .long a0_foundLeast_24_0, .long l4_24_0, .int a0_foundSquare_24_0])), (q_a0_prime, .inl (cI, 9592, .inl a0_prime)), (q_a0_partPrime, .inl (cJ, 16, .inr (.inl (vp_updL a0_partPrime_24_0 l6_24_0.toNatClampNeg l4_24_0)))), (q_a0_partPower, .inl (cI, 16, .inl (upd a0_partPower_24_0 l6_24_0.toNatClampNeg (1 : Int32))))]) [0, 1, 2, 3] rfl
                have hD9 := hD.sub (ws' := [(h_a0, .inr (8, [.int a0_primes, .ref q_a0_prime, w_a0_isNone, .int a0_hasSpan, .long a0_spanFrom, .int a0_spanMany, w_a0_least, w_a0_greatest, w_a0_isSquared, .int a0_hasPart, .long a0_parted, .int a0_partMany, .ref q_a0_partPrime, .ref q_a0_partPower, .int a0_rows, w_a0_row, .long a0_foundLeast_24_0, .long l4_24_0, .int a0_foundSquare_24_0])), (q_a0_prime, .inl (cI, 9592, .inl a0_prime)), (q_a0_partPrime, .inl (cJ, 16, .inr (.inl (vp_updL a0_partPrime_24_0 l6_24_0.toNatClampNeg l4_24_0)))), (q_a0_partPower, .inl (cI, 16, .inl (upd a0_partPower_24_0 l6_24_0.toNatClampNeg (1 : Int32))))]) [0, 1, 2, 3] (by decide) rfl
                exact W.vret hx hb hr (fun t ht hW => ⟨⟨(a0_partMany, a0_foundLeast_24_0, l4_24_0, a0_foundSquare_24_0, (vp_updL a0_partPrime_24_0 l6_24_0.toNatClampNeg l4_24_0), (upd a0_partPower_24_0 l6_24_0.toNatClampNeg (1 : Int32))), rfl, h, by rw [ht]; exact hP9, hD9⟩, hS.F ht⟩) hS.2.2 dX9_parts_267
              · replace h := h.2 c_12
                refine lv_aload_n hx hb dX9_parts_261 rfl (lv_at hl 3 rfl) ?_
                refine lv_iload hx hb dX9_parts_262 (lv_at hl 0 rfl) ?_
                refine va_put (D := (dC, dI)) (ci := 8) (v := .int x6_11) (ty := .int) (C := RX9) (T := TX9) (N := 19) hx hb hts hin_X9 tyX9 tyX9_ok nmX9 hown hK hP hD hS 0 rfl rfl 11 (by decide) hw_5 (fun _ h9 => h9) rfl (by decide +kernel) rfl rfl (Nat.le_of_ble_eq_true rfl) dX9_parts_264 (fun H locs hP hD hS => ?_)
                have hP : va_P (dC, dI) vwCl [(h_a0, .inr (8, [.int a0_primes, .ref q_a0_prime, w_a0_isNone, .int a0_hasSpan, .long a0_spanFrom, .int a0_spanMany, w_a0_least, w_a0_greatest, w_a0_isSquared, .int a0_hasPart, .long a0_parted, .int x6_11, .ref q_a0_partPrime, .ref q_a0_partPower, .int a0_rows, w_a0_row, .long a0_foundLeast_24_0, .long l4_24_0, .int a0_foundSquare_24_0])), (q_a0_prime, .inl (cI, 9592, .inl a0_prime)), (q_a0_partPrime, .inl (cJ, 16, .inr (.inl (vp_updL a0_partPrime_24_0 l6_24_0.toNatClampNeg l4_24_0)))), (q_a0_partPower, .inl (cI, 16, .inl (upd a0_partPower_24_0 l6_24_0.toNatClampNeg (1 : Int32))))] H := hP
                have hD : va_D A [(h_a0, .inr (8, [.int a0_primes, .ref q_a0_prime, w_a0_isNone, .int a0_hasSpan, .long a0_spanFrom, .int a0_spanMany, w_a0_least, w_a0_greatest, w_a0_isSquared, .int a0_hasPart, .long a0_parted, .int x6_11, .ref q_a0_partPrime, .ref q_a0_partPower, .int a0_rows, w_a0_row, .long a0_foundLeast_24_0, .long l4_24_0, .int a0_foundSquare_24_0])), (q_a0_prime, .inl (cI, 9592, .inl a0_prime)), (q_a0_partPrime, .inl (cJ, 16, .inr (.inl (vp_updL a0_partPrime_24_0 l6_24_0.toNatClampNeg l4_24_0)))), (q_a0_partPower, .inl (cI, 16, .inl (upd a0_partPower_24_0 l6_24_0.toNatClampNeg (1 : Int32))))] := hD
                have hP9 := hP.sub (ws' := [(h_a0, .inr (8, [.int a0_primes, .ref q_a0_prime, w_a0_isNone, .int a0_hasSpan, .long a0_spanFrom, .int a0_spanMany, w_a0_least, w_a0_greatest, w_a0_isSquared, .int a0_hasPart, .long a0_parted, .int x6_11, .ref q_a0_partPrime, .ref q_a0_partPower, .int a0_rows, w_a0_row, .long a0_foundLeast_24_0, .long l4_24_0, .int a0_foundSquare_24_0])), (q_a0_prime, .inl (cI, 9592, .inl a0_prime)), (q_a0_partPrime, .inl (cJ, 16, .inr (.inl (vp_updL a0_partPrime_24_0 l6_24_0.toNatClampNeg l4_24_0)))), (q_a0_partPower, .inl (cI, 16, .inl (upd a0_partPower_24_0 l6_24_0.toNatClampNeg (1 : Int32))))]) [0, 1, 2, 3] rfl
                have hD9 := hD.sub (ws' := [(h_a0, .inr (8, [.int a0_primes, .ref q_a0_prime, w_a0_isNone, .int a0_hasSpan, .long a0_spanFrom, .int a0_spanMany, w_a0_least, w_a0_greatest, w_a0_isSquared, .int a0_hasPart, .long a0_parted, .int x6_11, .ref q_a0_partPrime, .ref q_a0_partPower, .int a0_rows, w_a0_row, .long a0_foundLeast_24_0, .long l4_24_0, .int a0_foundSquare_24_0])), (q_a0_prime, .inl (cI, 9592, .inl a0_prime)), (q_a0_partPrime, .inl (cJ, 16, .inr (.inl (vp_updL a0_partPrime_24_0 l6_24_0.toNatClampNeg l4_24_0)))), (q_a0_partPower, .inl (cI, 16, .inl (upd a0_partPower_24_0 l6_24_0.toNatClampNeg (1 : Int32))))]) [0, 1, 2, 3] (by decide) rfl
                exact W.vret hx hb hr (fun t ht hW => ⟨⟨(x6_11, a0_foundLeast_24_0, l4_24_0, a0_foundSquare_24_0, (vp_updL a0_partPrime_24_0 l6_24_0.toNatClampNeg l4_24_0), (upd a0_partPower_24_0 l6_24_0.toNatClampNeg (1 : Int32))), rfl, h, by rw [ht]; exact hP9, hD9⟩, hS.F ht⟩) hS.2.2 dX9_parts_267
          · replace c_5 := (lg_cmp_eq _ _).mp c_5
            replace h := h.1 c_5
            refine lv_lload hx hb dX9_parts_215 (lv_at hl 2 rfl) ?_
            refine lv_goto (tgt := 224) hx hb dX9_parts_217 (by decide) ?_
            refine va_put (D := (dC, dI)) (ci := 8) (v := .long l4_24_0) (ty := .long) (C := RX9) (T := TX9) (N := 19) hx hb hts hin_X9 tyX9 tyX9_ok nmX9 hown hK hP hD hS 0 rfl rfl 16 (by decide) hw_0 (fun _ h9 => h9) rfl (by decide +kernel) rfl rfl (Nat.le_of_ble_eq_true rfl) dX9_parts_224 (fun H locs hP hD hS => ?_)
            have hP : va_P (dC, dI) vwCl [(h_a0, .inr (8, [.int a0_primes, .ref q_a0_prime, w_a0_isNone, .int a0_hasSpan, .long a0_spanFrom, .int a0_spanMany, w_a0_least, w_a0_greatest, w_a0_isSquared, .int a0_hasPart, .long a0_parted, .int a0_partMany, .ref q_a0_partPrime, .ref q_a0_partPower, .int a0_rows, w_a0_row, .long l4_24_0, .long a0_foundGreatest_24_0, .int a0_foundSquare_24_0])), (q_a0_prime, .inl (cI, 9592, .inl a0_prime)), (q_a0_partPrime, .inl (cJ, 16, .inr (.inl a0_partPrime_24_0))), (q_a0_partPower, .inl (cI, 16, .inl a0_partPower_24_0))] H := hP
            have hD : va_D A [(h_a0, .inr (8, [.int a0_primes, .ref q_a0_prime, w_a0_isNone, .int a0_hasSpan, .long a0_spanFrom, .int a0_spanMany, w_a0_least, w_a0_greatest, w_a0_isSquared, .int a0_hasPart, .long a0_parted, .int a0_partMany, .ref q_a0_partPrime, .ref q_a0_partPower, .int a0_rows, w_a0_row, .long l4_24_0, .long a0_foundGreatest_24_0, .int a0_foundSquare_24_0])), (q_a0_prime, .inl (cI, 9592, .inl a0_prime)), (q_a0_partPrime, .inl (cJ, 16, .inr (.inl a0_partPrime_24_0))), (q_a0_partPower, .inl (cI, 16, .inl a0_partPower_24_0))] := hD
            refine lv_aload_n hx hb dX9_parts_227 rfl (lv_at hl 3 rfl) ?_
            refine lv_lload hx hb dX9_parts_228 (lv_at hl 2 rfl) ?_
            refine va_put (D := (dC, dI)) (ci := 8) (v := .long l4_24_0) (ty := .long) (C := RX9) (T := TX9) (N := 19) hx hb hts hin_X9 tyX9 tyX9_ok nmX9 hown hK hP hD hS 0 rfl rfl 17 (by decide) hw_2 (fun _ h9 => h9) rfl (by decide +kernel) rfl rfl (Nat.le_of_ble_eq_true rfl) dX9_parts_230 (fun H locs hP hD hS => ?_)
            have hP : va_P (dC, dI) vwCl [(h_a0, .inr (8, [.int a0_primes, .ref q_a0_prime, w_a0_isNone, .int a0_hasSpan, .long a0_spanFrom, .int a0_spanMany, w_a0_least, w_a0_greatest, w_a0_isSquared, .int a0_hasPart, .long a0_parted, .int a0_partMany, .ref q_a0_partPrime, .ref q_a0_partPower, .int a0_rows, w_a0_row, .long l4_24_0, .long l4_24_0, .int a0_foundSquare_24_0])), (q_a0_prime, .inl (cI, 9592, .inl a0_prime)), (q_a0_partPrime, .inl (cJ, 16, .inr (.inl a0_partPrime_24_0))), (q_a0_partPower, .inl (cI, 16, .inl a0_partPower_24_0))] H := hP
            have hD : va_D A [(h_a0, .inr (8, [.int a0_primes, .ref q_a0_prime, w_a0_isNone, .int a0_hasSpan, .long a0_spanFrom, .int a0_spanMany, w_a0_least, w_a0_greatest, w_a0_isSquared, .int a0_hasPart, .long a0_parted, .int a0_partMany, .ref q_a0_partPrime, .ref q_a0_partPower, .int a0_rows, w_a0_row, .long l4_24_0, .long l4_24_0, .int a0_foundSquare_24_0])), (q_a0_prime, .inl (cI, 9592, .inl a0_prime)), (q_a0_partPrime, .inl (cJ, 16, .inr (.inl a0_partPrime_24_0))), (q_a0_partPower, .inl (cI, 16, .inl a0_partPower_24_0))] := hD
            refine lv_iload_n hx hb dX9_parts_233 rfl (lv_at hl 4 rfl) ?_
            refine lv_if_eq (tgt := 254) hx hb dX9_parts_234 (by decide) (fun c_13 => ?_) (fun c_13 => ?_)
            · replace h := h.1 c_13
              obtain ⟨x6_14, e_x6_14⟩ : ∃ y : Int32, y = l6_24_0 + (1 : Int32) := ⟨_, rfl⟩
              replace h := h x6_14 e_x6_14
              refine lv_iinc (v := x6_14) (lv' := [(6, .int x6_14), (7, .int l7_24_0), (4, .long l4_24_0), (0, .ref h_a0), (3, .int p2)]) hx hb dX9_parts_254 hl (k := 1) rfl (by rw [e_x6_14]; rfl) (by decide) rfl (fun ls hl => ?_)
              refine lv_iload_n hx hb dX9_parts_257 rfl (lv_at hl 4 rfl) ?_
              refine lv_if_eq (tgt := 267) hx hb dX9_parts_258 (by decide) (fun c_15 => ?_) (fun c_15 => ?_)
              · replace h := h.1 c_15
                have hP9 := hP.sub (ws' := [(h_a0, .inr (8, [.int a0_primes, .ref q_a0_prime, w_a0_isNone, .int a0_hasSpan, .long a0_spanFrom, .int a0_spanMany, w_a0_least, w_a0_greatest, w_a0_isSquared, .int a0_hasPart, .long a0_parted, .int a0_partMany, .ref q_a0_partPrime, .ref q_a0_partPower, .int a0_rows, w_a0_row, .long l4_24_0, .long l4_24_0, .int a0_foundSquare_24_0])), (q_a0_prime, .inl (cI, 9592, .inl a0_prime)), (q_a0_partPrime, .inl (cJ, 16, .inr (.inl a0_partPrime_24_0))), (q_a0_partPower, .inl (cI, 16, .inl a0_partPower_24_0))]) [0, 1, 2, 3] rfl
                have hD9 := hD.sub (ws' := [(h_a0, .inr (8, [.int a0_primes, .ref q_a0_prime, w_a0_isNone, .int a0_hasSpan, .long a0_spanFrom, .int a0_spanMany, w_a0_least, w_a0_greatest, w_a0_isSquared, .int a0_hasPart, .long a0_parted, .int a0_partMany, .ref q_a0_partPrime, .ref q_a0_partPower, .int a0_rows, w_a0_row, .long l4_24_0, .long l4_24_0, .int a0_foundSquare_24_0])), (q_a0_prime, .inl (cI, 9592, .inl a0_prime)), (q_a0_partPrime, .inl (cJ, 16, .inr (.inl a0_partPrime_24_0))), (q_a0_partPower, .inl (cI, 16, .inl a0_partPower_24_0))]) [0, 1, 2, 3] (by decide) rfl
                exact W.vret hx hb hr (fun t ht hW => ⟨⟨(a0_partMany, l4_24_0, l4_24_0, a0_foundSquare_24_0, a0_partPrime_24_0, a0_partPower_24_0), rfl, h, by rw [ht]; exact hP9, hD9⟩, hS.F ht⟩) hS.2.2 dX9_parts_267
              · replace h := h.2 c_15
                refine lv_aload_n hx hb dX9_parts_261 rfl (lv_at hl 3 rfl) ?_
                refine lv_iload hx hb dX9_parts_262 (lv_at hl 0 rfl) ?_
                refine va_put (D := (dC, dI)) (ci := 8) (v := .int x6_14) (ty := .int) (C := RX9) (T := TX9) (N := 19) hx hb hts hin_X9 tyX9 tyX9_ok nmX9 hown hK hP hD hS 0 rfl rfl 11 (by decide) hw_5 (fun _ h9 => h9) rfl (by decide +kernel) rfl rfl (Nat.le_of_ble_eq_true rfl) dX9_parts_264 (fun H locs hP hD hS => ?_)
                have hP : va_P (dC, dI) vwCl [(h_a0, .inr (8, [.int a0_primes, .ref q_a0_prime, w_a0_isNone, .int a0_hasSpan, .long a0_spanFrom, .int a0_spanMany, w_a0_least, w_a0_greatest, w_a0_isSquared, .int a0_hasPart, .long a0_parted, .int x6_14, .ref q_a0_partPrime, .ref q_a0_partPower, .int a0_rows, w_a0_row, .long l4_24_0, .long l4_24_0, .int a0_foundSquare_24_0])), (q_a0_prime, .inl (cI, 9592, .inl a0_prime)), (q_a0_partPrime, .inl (cJ, 16, .inr (.inl a0_partPrime_24_0))), (q_a0_partPower, .inl (cI, 16, .inl a0_partPower_24_0))] H := hP
                have hD : va_D A [(h_a0, .inr (8, [.int a0_primes, .ref q_a0_prime, w_a0_isNone, .int a0_hasSpan, .long a0_spanFrom, .int a0_spanMany, w_a0_least, w_a0_greatest, w_a0_isSquared, .int a0_hasPart, .long a0_parted, .int x6_14, .ref q_a0_partPrime, .ref q_a0_partPower, .int a0_rows, w_a0_row, .long l4_24_0, .long l4_24_0, .int a0_foundSquare_24_0])), (q_a0_prime, .inl (cI, 9592, .inl a0_prime)), (q_a0_partPrime, .inl (cJ, 16, .inr (.inl a0_partPrime_24_0))), (q_a0_partPower, .inl (cI, 16, .inl a0_partPower_24_0))] := hD
                have hP9 := hP.sub (ws' := [(h_a0, .inr (8, [.int a0_primes, .ref q_a0_prime, w_a0_isNone, .int a0_hasSpan, .long a0_spanFrom, .int a0_spanMany, w_a0_least, w_a0_greatest, w_a0_isSquared, .int a0_hasPart, .long a0_parted, .int x6_14, .ref q_a0_partPrime, .ref q_a0_partPower, .int a0_rows, w_a0_row, .long l4_24_0, .long l4_24_0, .int a0_foundSquare_24_0])), (q_a0_prime, .inl (cI, 9592, .inl a0_prime)), (q_a0_partPrime, .inl (cJ, 16, .inr (.inl a0_partPrime_24_0))), (q_a0_partPower, .inl (cI, 16, .inl a0_partPower_24_0))]) [0, 1, 2, 3] rfl
                have hD9 := hD.sub (ws' := [(h_a0, .inr (8, [.int a0_primes, .ref q_a0_prime, w_a0_isNone, .int a0_hasSpan, .long a0_spanFrom, .int a0_spanMany, w_a0_least, w_a0_greatest, w_a0_isSquared, .int a0_hasPart, .long a0_parted, .int x6_14, .ref q_a0_partPrime, .ref q_a0_partPower, .int a0_rows, w_a0_row, .long l4_24_0, .long l4_24_0, .int a0_foundSquare_24_0])), (q_a0_prime, .inl (cI, 9592, .inl a0_prime)), (q_a0_partPrime, .inl (cJ, 16, .inr (.inl a0_partPrime_24_0))), (q_a0_partPower, .inl (cI, 16, .inl a0_partPower_24_0))]) [0, 1, 2, 3] (by decide) rfl
                exact W.vret hx hb hr (fun t ht hW => ⟨⟨(x6_14, l4_24_0, l4_24_0, a0_foundSquare_24_0, a0_partPrime_24_0, a0_partPower_24_0), rfl, h, by rw [ht]; exact hP9, hD9⟩, hS.F ht⟩) hS.2.2 dX9_parts_267
            · replace h := h.2 c_13
              refine lv_aload_n hx hb dX9_parts_237 rfl (lv_at hl 3 rfl) ?_
              refine va_get (D := (dC, dI)) (ci := 8) (v := .ref q_a0_partPrime) (C := RX9) (T := TX9) (N := 19) hx hb hts hin_X9 hown hK hP 0 rfl rfl 12 (by decide) hw_6 (fun _ h9 => h9) rfl dX9_parts_238 ?_
              refine lv_iload hx hb dX9_parts_241 (lv_at hl 1 rfl) ?_
              refine lv_lload hx hb dX9_parts_243 (lv_at hl 2 rfl) ?_
              obtain ⟨hin_16, h⟩ := h
              refine va_last hx hb hK hP hD hS 2 1 rfl rfl hin_16 dX9_parts_245 (fun H locs hP hD hS => ?_)
              have hP : va_P (dC, dI) vwCl [(h_a0, .inr (8, [.int a0_primes, .ref q_a0_prime, w_a0_isNone, .int a0_hasSpan, .long a0_spanFrom, .int a0_spanMany, w_a0_least, w_a0_greatest, w_a0_isSquared, .int a0_hasPart, .long a0_parted, .int a0_partMany, .ref q_a0_partPrime, .ref q_a0_partPower, .int a0_rows, w_a0_row, .long l4_24_0, .long l4_24_0, .int a0_foundSquare_24_0])), (q_a0_prime, .inl (cI, 9592, .inl a0_prime)), (q_a0_partPrime, .inl (cJ, 16, .inr (.inl (vp_updL a0_partPrime_24_0 l6_24_0.toNatClampNeg l4_24_0)))), (q_a0_partPower, .inl (cI, 16, .inl a0_partPower_24_0))] H := hP
              have hD : va_D A [(h_a0, .inr (8, [.int a0_primes, .ref q_a0_prime, w_a0_isNone, .int a0_hasSpan, .long a0_spanFrom, .int a0_spanMany, w_a0_least, w_a0_greatest, w_a0_isSquared, .int a0_hasPart, .long a0_parted, .int a0_partMany, .ref q_a0_partPrime, .ref q_a0_partPower, .int a0_rows, w_a0_row, .long l4_24_0, .long l4_24_0, .int a0_foundSquare_24_0])), (q_a0_prime, .inl (cI, 9592, .inl a0_prime)), (q_a0_partPrime, .inl (cJ, 16, .inr (.inl (vp_updL a0_partPrime_24_0 l6_24_0.toNatClampNeg l4_24_0)))), (q_a0_partPower, .inl (cI, 16, .inl a0_partPower_24_0))] := hD
              refine lv_aload_n hx hb dX9_parts_246 rfl (lv_at hl 3 rfl) ?_
              refine va_get (D := (dC, dI)) (ci := 8) (v := .ref q_a0_partPower) (C := RX9) (T := TX9) (N := 19) hx hb hts hin_X9 hown hK hP 0 rfl rfl 13 (by decide) hw_7 (fun _ h9 => h9) rfl dX9_parts_247 ?_
              refine lv_iload hx hb dX9_parts_250 (lv_at hl 1 rfl) ?_
              refine lv_iconst (v := (1 : Int32)) hx hb dX9_parts_252 (by decide) ?_
              obtain ⟨hin_17, h⟩ := h
              refine va_iast hx hb hK hP hD hS 3 0 rfl rfl hin_17 dX9_parts_253 (fun H locs hP hD hS => ?_)
              have hP : va_P (dC, dI) vwCl [(h_a0, .inr (8, [.int a0_primes, .ref q_a0_prime, w_a0_isNone, .int a0_hasSpan, .long a0_spanFrom, .int a0_spanMany, w_a0_least, w_a0_greatest, w_a0_isSquared, .int a0_hasPart, .long a0_parted, .int a0_partMany, .ref q_a0_partPrime, .ref q_a0_partPower, .int a0_rows, w_a0_row, .long l4_24_0, .long l4_24_0, .int a0_foundSquare_24_0])), (q_a0_prime, .inl (cI, 9592, .inl a0_prime)), (q_a0_partPrime, .inl (cJ, 16, .inr (.inl (vp_updL a0_partPrime_24_0 l6_24_0.toNatClampNeg l4_24_0)))), (q_a0_partPower, .inl (cI, 16, .inl (upd a0_partPower_24_0 l6_24_0.toNatClampNeg (1 : Int32))))] H := hP
              have hD : va_D A [(h_a0, .inr (8, [.int a0_primes, .ref q_a0_prime, w_a0_isNone, .int a0_hasSpan, .long a0_spanFrom, .int a0_spanMany, w_a0_least, w_a0_greatest, w_a0_isSquared, .int a0_hasPart, .long a0_parted, .int a0_partMany, .ref q_a0_partPrime, .ref q_a0_partPower, .int a0_rows, w_a0_row, .long l4_24_0, .long l4_24_0, .int a0_foundSquare_24_0])), (q_a0_prime, .inl (cI, 9592, .inl a0_prime)), (q_a0_partPrime, .inl (cJ, 16, .inr (.inl (vp_updL a0_partPrime_24_0 l6_24_0.toNatClampNeg l4_24_0)))), (q_a0_partPower, .inl (cI, 16, .inl (upd a0_partPower_24_0 l6_24_0.toNatClampNeg (1 : Int32))))] := hD
              obtain ⟨x6_18, e_x6_18⟩ : ∃ y : Int32, y = l6_24_0 + (1 : Int32) := ⟨_, rfl⟩
              replace h := h x6_18 e_x6_18
              refine lv_iinc (v := x6_18) (lv' := [(6, .int x6_18), (7, .int l7_24_0), (4, .long l4_24_0), (0, .ref h_a0), (3, .int p2)]) hx hb dX9_parts_254 hl (k := 1) rfl (by rw [e_x6_18]; rfl) (by decide) rfl (fun ls hl => ?_)
              refine lv_iload_n hx hb dX9_parts_257 rfl (lv_at hl 4 rfl) ?_
              refine lv_if_eq (tgt := 267) hx hb dX9_parts_258 (by decide) (fun c_19 => ?_) (fun c_19 => ?_)
              · replace h := h.1 c_19
                have hP9 := hP.sub (ws' := [(h_a0, .inr (8, [.int a0_primes, .ref q_a0_prime, w_a0_isNone, .int a0_hasSpan, .long a0_spanFrom, .int a0_spanMany, w_a0_least, w_a0_greatest, w_a0_isSquared, .int a0_hasPart, .long a0_parted, .int a0_partMany, .ref q_a0_partPrime, .ref q_a0_partPower, .int a0_rows, w_a0_row, .long l4_24_0, .long l4_24_0, .int a0_foundSquare_24_0])), (q_a0_prime, .inl (cI, 9592, .inl a0_prime)), (q_a0_partPrime, .inl (cJ, 16, .inr (.inl (vp_updL a0_partPrime_24_0 l6_24_0.toNatClampNeg l4_24_0)))), (q_a0_partPower, .inl (cI, 16, .inl (upd a0_partPower_24_0 l6_24_0.toNatClampNeg (1 : Int32))))]) [0, 1, 2, 3] rfl
                have hD9 := hD.sub (ws' := [(h_a0, .inr (8, [.int a0_primes, .ref q_a0_prime, w_a0_isNone, .int a0_hasSpan, .long a0_spanFrom, .int a0_spanMany, w_a0_least, w_a0_greatest, w_a0_isSquared, .int a0_hasPart, .long a0_parted, .int a0_partMany, .ref q_a0_partPrime, .ref q_a0_partPower, .int a0_rows, w_a0_row, .long l4_24_0, .long l4_24_0, .int a0_foundSquare_24_0])), (q_a0_prime, .inl (cI, 9592, .inl a0_prime)), (q_a0_partPrime, .inl (cJ, 16, .inr (.inl (vp_updL a0_partPrime_24_0 l6_24_0.toNatClampNeg l4_24_0)))), (q_a0_partPower, .inl (cI, 16, .inl (upd a0_partPower_24_0 l6_24_0.toNatClampNeg (1 : Int32))))]) [0, 1, 2, 3] (by decide) rfl
                exact W.vret hx hb hr (fun t ht hW => ⟨⟨(a0_partMany, l4_24_0, l4_24_0, a0_foundSquare_24_0, (vp_updL a0_partPrime_24_0 l6_24_0.toNatClampNeg l4_24_0), (upd a0_partPower_24_0 l6_24_0.toNatClampNeg (1 : Int32))), rfl, h, by rw [ht]; exact hP9, hD9⟩, hS.F ht⟩) hS.2.2 dX9_parts_267
              · replace h := h.2 c_19
                refine lv_aload_n hx hb dX9_parts_261 rfl (lv_at hl 3 rfl) ?_
                refine lv_iload hx hb dX9_parts_262 (lv_at hl 0 rfl) ?_
                refine va_put (D := (dC, dI)) (ci := 8) (v := .int x6_18) (ty := .int) (C := RX9) (T := TX9) (N := 19) hx hb hts hin_X9 tyX9 tyX9_ok nmX9 hown hK hP hD hS 0 rfl rfl 11 (by decide) hw_5 (fun _ h9 => h9) rfl (by decide +kernel) rfl rfl (Nat.le_of_ble_eq_true rfl) dX9_parts_264 (fun H locs hP hD hS => ?_)
                have hP : va_P (dC, dI) vwCl [(h_a0, .inr (8, [.int a0_primes, .ref q_a0_prime, w_a0_isNone, .int a0_hasSpan, .long a0_spanFrom, .int a0_spanMany, w_a0_least, w_a0_greatest, w_a0_isSquared, .int a0_hasPart, .long a0_parted, .int x6_18, .ref q_a0_partPrime, .ref q_a0_partPower, .int a0_rows, w_a0_row, .long l4_24_0, .long l4_24_0, .int a0_foundSquare_24_0])), (q_a0_prime, .inl (cI, 9592, .inl a0_prime)), (q_a0_partPrime, .inl (cJ, 16, .inr (.inl (vp_updL a0_partPrime_24_0 l6_24_0.toNatClampNeg l4_24_0)))), (q_a0_partPower, .inl (cI, 16, .inl (upd a0_partPower_24_0 l6_24_0.toNatClampNeg (1 : Int32))))] H := hP
                have hD : va_D A [(h_a0, .inr (8, [.int a0_primes, .ref q_a0_prime, w_a0_isNone, .int a0_hasSpan, .long a0_spanFrom, .int a0_spanMany, w_a0_least, w_a0_greatest, w_a0_isSquared, .int a0_hasPart, .long a0_parted, .int x6_18, .ref q_a0_partPrime, .ref q_a0_partPower, .int a0_rows, w_a0_row, .long l4_24_0, .long l4_24_0, .int a0_foundSquare_24_0])), (q_a0_prime, .inl (cI, 9592, .inl a0_prime)), (q_a0_partPrime, .inl (cJ, 16, .inr (.inl (vp_updL a0_partPrime_24_0 l6_24_0.toNatClampNeg l4_24_0)))), (q_a0_partPower, .inl (cI, 16, .inl (upd a0_partPower_24_0 l6_24_0.toNatClampNeg (1 : Int32))))] := hD
                have hP9 := hP.sub (ws' := [(h_a0, .inr (8, [.int a0_primes, .ref q_a0_prime, w_a0_isNone, .int a0_hasSpan, .long a0_spanFrom, .int a0_spanMany, w_a0_least, w_a0_greatest, w_a0_isSquared, .int a0_hasPart, .long a0_parted, .int x6_18, .ref q_a0_partPrime, .ref q_a0_partPower, .int a0_rows, w_a0_row, .long l4_24_0, .long l4_24_0, .int a0_foundSquare_24_0])), (q_a0_prime, .inl (cI, 9592, .inl a0_prime)), (q_a0_partPrime, .inl (cJ, 16, .inr (.inl (vp_updL a0_partPrime_24_0 l6_24_0.toNatClampNeg l4_24_0)))), (q_a0_partPower, .inl (cI, 16, .inl (upd a0_partPower_24_0 l6_24_0.toNatClampNeg (1 : Int32))))]) [0, 1, 2, 3] rfl
                have hD9 := hD.sub (ws' := [(h_a0, .inr (8, [.int a0_primes, .ref q_a0_prime, w_a0_isNone, .int a0_hasSpan, .long a0_spanFrom, .int a0_spanMany, w_a0_least, w_a0_greatest, w_a0_isSquared, .int a0_hasPart, .long a0_parted, .int x6_18, .ref q_a0_partPrime, .ref q_a0_partPower, .int a0_rows, w_a0_row, .long l4_24_0, .long l4_24_0, .int a0_foundSquare_24_0])), (q_a0_prime, .inl (cI, 9592, .inl a0_prime)), (q_a0_partPrime, .inl (cJ, 16, .inr (.inl (vp_updL a0_partPrime_24_0 l6_24_0.toNatClampNeg l4_24_0)))), (q_a0_partPower, .inl (cI, 16, .inl (upd a0_partPower_24_0 l6_24_0.toNatClampNeg (1 : Int32))))]) [0, 1, 2, 3] (by decide) rfl
                exact W.vret hx hb hr (fun t ht hW => ⟨⟨(x6_18, l4_24_0, l4_24_0, a0_foundSquare_24_0, (vp_updL a0_partPrime_24_0 l6_24_0.toNatClampNeg l4_24_0), (upd a0_partPower_24_0 l6_24_0.toNatClampNeg (1 : Int32))), rfl, h, by rw [ht]; exact hP9, hD9⟩, hS.F ht⟩) hS.2.2 dX9_parts_267
      · replace h := h.2 c_2
        refine lv_aload_n hx hb dX9_parts_33 rfl (lv_at hl 3 rfl) ?_
        refine va_get (D := (dC, dI)) (ci := 8) (v := .ref q_a0_prime) (C := RX9) (T := TX9) (N := 19) hx hb hts hin_X9 hown hK hP 0 rfl rfl 1 (by decide) hw_8 (fun _ h9 => h9) rfl dX9_parts_34 ?_
        refine lv_iload hx hb dX9_parts_37 (lv_at hl 0 rfl) ?_
        obtain ⟨hin_20, h⟩ := h
        refine va_iald hx hb hK hP 1 0 rfl rfl hin_20 dX9_parts_39 ?_
        refine lv_i2l hx hb dX9_parts_40 rfl ?_
        refine lv_aload_n hx hb dX9_parts_41 rfl (lv_at hl 3 rfl) ?_
        refine va_get (D := (dC, dI)) (ci := 8) (v := .ref q_a0_prime) (C := RX9) (T := TX9) (N := 19) hx hb hts hin_X9 hown hK hP 0 rfl rfl 1 (by decide) hw_8 (fun _ h9 => h9) rfl dX9_parts_42 ?_
        refine lv_iload hx hb dX9_parts_45 (lv_at hl 0 rfl) ?_
        obtain ⟨hin_21, h⟩ := h
        refine va_iald hx hb hK hP 1 0 rfl rfl hin_21 dX9_parts_47 ?_
        refine lv_i2l hx hb dX9_parts_48 rfl ?_
        refine lv_lmul hx hb dX9_parts_49 ?_
        refine lv_lload hx hb dX9_parts_50 (lv_at hl 2 rfl) ?_
        refine W.lcmp hx hb dX9_parts_52 ?_
        refine lv_if_gt (tgt := 198) hx hb dX9_parts_53 (by decide) (fun c_22 => ?_) (fun c_22 => ?_)
        · replace c_22 := (lg_cmp_gt _ _).mp c_22
          replace h := h.1 c_22
          refine lv_lload hx hb dX9_parts_198 (lv_at hl 2 rfl) ?_
          refine lv_lconst (v := (1 : Int64)) hx hb dX9_parts_200 (by decide) ?_
          refine W.lcmp hx hb dX9_parts_201 ?_
          refine lv_if_le (tgt := 257) hx hb dX9_parts_202 (by decide) (fun c_23 => ?_) (fun c_23 => ?_)
          · replace c_23 := (lg_cmp_le _ _).mp c_23
            replace h := h.1 c_23
            refine lv_iload_n hx hb dX9_parts_257 rfl (lv_at hl 4 rfl) ?_
            refine lv_if_eq (tgt := 267) hx hb dX9_parts_258 (by decide) (fun c_24 => ?_) (fun c_24 => ?_)
            · replace h := h.1 c_24
              have hP9 := hP.sub (ws' := [(h_a0, .inr (8, [.int a0_primes, .ref q_a0_prime, w_a0_isNone, .int a0_hasSpan, .long a0_spanFrom, .int a0_spanMany, w_a0_least, w_a0_greatest, w_a0_isSquared, .int a0_hasPart, .long a0_parted, .int a0_partMany, .ref q_a0_partPrime, .ref q_a0_partPower, .int a0_rows, w_a0_row, .long a0_foundLeast_24_0, .long a0_foundGreatest_24_0, .int a0_foundSquare_24_0])), (q_a0_prime, .inl (cI, 9592, .inl a0_prime)), (q_a0_partPrime, .inl (cJ, 16, .inr (.inl a0_partPrime_24_0))), (q_a0_partPower, .inl (cI, 16, .inl a0_partPower_24_0))]) [0, 1, 2, 3] rfl
              have hD9 := hD.sub (ws' := [(h_a0, .inr (8, [.int a0_primes, .ref q_a0_prime, w_a0_isNone, .int a0_hasSpan, .long a0_spanFrom, .int a0_spanMany, w_a0_least, w_a0_greatest, w_a0_isSquared, .int a0_hasPart, .long a0_parted, .int a0_partMany, .ref q_a0_partPrime, .ref q_a0_partPower, .int a0_rows, w_a0_row, .long a0_foundLeast_24_0, .long a0_foundGreatest_24_0, .int a0_foundSquare_24_0])), (q_a0_prime, .inl (cI, 9592, .inl a0_prime)), (q_a0_partPrime, .inl (cJ, 16, .inr (.inl a0_partPrime_24_0))), (q_a0_partPower, .inl (cI, 16, .inl a0_partPower_24_0))]) [0, 1, 2, 3] (by decide) rfl
              exact W.vret hx hb hr (fun t ht hW => ⟨⟨(a0_partMany, a0_foundLeast_24_0, a0_foundGreatest_24_0, a0_foundSquare_24_0, a0_partPrime_24_0, a0_partPower_24_0), rfl, h, by rw [ht]; exact hP9, hD9⟩, hS.F ht⟩) hS.2.2 dX9_parts_267
            · replace h := h.2 c_24
              refine lv_aload_n hx hb dX9_parts_261 rfl (lv_at hl 3 rfl) ?_
              refine lv_iload hx hb dX9_parts_262 (lv_at hl 1 rfl) ?_
              refine va_put (D := (dC, dI)) (ci := 8) (v := .int l6_24_0) (ty := .int) (C := RX9) (T := TX9) (N := 19) hx hb hts hin_X9 tyX9 tyX9_ok nmX9 hown hK hP hD hS 0 rfl rfl 11 (by decide) hw_5 (fun _ h9 => h9) rfl (by decide +kernel) rfl rfl (Nat.le_of_ble_eq_true rfl) dX9_parts_264 (fun H locs hP hD hS => ?_)
              have hP : va_P (dC, dI) vwCl [(h_a0, .inr (8, [.int a0_primes, .ref q_a0_prime, w_a0_isNone, .int a0_hasSpan, .long a0_spanFrom, .int a0_spanMany, w_a0_least, w_a0_greatest, w_a0_isSquared, .int a0_hasPart, .long a0_parted, .int l6_24_0, .ref q_a0_partPrime, .ref q_a0_partPower, .int a0_rows, w_a0_row, .long a0_foundLeast_24_0, .long a0_foundGreatest_24_0, .int a0_foundSquare_24_0])), (q_a0_prime, .inl (cI, 9592, .inl a0_prime)), (q_a0_partPrime, .inl (cJ, 16, .inr (.inl a0_partPrime_24_0))), (q_a0_partPower, .inl (cI, 16, .inl a0_partPower_24_0))] H := hP
              have hD : va_D A [(h_a0, .inr (8, [.int a0_primes, .ref q_a0_prime, w_a0_isNone, .int a0_hasSpan, .long a0_spanFrom, .int a0_spanMany, w_a0_least, w_a0_greatest, w_a0_isSquared, .int a0_hasPart, .long a0_parted, .int l6_24_0, .ref q_a0_partPrime, .ref q_a0_partPower, .int a0_rows, w_a0_row, .long a0_foundLeast_24_0, .long a0_foundGreatest_24_0, .int a0_foundSquare_24_0])), (q_a0_prime, .inl (cI, 9592, .inl a0_prime)), (q_a0_partPrime, .inl (cJ, 16, .inr (.inl a0_partPrime_24_0))), (q_a0_partPower, .inl (cI, 16, .inl a0_partPower_24_0))] := hD
              have hP9 := hP.sub (ws' := [(h_a0, .inr (8, [.int a0_primes, .ref q_a0_prime, w_a0_isNone, .int a0_hasSpan, .long a0_spanFrom, .int a0_spanMany, w_a0_least, w_a0_greatest, w_a0_isSquared, .int a0_hasPart, .long a0_parted, .int l6_24_0, .ref q_a0_partPrime, .ref q_a0_partPower, .int a0_rows, w_a0_row, .long a0_foundLeast_24_0, .long a0_foundGreatest_24_0, .int a0_foundSquare_24_0])), (q_a0_prime, .inl (cI, 9592, .inl a0_prime)), (q_a0_partPrime, .inl (cJ, 16, .inr (.inl a0_partPrime_24_0))), (q_a0_partPower, .inl (cI, 16, .inl a0_partPower_24_0))]) [0, 1, 2, 3] rfl
              have hD9 := hD.sub (ws' := [(h_a0, .inr (8, [.int a0_primes, .ref q_a0_prime, w_a0_isNone, .int a0_hasSpan, .long a0_spanFrom, .int a0_spanMany, w_a0_least, w_a0_greatest, w_a0_isSquared, .int a0_hasPart, .long a0_parted, .int l6_24_0, .ref q_a0_partPrime, .ref q_a0_partPower, .int a0_rows, w_a0_row, .long a0_foundLeast_24_0, .long a0_foundGreatest_24_0, .int a0_foundSquare_24_0])), (q_a0_prime, .inl (cI, 9592, .inl a0_prime)), (q_a0_partPrime, .inl (cJ, 16, .inr (.inl a0_partPrime_24_0))), (q_a0_partPower, .inl (cI, 16, .inl a0_partPower_24_0))]) [0, 1, 2, 3] (by decide) rfl
              exact W.vret hx hb hr (fun t ht hW => ⟨⟨(l6_24_0, a0_foundLeast_24_0, a0_foundGreatest_24_0, a0_foundSquare_24_0, a0_partPrime_24_0, a0_partPower_24_0), rfl, h, by rw [ht]; exact hP9, hD9⟩, hS.F ht⟩) hS.2.2 dX9_parts_267
          · replace c_23 := lc_nle c_23
            replace h := h.2 c_23
            refine lv_aload_n hx hb dX9_parts_205 rfl (lv_at hl 3 rfl) ?_
            refine lv_aload_n hx hb dX9_parts_206 rfl (lv_at hl 3 rfl) ?_
            refine va_get (D := (dC, dI)) (ci := 8) (v := .long a0_foundLeast_24_0) (C := RX9) (T := TX9) (N := 19) hx hb hts hin_X9 hown hK hP 0 rfl rfl 16 (by decide) hw_0 (fun _ h9 => h9) rfl dX9_parts_207 ?_
            refine lv_lconst (v := (1 : Int64)) hx hb dX9_parts_210 (by decide) ?_
            refine W.lcmp hx hb dX9_parts_211 ?_
            refine lv_if_ne (tgt := 220) hx hb dX9_parts_212 (by decide) (fun c_25 => ?_) (fun c_25 => ?_)
            · replace c_25 := lc_neq c_25
              replace h := h.2 c_25
              refine lv_aload_n hx hb dX9_parts_220 rfl (lv_at hl 3 rfl) ?_
              refine va_get (D := (dC, dI)) (ci := 8) (v := .long a0_foundLeast_24_0) (C := RX9) (T := TX9) (N := 19) hx hb hts hin_X9 hown hK hP 0 rfl rfl 16 (by decide) hw_0 (fun _ h9 => h9) rfl dX9_parts_221 ?_
              refine va_put (D := (dC, dI)) (ci := 8) (v := .long a0_foundLeast_24_0) (ty := .long) (C := RX9) (T := TX9) (N := 19) hx hb hts hin_X9 tyX9 tyX9_ok nmX9 hown hK hP hD hS 0 rfl rfl 16 (by decide) hw_0 (fun _ h9 => h9) rfl (by decide +kernel) rfl rfl (Nat.le_of_ble_eq_true rfl) dX9_parts_224 (fun H locs hP hD hS => ?_)
              have hP : va_P (dC, dI) vwCl [(h_a0, .inr (8, [.int a0_primes, .ref q_a0_prime, w_a0_isNone, .int a0_hasSpan, .long a0_spanFrom, .int a0_spanMany, w_a0_least, w_a0_greatest, w_a0_isSquared, .int a0_hasPart, .long a0_parted, .int a0_partMany, .ref q_a0_partPrime, .ref q_a0_partPower, .int a0_rows, w_a0_row, .long a0_foundLeast_24_0, .long a0_foundGreatest_24_0, .int a0_foundSquare_24_0])), (q_a0_prime, .inl (cI, 9592, .inl a0_prime)), (q_a0_partPrime, .inl (cJ, 16, .inr (.inl a0_partPrime_24_0))), (q_a0_partPower, .inl (cI, 16, .inl a0_partPower_24_0))] H := hP
              have hD : va_D A [(h_a0, .inr (8, [.int a0_primes, .ref q_a0_prime, w_a0_isNone, .int a0_hasSpan, .long a0_spanFrom, .int a0_spanMany, w_a0_least, w_a0_greatest, w_a0_isSquared, .int a0_hasPart, .long a0_parted, .int a0_partMany, .ref q_a0_partPrime, .ref q_a0_partPower, .int a0_rows, w_a0_row, .long a0_foundLeast_24_0, .long a0_foundGreatest_24_0, .int a0_foundSquare_24_0])), (q_a0_prime, .inl (cI, 9592, .inl a0_prime)), (q_a0_partPrime, .inl (cJ, 16, .inr (.inl a0_partPrime_24_0))), (q_a0_partPower, .inl (cI, 16, .inl a0_partPower_24_0))] := hD
              refine lv_aload_n hx hb dX9_parts_227 rfl (lv_at hl 3 rfl) ?_
              refine lv_lload hx hb dX9_parts_228 (lv_at hl 2 rfl) ?_
              refine va_put (D := (dC, dI)) (ci := 8) (v := .long l4_24_0) (ty := .long) (C := RX9) (T := TX9) (N := 19) hx hb hts hin_X9 tyX9 tyX9_ok nmX9 hown hK hP hD hS 0 rfl rfl 17 (by decide) hw_2 (fun _ h9 => h9) rfl (by decide +kernel) rfl rfl (Nat.le_of_ble_eq_true rfl) dX9_parts_230 (fun H locs hP hD hS => ?_)
              have hP : va_P (dC, dI) vwCl [(h_a0, .inr (8, [.int a0_primes, .ref q_a0_prime, w_a0_isNone, .int a0_hasSpan, .long a0_spanFrom, .int a0_spanMany, w_a0_least, w_a0_greatest, w_a0_isSquared, .int a0_hasPart, .long a0_parted, .int a0_partMany, .ref q_a0_partPrime, .ref q_a0_partPower, .int a0_rows, w_a0_row, .long a0_foundLeast_24_0, .long l4_24_0, .int a0_foundSquare_24_0])), (q_a0_prime, .inl (cI, 9592, .inl a0_prime)), (q_a0_partPrime, .inl (cJ, 16, .inr (.inl a0_partPrime_24_0))), (q_a0_partPower, .inl (cI, 16, .inl a0_partPower_24_0))] H := hP
              have hD : va_D A [(h_a0, .inr (8, [.int a0_primes, .ref q_a0_prime, w_a0_isNone, .int a0_hasSpan, .long a0_spanFrom, .int a0_spanMany, w_a0_least, w_a0_greatest, w_a0_isSquared, .int a0_hasPart, .long a0_parted, .int a0_partMany, .ref q_a0_partPrime, .ref q_a0_partPower, .int a0_rows, w_a0_row, .long a0_foundLeast_24_0, .long l4_24_0, .int a0_foundSquare_24_0])), (q_a0_prime, .inl (cI, 9592, .inl a0_prime)), (q_a0_partPrime, .inl (cJ, 16, .inr (.inl a0_partPrime_24_0))), (q_a0_partPower, .inl (cI, 16, .inl a0_partPower_24_0))] := hD
              refine lv_iload_n hx hb dX9_parts_233 rfl (lv_at hl 4 rfl) ?_
              refine lv_if_eq (tgt := 254) hx hb dX9_parts_234 (by decide) (fun c_26 => ?_) (fun c_26 => ?_)
              · replace h := h.1 c_26
                obtain ⟨x6_27, e_x6_27⟩ : ∃ y : Int32, y = l6_24_0 + (1 : Int32) := ⟨_, rfl⟩
                replace h := h x6_27 e_x6_27
                refine lv_iinc (v := x6_27) (lv' := [(6, .int x6_27), (7, .int l7_24_0), (4, .long l4_24_0), (0, .ref h_a0), (3, .int p2)]) hx hb dX9_parts_254 hl (k := 1) rfl (by rw [e_x6_27]; rfl) (by decide) rfl (fun ls hl => ?_)
                refine lv_iload_n hx hb dX9_parts_257 rfl (lv_at hl 4 rfl) ?_
                refine lv_if_eq (tgt := 267) hx hb dX9_parts_258 (by decide) (fun c_28 => ?_) (fun c_28 => ?_)
                · replace h := h.1 c_28
                  have hP9 := hP.sub (ws' := [(h_a0, .inr (8, [.int a0_primes, .ref q_a0_prime, w_a0_isNone, .int a0_hasSpan, .long a0_spanFrom, .int a0_spanMany, w_a0_least, w_a0_greatest, w_a0_isSquared, .int a0_hasPart, .long a0_parted, .int a0_partMany, .ref q_a0_partPrime, .ref q_a0_partPower, .int a0_rows, w_a0_row, .long a0_foundLeast_24_0, .long l4_24_0, .int a0_foundSquare_24_0])), (q_a0_prime, .inl (cI, 9592, .inl a0_prime)), (q_a0_partPrime, .inl (cJ, 16, .inr (.inl a0_partPrime_24_0))), (q_a0_partPower, .inl (cI, 16, .inl a0_partPower_24_0))]) [0, 1, 2, 3] rfl
                  have hD9 := hD.sub (ws' := [(h_a0, .inr (8, [.int a0_primes, .ref q_a0_prime, w_a0_isNone, .int a0_hasSpan, .long a0_spanFrom, .int a0_spanMany, w_a0_least, w_a0_greatest, w_a0_isSquared, .int a0_hasPart, .long a0_parted, .int a0_partMany, .ref q_a0_partPrime, .ref q_a0_partPower, .int a0_rows, w_a0_row, .long a0_foundLeast_24_0, .long l4_24_0, .int a0_foundSquare_24_0])), (q_a0_prime, .inl (cI, 9592, .inl a0_prime)), (q_a0_partPrime, .inl (cJ, 16, .inr (.inl a0_partPrime_24_0))), (q_a0_partPower, .inl (cI, 16, .inl a0_partPower_24_0))]) [0, 1, 2, 3] (by decide) rfl
                  exact W.vret hx hb hr (fun t ht hW => ⟨⟨(a0_partMany, a0_foundLeast_24_0, l4_24_0, a0_foundSquare_24_0, a0_partPrime_24_0, a0_partPower_24_0), rfl, h, by rw [ht]; exact hP9, hD9⟩, hS.F ht⟩) hS.2.2 dX9_parts_267
                · replace h := h.2 c_28
                  refine lv_aload_n hx hb dX9_parts_261 rfl (lv_at hl 3 rfl) ?_
                  refine lv_iload hx hb dX9_parts_262 (lv_at hl 0 rfl) ?_
                  refine va_put (D := (dC, dI)) (ci := 8) (v := .int x6_27) (ty := .int) (C := RX9) (T := TX9) (N := 19) hx hb hts hin_X9 tyX9 tyX9_ok nmX9 hown hK hP hD hS 0 rfl rfl 11 (by decide) hw_5 (fun _ h9 => h9) rfl (by decide +kernel) rfl rfl (Nat.le_of_ble_eq_true rfl) dX9_parts_264 (fun H locs hP hD hS => ?_)
                  have hP : va_P (dC, dI) vwCl [(h_a0, .inr (8, [.int a0_primes, .ref q_a0_prime, w_a0_isNone, .int a0_hasSpan, .long a0_spanFrom, .int a0_spanMany, w_a0_least, w_a0_greatest, w_a0_isSquared, .int a0_hasPart, .long a0_parted, .int x6_27, .ref q_a0_partPrime, .ref q_a0_partPower, .int a0_rows, w_a0_row, .long a0_foundLeast_24_0, .long l4_24_0, .int a0_foundSquare_24_0])), (q_a0_prime, .inl (cI, 9592, .inl a0_prime)), (q_a0_partPrime, .inl (cJ, 16, .inr (.inl a0_partPrime_24_0))), (q_a0_partPower, .inl (cI, 16, .inl a0_partPower_24_0))] H := hP
                  have hD : va_D A [(h_a0, .inr (8, [.int a0_primes, .ref q_a0_prime, w_a0_isNone, .int a0_hasSpan, .long a0_spanFrom, .int a0_spanMany, w_a0_least, w_a0_greatest, w_a0_isSquared, .int a0_hasPart, .long a0_parted, .int x6_27, .ref q_a0_partPrime, .ref q_a0_partPower, .int a0_rows, w_a0_row, .long a0_foundLeast_24_0, .long l4_24_0, .int a0_foundSquare_24_0])), (q_a0_prime, .inl (cI, 9592, .inl a0_prime)), (q_a0_partPrime, .inl (cJ, 16, .inr (.inl a0_partPrime_24_0))), (q_a0_partPower, .inl (cI, 16, .inl a0_partPower_24_0))] := hD
                  have hP9 := hP.sub (ws' := [(h_a0, .inr (8, [.int a0_primes, .ref q_a0_prime, w_a0_isNone, .int a0_hasSpan, .long a0_spanFrom, .int a0_spanMany, w_a0_least, w_a0_greatest, w_a0_isSquared, .int a0_hasPart, .long a0_parted, .int x6_27, .ref q_a0_partPrime, .ref q_a0_partPower, .int a0_rows, w_a0_row, .long a0_foundLeast_24_0, .long l4_24_0, .int a0_foundSquare_24_0])), (q_a0_prime, .inl (cI, 9592, .inl a0_prime)), (q_a0_partPrime, .inl (cJ, 16, .inr (.inl a0_partPrime_24_0))), (q_a0_partPower, .inl (cI, 16, .inl a0_partPower_24_0))]) [0, 1, 2, 3] rfl
                  have hD9 := hD.sub (ws' := [(h_a0, .inr (8, [.int a0_primes, .ref q_a0_prime, w_a0_isNone, .int a0_hasSpan, .long a0_spanFrom, .int a0_spanMany, w_a0_least, w_a0_greatest, w_a0_isSquared, .int a0_hasPart, .long a0_parted, .int x6_27, .ref q_a0_partPrime, .ref q_a0_partPower, .int a0_rows, w_a0_row, .long a0_foundLeast_24_0, .long l4_24_0, .int a0_foundSquare_24_0])), (q_a0_prime, .inl (cI, 9592, .inl a0_prime)), (q_a0_partPrime, .inl (cJ, 16, .inr (.inl a0_partPrime_24_0))), (q_a0_partPower, .inl (cI, 16, .inl a0_partPower_24_0))]) [0, 1, 2, 3] (by decide) rfl
                  exact W.vret hx hb hr (fun t ht hW => ⟨⟨(x6_27, a0_foundLeast_24_0, l4_24_0, a0_foundSquare_24_0, a0_partPrime_24_0, a0_partPower_24_0), rfl, h, by rw [ht]; exact hP9, hD9⟩, hS.F ht⟩) hS.2.2 dX9_parts_267
              · replace h := h.2 c_26
                refine lv_aload_n hx hb dX9_parts_237 rfl (lv_at hl 3 rfl) ?_
                refine va_get (D := (dC, dI)) (ci := 8) (v := .ref q_a0_partPrime) (C := RX9) (T := TX9) (N := 19) hx hb hts hin_X9 hown hK hP 0 rfl rfl 12 (by decide) hw_6 (fun _ h9 => h9) rfl dX9_parts_238 ?_
                refine lv_iload hx hb dX9_parts_241 (lv_at hl 1 rfl) ?_
                refine lv_lload hx hb dX9_parts_243 (lv_at hl 2 rfl) ?_
                obtain ⟨hin_29, h⟩ := h
                refine va_last hx hb hK hP hD hS 2 1 rfl rfl hin_29 dX9_parts_245 (fun H locs hP hD hS => ?_)
                have hP : va_P (dC, dI) vwCl [(h_a0, .inr (8, [.int a0_primes, .ref q_a0_prime, w_a0_isNone, .int a0_hasSpan, .long a0_spanFrom, .int a0_spanMany, w_a0_least, w_a0_greatest, w_a0_isSquared, .int a0_hasPart, .long a0_parted, .int a0_partMany, .ref q_a0_partPrime, .ref q_a0_partPower, .int a0_rows, w_a0_row, .long a0_foundLeast_24_0, .long l4_24_0, .int a0_foundSquare_24_0])), (q_a0_prime, .inl (cI, 9592, .inl a0_prime)), (q_a0_partPrime, .inl (cJ, 16, .inr (.inl (vp_updL a0_partPrime_24_0 l6_24_0.toNatClampNeg l4_24_0)))), (q_a0_partPower, .inl (cI, 16, .inl a0_partPower_24_0))] H := hP
                have hD : va_D A [(h_a0, .inr (8, [.int a0_primes, .ref q_a0_prime, w_a0_isNone, .int a0_hasSpan, .long a0_spanFrom, .int a0_spanMany, w_a0_least, w_a0_greatest, w_a0_isSquared, .int a0_hasPart, .long a0_parted, .int a0_partMany, .ref q_a0_partPrime, .ref q_a0_partPower, .int a0_rows, w_a0_row, .long a0_foundLeast_24_0, .long l4_24_0, .int a0_foundSquare_24_0])), (q_a0_prime, .inl (cI, 9592, .inl a0_prime)), (q_a0_partPrime, .inl (cJ, 16, .inr (.inl (vp_updL a0_partPrime_24_0 l6_24_0.toNatClampNeg l4_24_0)))), (q_a0_partPower, .inl (cI, 16, .inl a0_partPower_24_0))] := hD
                refine lv_aload_n hx hb dX9_parts_246 rfl (lv_at hl 3 rfl) ?_
                refine va_get (D := (dC, dI)) (ci := 8) (v := .ref q_a0_partPower) (C := RX9) (T := TX9) (N := 19) hx hb hts hin_X9 hown hK hP 0 rfl rfl 13 (by decide) hw_7 (fun _ h9 => h9) rfl dX9_parts_247 ?_
                refine lv_iload hx hb dX9_parts_250 (lv_at hl 1 rfl) ?_
                refine lv_iconst (v := (1 : Int32)) hx hb dX9_parts_252 (by decide) ?_
                obtain ⟨hin_30, h⟩ := h
                refine va_iast hx hb hK hP hD hS 3 0 rfl rfl hin_30 dX9_parts_253 (fun H locs hP hD hS => ?_)
                have hP : va_P (dC, dI) vwCl [(h_a0, .inr (8, [.int a0_primes, .ref q_a0_prime, w_a0_isNone, .int a0_hasSpan, .long a0_spanFrom, .int a0_spanMany, w_a0_least, w_a0_greatest, w_a0_isSquared, .int a0_hasPart, .long a0_parted, .int a0_partMany, .ref q_a0_partPrime, .ref q_a0_partPower, .int a0_rows, w_a0_row, .long a0_foundLeast_24_0, .long l4_24_0, .int a0_foundSquare_24_0])), (q_a0_prime, .inl (cI, 9592, .inl a0_prime)), (q_a0_partPrime, .inl (cJ, 16, .inr (.inl (vp_updL a0_partPrime_24_0 l6_24_0.toNatClampNeg l4_24_0)))), (q_a0_partPower, .inl (cI, 16, .inl (upd a0_partPower_24_0 l6_24_0.toNatClampNeg (1 : Int32))))] H := hP
                have hD : va_D A [(h_a0, .inr (8, [.int a0_primes, .ref q_a0_prime, w_a0_isNone, .int a0_hasSpan, .long a0_spanFrom, .int a0_spanMany, w_a0_least, w_a0_greatest, w_a0_isSquared, .int a0_hasPart, .long a0_parted, .int a0_partMany, .ref q_a0_partPrime, .ref q_a0_partPower, .int a0_rows, w_a0_row, .long a0_foundLeast_24_0, .long l4_24_0, .int a0_foundSquare_24_0])), (q_a0_prime, .inl (cI, 9592, .inl a0_prime)), (q_a0_partPrime, .inl (cJ, 16, .inr (.inl (vp_updL a0_partPrime_24_0 l6_24_0.toNatClampNeg l4_24_0)))), (q_a0_partPower, .inl (cI, 16, .inl (upd a0_partPower_24_0 l6_24_0.toNatClampNeg (1 : Int32))))] := hD
                obtain ⟨x6_31, e_x6_31⟩ : ∃ y : Int32, y = l6_24_0 + (1 : Int32) := ⟨_, rfl⟩
                replace h := h x6_31 e_x6_31
                refine lv_iinc (v := x6_31) (lv' := [(6, .int x6_31), (7, .int l7_24_0), (4, .long l4_24_0), (0, .ref h_a0), (3, .int p2)]) hx hb dX9_parts_254 hl (k := 1) rfl (by rw [e_x6_31]; rfl) (by decide) rfl (fun ls hl => ?_)
                refine lv_iload_n hx hb dX9_parts_257 rfl (lv_at hl 4 rfl) ?_
                refine lv_if_eq (tgt := 267) hx hb dX9_parts_258 (by decide) (fun c_32 => ?_) (fun c_32 => ?_)
                · replace h := h.1 c_32
                  have hP9 := hP.sub (ws' := [(h_a0, .inr (8, [.int a0_primes, .ref q_a0_prime, w_a0_isNone, .int a0_hasSpan, .long a0_spanFrom, .int a0_spanMany, w_a0_least, w_a0_greatest, w_a0_isSquared, .int a0_hasPart, .long a0_parted, .int a0_partMany, .ref q_a0_partPrime, .ref q_a0_partPower, .int a0_rows, w_a0_row, .long a0_foundLeast_24_0, .long l4_24_0, .int a0_foundSquare_24_0])), (q_a0_prime, .inl (cI, 9592, .inl a0_prime)), (q_a0_partPrime, .inl (cJ, 16, .inr (.inl (vp_updL a0_partPrime_24_0 l6_24_0.toNatClampNeg l4_24_0)))), (q_a0_partPower, .inl (cI, 16, .inl (upd a0_partPower_24_0 l6_24_0.toNatClampNeg (1 : Int32))))]) [0, 1, 2, 3] rfl
                  have hD9 := hD.sub (ws' := [(h_a0, .inr (8, [.int a0_primes, .ref q_a0_prime, w_a0_isNone, .int a0_hasSpan, .long a0_spanFrom, .int a0_spanMany, w_a0_least, w_a0_greatest, w_a0_isSquared, .int a0_hasPart, .long a0_parted, .int a0_partMany, .ref q_a0_partPrime, .ref q_a0_partPower, .int a0_rows, w_a0_row, .long a0_foundLeast_24_0, .long l4_24_0, .int a0_foundSquare_24_0])), (q_a0_prime, .inl (cI, 9592, .inl a0_prime)), (q_a0_partPrime, .inl (cJ, 16, .inr (.inl (vp_updL a0_partPrime_24_0 l6_24_0.toNatClampNeg l4_24_0)))), (q_a0_partPower, .inl (cI, 16, .inl (upd a0_partPower_24_0 l6_24_0.toNatClampNeg (1 : Int32))))]) [0, 1, 2, 3] (by decide) rfl
                  exact W.vret hx hb hr (fun t ht hW => ⟨⟨(a0_partMany, a0_foundLeast_24_0, l4_24_0, a0_foundSquare_24_0, (vp_updL a0_partPrime_24_0 l6_24_0.toNatClampNeg l4_24_0), (upd a0_partPower_24_0 l6_24_0.toNatClampNeg (1 : Int32))), rfl, h, by rw [ht]; exact hP9, hD9⟩, hS.F ht⟩) hS.2.2 dX9_parts_267
                · replace h := h.2 c_32
                  refine lv_aload_n hx hb dX9_parts_261 rfl (lv_at hl 3 rfl) ?_
                  refine lv_iload hx hb dX9_parts_262 (lv_at hl 0 rfl) ?_
                  refine va_put (D := (dC, dI)) (ci := 8) (v := .int x6_31) (ty := .int) (C := RX9) (T := TX9) (N := 19) hx hb hts hin_X9 tyX9 tyX9_ok nmX9 hown hK hP hD hS 0 rfl rfl 11 (by decide) hw_5 (fun _ h9 => h9) rfl (by decide +kernel) rfl rfl (Nat.le_of_ble_eq_true rfl) dX9_parts_264 (fun H locs hP hD hS => ?_)
                  have hP : va_P (dC, dI) vwCl [(h_a0, .inr (8, [.int a0_primes, .ref q_a0_prime, w_a0_isNone, .int a0_hasSpan, .long a0_spanFrom, .int a0_spanMany, w_a0_least, w_a0_greatest, w_a0_isSquared, .int a0_hasPart, .long a0_parted, .int x6_31, .ref q_a0_partPrime, .ref q_a0_partPower, .int a0_rows, w_a0_row, .long a0_foundLeast_24_0, .long l4_24_0, .int a0_foundSquare_24_0])), (q_a0_prime, .inl (cI, 9592, .inl a0_prime)), (q_a0_partPrime, .inl (cJ, 16, .inr (.inl (vp_updL a0_partPrime_24_0 l6_24_0.toNatClampNeg l4_24_0)))), (q_a0_partPower, .inl (cI, 16, .inl (upd a0_partPower_24_0 l6_24_0.toNatClampNeg (1 : Int32))))] H := hP
                  have hD : va_D A [(h_a0, .inr (8, [.int a0_primes, .ref q_a0_prime, w_a0_isNone, .int a0_hasSpan, .long a0_spanFrom, .int a0_spanMany, w_a0_least, w_a0_greatest, w_a0_isSquared, .int a0_hasPart, .long a0_parted, .int x6_31, .ref q_a0_partPrime, .ref q_a0_partPower, .int a0_rows, w_a0_row, .long a0_foundLeast_24_0, .long l4_24_0, .int a0_foundSquare_24_0])), (q_a0_prime, .inl (cI, 9592, .inl a0_prime)), (q_a0_partPrime, .inl (cJ, 16, .inr (.inl (vp_updL a0_partPrime_24_0 l6_24_0.toNatClampNeg l4_24_0)))), (q_a0_partPower, .inl (cI, 16, .inl (upd a0_partPower_24_0 l6_24_0.toNatClampNeg (1 : Int32))))] := hD
                  have hP9 := hP.sub (ws' := [(h_a0, .inr (8, [.int a0_primes, .ref q_a0_prime, w_a0_isNone, .int a0_hasSpan, .long a0_spanFrom, .int a0_spanMany, w_a0_least, w_a0_greatest, w_a0_isSquared, .int a0_hasPart, .long a0_parted, .int x6_31, .ref q_a0_partPrime, .ref q_a0_partPower, .int a0_rows, w_a0_row, .long a0_foundLeast_24_0, .long l4_24_0, .int a0_foundSquare_24_0])), (q_a0_prime, .inl (cI, 9592, .inl a0_prime)), (q_a0_partPrime, .inl (cJ, 16, .inr (.inl (vp_updL a0_partPrime_24_0 l6_24_0.toNatClampNeg l4_24_0)))), (q_a0_partPower, .inl (cI, 16, .inl (upd a0_partPower_24_0 l6_24_0.toNatClampNeg (1 : Int32))))]) [0, 1, 2, 3] rfl
                  have hD9 := hD.sub (ws' := [(h_a0, .inr (8, [.int a0_primes, .ref q_a0_prime, w_a0_isNone, .int a0_hasSpan, .long a0_spanFrom, .int a0_spanMany, w_a0_least, w_a0_greatest, w_a0_isSquared, .int a0_hasPart, .long a0_parted, .int x6_31, .ref q_a0_partPrime, .ref q_a0_partPower, .int a0_rows, w_a0_row, .long a0_foundLeast_24_0, .long l4_24_0, .int a0_foundSquare_24_0])), (q_a0_prime, .inl (cI, 9592, .inl a0_prime)), (q_a0_partPrime, .inl (cJ, 16, .inr (.inl (vp_updL a0_partPrime_24_0 l6_24_0.toNatClampNeg l4_24_0)))), (q_a0_partPower, .inl (cI, 16, .inl (upd a0_partPower_24_0 l6_24_0.toNatClampNeg (1 : Int32))))]) [0, 1, 2, 3] (by decide) rfl
                  exact W.vret hx hb hr (fun t ht hW => ⟨⟨(x6_31, a0_foundLeast_24_0, l4_24_0, a0_foundSquare_24_0, (vp_updL a0_partPrime_24_0 l6_24_0.toNatClampNeg l4_24_0), (upd a0_partPower_24_0 l6_24_0.toNatClampNeg (1 : Int32))), rfl, h, by rw [ht]; exact hP9, hD9⟩, hS.F ht⟩) hS.2.2 dX9_parts_267
            · replace c_25 := (lg_cmp_eq _ _).mp c_25
              replace h := h.1 c_25
              refine lv_lload hx hb dX9_parts_215 (lv_at hl 2 rfl) ?_
              refine lv_goto (tgt := 224) hx hb dX9_parts_217 (by decide) ?_
              refine va_put (D := (dC, dI)) (ci := 8) (v := .long l4_24_0) (ty := .long) (C := RX9) (T := TX9) (N := 19) hx hb hts hin_X9 tyX9 tyX9_ok nmX9 hown hK hP hD hS 0 rfl rfl 16 (by decide) hw_0 (fun _ h9 => h9) rfl (by decide +kernel) rfl rfl (Nat.le_of_ble_eq_true rfl) dX9_parts_224 (fun H locs hP hD hS => ?_)
              have hP : va_P (dC, dI) vwCl [(h_a0, .inr (8, [.int a0_primes, .ref q_a0_prime, w_a0_isNone, .int a0_hasSpan, .long a0_spanFrom, .int a0_spanMany, w_a0_least, w_a0_greatest, w_a0_isSquared, .int a0_hasPart, .long a0_parted, .int a0_partMany, .ref q_a0_partPrime, .ref q_a0_partPower, .int a0_rows, w_a0_row, .long l4_24_0, .long a0_foundGreatest_24_0, .int a0_foundSquare_24_0])), (q_a0_prime, .inl (cI, 9592, .inl a0_prime)), (q_a0_partPrime, .inl (cJ, 16, .inr (.inl a0_partPrime_24_0))), (q_a0_partPower, .inl (cI, 16, .inl a0_partPower_24_0))] H := hP
              have hD : va_D A [(h_a0, .inr (8, [.int a0_primes, .ref q_a0_prime, w_a0_isNone, .int a0_hasSpan, .long a0_spanFrom, .int a0_spanMany, w_a0_least, w_a0_greatest, w_a0_isSquared, .int a0_hasPart, .long a0_parted, .int a0_partMany, .ref q_a0_partPrime, .ref q_a0_partPower, .int a0_rows, w_a0_row, .long l4_24_0, .long a0_foundGreatest_24_0, .int a0_foundSquare_24_0])), (q_a0_prime, .inl (cI, 9592, .inl a0_prime)), (q_a0_partPrime, .inl (cJ, 16, .inr (.inl a0_partPrime_24_0))), (q_a0_partPower, .inl (cI, 16, .inl a0_partPower_24_0))] := hD
              refine lv_aload_n hx hb dX9_parts_227 rfl (lv_at hl 3 rfl) ?_
              refine lv_lload hx hb dX9_parts_228 (lv_at hl 2 rfl) ?_
              refine va_put (D := (dC, dI)) (ci := 8) (v := .long l4_24_0) (ty := .long) (C := RX9) (T := TX9) (N := 19) hx hb hts hin_X9 tyX9 tyX9_ok nmX9 hown hK hP hD hS 0 rfl rfl 17 (by decide) hw_2 (fun _ h9 => h9) rfl (by decide +kernel) rfl rfl (Nat.le_of_ble_eq_true rfl) dX9_parts_230 (fun H locs hP hD hS => ?_)
              have hP : va_P (dC, dI) vwCl [(h_a0, .inr (8, [.int a0_primes, .ref q_a0_prime, w_a0_isNone, .int a0_hasSpan, .long a0_spanFrom, .int a0_spanMany, w_a0_least, w_a0_greatest, w_a0_isSquared, .int a0_hasPart, .long a0_parted, .int a0_partMany, .ref q_a0_partPrime, .ref q_a0_partPower, .int a0_rows, w_a0_row, .long l4_24_0, .long l4_24_0, .int a0_foundSquare_24_0])), (q_a0_prime, .inl (cI, 9592, .inl a0_prime)), (q_a0_partPrime, .inl (cJ, 16, .inr (.inl a0_partPrime_24_0))), (q_a0_partPower, .inl (cI, 16, .inl a0_partPower_24_0))] H := hP
              have hD : va_D A [(h_a0, .inr (8, [.int a0_primes, .ref q_a0_prime, w_a0_isNone, .int a0_hasSpan, .long a0_spanFrom, .int a0_spanMany, w_a0_least, w_a0_greatest, w_a0_isSquared, .int a0_hasPart, .long a0_parted, .int a0_partMany, .ref q_a0_partPrime, .ref q_a0_partPower, .int a0_rows, w_a0_row, .long l4_24_0, .long l4_24_0, .int a0_foundSquare_24_0])), (q_a0_prime, .inl (cI, 9592, .inl a0_prime)), (q_a0_partPrime, .inl (cJ, 16, .inr (.inl a0_partPrime_24_0))), (q_a0_partPower, .inl (cI, 16, .inl a0_partPower_24_0))] := hD
              refine lv_iload_n hx hb dX9_parts_233 rfl (lv_at hl 4 rfl) ?_
              refine lv_if_eq (tgt := 254) hx hb dX9_parts_234 (by decide) (fun c_33 => ?_) (fun c_33 => ?_)
              · replace h := h.1 c_33
                obtain ⟨x6_34, e_x6_34⟩ : ∃ y : Int32, y = l6_24_0 + (1 : Int32) := ⟨_, rfl⟩
                replace h := h x6_34 e_x6_34
                refine lv_iinc (v := x6_34) (lv' := [(6, .int x6_34), (7, .int l7_24_0), (4, .long l4_24_0), (0, .ref h_a0), (3, .int p2)]) hx hb dX9_parts_254 hl (k := 1) rfl (by rw [e_x6_34]; rfl) (by decide) rfl (fun ls hl => ?_)
                refine lv_iload_n hx hb dX9_parts_257 rfl (lv_at hl 4 rfl) ?_
                refine lv_if_eq (tgt := 267) hx hb dX9_parts_258 (by decide) (fun c_35 => ?_) (fun c_35 => ?_)
                · replace h := h.1 c_35
                  have hP9 := hP.sub (ws' := [(h_a0, .inr (8, [.int a0_primes, .ref q_a0_prime, w_a0_isNone, .int a0_hasSpan, .long a0_spanFrom, .int a0_spanMany, w_a0_least, w_a0_greatest, w_a0_isSquared, .int a0_hasPart, .long a0_parted, .int a0_partMany, .ref q_a0_partPrime, .ref q_a0_partPower, .int a0_rows, w_a0_row, .long l4_24_0, .long l4_24_0, .int a0_foundSquare_24_0])), (q_a0_prime, .inl (cI, 9592, .inl a0_prime)), (q_a0_partPrime, .inl (cJ, 16, .inr (.inl a0_partPrime_24_0))), (q_a0_partPower, .inl (cI, 16, .inl a0_partPower_24_0))]) [0, 1, 2, 3] rfl
                  have hD9 := hD.sub (ws' := [(h_a0, .inr (8, [.int a0_primes, .ref q_a0_prime, w_a0_isNone, .int a0_hasSpan, .long a0_spanFrom, .int a0_spanMany, w_a0_least, w_a0_greatest, w_a0_isSquared, .int a0_hasPart, .long a0_parted, .int a0_partMany, .ref q_a0_partPrime, .ref q_a0_partPower, .int a0_rows, w_a0_row, .long l4_24_0, .long l4_24_0, .int a0_foundSquare_24_0])), (q_a0_prime, .inl (cI, 9592, .inl a0_prime)), (q_a0_partPrime, .inl (cJ, 16, .inr (.inl a0_partPrime_24_0))), (q_a0_partPower, .inl (cI, 16, .inl a0_partPower_24_0))]) [0, 1, 2, 3] (by decide) rfl
                  exact W.vret hx hb hr (fun t ht hW => ⟨⟨(a0_partMany, l4_24_0, l4_24_0, a0_foundSquare_24_0, a0_partPrime_24_0, a0_partPower_24_0), rfl, h, by rw [ht]; exact hP9, hD9⟩, hS.F ht⟩) hS.2.2 dX9_parts_267
                · replace h := h.2 c_35
                  refine lv_aload_n hx hb dX9_parts_261 rfl (lv_at hl 3 rfl) ?_
                  refine lv_iload hx hb dX9_parts_262 (lv_at hl 0 rfl) ?_
                  refine va_put (D := (dC, dI)) (ci := 8) (v := .int x6_34) (ty := .int) (C := RX9) (T := TX9) (N := 19) hx hb hts hin_X9 tyX9 tyX9_ok nmX9 hown hK hP hD hS 0 rfl rfl 11 (by decide) hw_5 (fun _ h9 => h9) rfl (by decide +kernel) rfl rfl (Nat.le_of_ble_eq_true rfl) dX9_parts_264 (fun H locs hP hD hS => ?_)
                  have hP : va_P (dC, dI) vwCl [(h_a0, .inr (8, [.int a0_primes, .ref q_a0_prime, w_a0_isNone, .int a0_hasSpan, .long a0_spanFrom, .int a0_spanMany, w_a0_least, w_a0_greatest, w_a0_isSquared, .int a0_hasPart, .long a0_parted, .int x6_34, .ref q_a0_partPrime, .ref q_a0_partPower, .int a0_rows, w_a0_row, .long l4_24_0, .long l4_24_0, .int a0_foundSquare_24_0])), (q_a0_prime, .inl (cI, 9592, .inl a0_prime)), (q_a0_partPrime, .inl (cJ, 16, .inr (.inl a0_partPrime_24_0))), (q_a0_partPower, .inl (cI, 16, .inl a0_partPower_24_0))] H := hP
                  have hD : va_D A [(h_a0, .inr (8, [.int a0_primes, .ref q_a0_prime, w_a0_isNone, .int a0_hasSpan, .long a0_spanFrom, .int a0_spanMany, w_a0_least, w_a0_greatest, w_a0_isSquared, .int a0_hasPart, .long a0_parted, .int x6_34, .ref q_a0_partPrime, .ref q_a0_partPower, .int a0_rows, w_a0_row, .long l4_24_0, .long l4_24_0, .int a0_foundSquare_24_0])), (q_a0_prime, .inl (cI, 9592, .inl a0_prime)), (q_a0_partPrime, .inl (cJ, 16, .inr (.inl a0_partPrime_24_0))), (q_a0_partPower, .inl (cI, 16, .inl a0_partPower_24_0))] := hD
                  have hP9 := hP.sub (ws' := [(h_a0, .inr (8, [.int a0_primes, .ref q_a0_prime, w_a0_isNone, .int a0_hasSpan, .long a0_spanFrom, .int a0_spanMany, w_a0_least, w_a0_greatest, w_a0_isSquared, .int a0_hasPart, .long a0_parted, .int x6_34, .ref q_a0_partPrime, .ref q_a0_partPower, .int a0_rows, w_a0_row, .long l4_24_0, .long l4_24_0, .int a0_foundSquare_24_0])), (q_a0_prime, .inl (cI, 9592, .inl a0_prime)), (q_a0_partPrime, .inl (cJ, 16, .inr (.inl a0_partPrime_24_0))), (q_a0_partPower, .inl (cI, 16, .inl a0_partPower_24_0))]) [0, 1, 2, 3] rfl
                  have hD9 := hD.sub (ws' := [(h_a0, .inr (8, [.int a0_primes, .ref q_a0_prime, w_a0_isNone, .int a0_hasSpan, .long a0_spanFrom, .int a0_spanMany, w_a0_least, w_a0_greatest, w_a0_isSquared, .int a0_hasPart, .long a0_parted, .int x6_34, .ref q_a0_partPrime, .ref q_a0_partPower, .int a0_rows, w_a0_row, .long l4_24_0, .long l4_24_0, .int a0_foundSquare_24_0])), (q_a0_prime, .inl (cI, 9592, .inl a0_prime)), (q_a0_partPrime, .inl (cJ, 16, .inr (.inl a0_partPrime_24_0))), (q_a0_partPower, .inl (cI, 16, .inl a0_partPower_24_0))]) [0, 1, 2, 3] (by decide) rfl
                  exact W.vret hx hb hr (fun t ht hW => ⟨⟨(x6_34, l4_24_0, l4_24_0, a0_foundSquare_24_0, a0_partPrime_24_0, a0_partPower_24_0), rfl, h, by rw [ht]; exact hP9, hD9⟩, hS.F ht⟩) hS.2.2 dX9_parts_267
              · replace h := h.2 c_33
                refine lv_aload_n hx hb dX9_parts_237 rfl (lv_at hl 3 rfl) ?_
                refine va_get (D := (dC, dI)) (ci := 8) (v := .ref q_a0_partPrime) (C := RX9) (T := TX9) (N := 19) hx hb hts hin_X9 hown hK hP 0 rfl rfl 12 (by decide) hw_6 (fun _ h9 => h9) rfl dX9_parts_238 ?_
                refine lv_iload hx hb dX9_parts_241 (lv_at hl 1 rfl) ?_
                refine lv_lload hx hb dX9_parts_243 (lv_at hl 2 rfl) ?_
                obtain ⟨hin_36, h⟩ := h
                refine va_last hx hb hK hP hD hS 2 1 rfl rfl hin_36 dX9_parts_245 (fun H locs hP hD hS => ?_)
                have hP : va_P (dC, dI) vwCl [(h_a0, .inr (8, [.int a0_primes, .ref q_a0_prime, w_a0_isNone, .int a0_hasSpan, .long a0_spanFrom, .int a0_spanMany, w_a0_least, w_a0_greatest, w_a0_isSquared, .int a0_hasPart, .long a0_parted, .int a0_partMany, .ref q_a0_partPrime, .ref q_a0_partPower, .int a0_rows, w_a0_row, .long l4_24_0, .long l4_24_0, .int a0_foundSquare_24_0])), (q_a0_prime, .inl (cI, 9592, .inl a0_prime)), (q_a0_partPrime, .inl (cJ, 16, .inr (.inl (vp_updL a0_partPrime_24_0 l6_24_0.toNatClampNeg l4_24_0)))), (q_a0_partPower, .inl (cI, 16, .inl a0_partPower_24_0))] H := hP
                have hD : va_D A [(h_a0, .inr (8, [.int a0_primes, .ref q_a0_prime, w_a0_isNone, .int a0_hasSpan, .long a0_spanFrom, .int a0_spanMany, w_a0_least, w_a0_greatest, w_a0_isSquared, .int a0_hasPart, .long a0_parted, .int a0_partMany, .ref q_a0_partPrime, .ref q_a0_partPower, .int a0_rows, w_a0_row, .long l4_24_0, .long l4_24_0, .int a0_foundSquare_24_0])), (q_a0_prime, .inl (cI, 9592, .inl a0_prime)), (q_a0_partPrime, .inl (cJ, 16, .inr (.inl (vp_updL a0_partPrime_24_0 l6_24_0.toNatClampNeg l4_24_0)))), (q_a0_partPower, .inl (cI, 16, .inl a0_partPower_24_0))] := hD
                refine lv_aload_n hx hb dX9_parts_246 rfl (lv_at hl 3 rfl) ?_
                refine va_get (D := (dC, dI)) (ci := 8) (v := .ref q_a0_partPower) (C := RX9) (T := TX9) (N := 19) hx hb hts hin_X9 hown hK hP 0 rfl rfl 13 (by decide) hw_7 (fun _ h9 => h9) rfl dX9_parts_247 ?_
                refine lv_iload hx hb dX9_parts_250 (lv_at hl 1 rfl) ?_
                refine lv_iconst (v := (1 : Int32)) hx hb dX9_parts_252 (by decide) ?_
                obtain ⟨hin_37, h⟩ := h
                refine va_iast hx hb hK hP hD hS 3 0 rfl rfl hin_37 dX9_parts_253 (fun H locs hP hD hS => ?_)
                have hP : va_P (dC, dI) vwCl [(h_a0, .inr (8, [.int a0_primes, .ref q_a0_prime, w_a0_isNone, .int a0_hasSpan, .long a0_spanFrom, .int a0_spanMany, w_a0_least, w_a0_greatest, w_a0_isSquared, .int a0_hasPart, .long a0_parted, .int a0_partMany, .ref q_a0_partPrime, .ref q_a0_partPower, .int a0_rows, w_a0_row, .long l4_24_0, .long l4_24_0, .int a0_foundSquare_24_0])), (q_a0_prime, .inl (cI, 9592, .inl a0_prime)), (q_a0_partPrime, .inl (cJ, 16, .inr (.inl (vp_updL a0_partPrime_24_0 l6_24_0.toNatClampNeg l4_24_0)))), (q_a0_partPower, .inl (cI, 16, .inl (upd a0_partPower_24_0 l6_24_0.toNatClampNeg (1 : Int32))))] H := hP
                have hD : va_D A [(h_a0, .inr (8, [.int a0_primes, .ref q_a0_prime, w_a0_isNone, .int a0_hasSpan, .long a0_spanFrom, .int a0_spanMany, w_a0_least, w_a0_greatest, w_a0_isSquared, .int a0_hasPart, .long a0_parted, .int a0_partMany, .ref q_a0_partPrime, .ref q_a0_partPower, .int a0_rows, w_a0_row, .long l4_24_0, .long l4_24_0, .int a0_foundSquare_24_0])), (q_a0_prime, .inl (cI, 9592, .inl a0_prime)), (q_a0_partPrime, .inl (cJ, 16, .inr (.inl (vp_updL a0_partPrime_24_0 l6_24_0.toNatClampNeg l4_24_0)))), (q_a0_partPower, .inl (cI, 16, .inl (upd a0_partPower_24_0 l6_24_0.toNatClampNeg (1 : Int32))))] := hD
                obtain ⟨x6_38, e_x6_38⟩ : ∃ y : Int32, y = l6_24_0 + (1 : Int32) := ⟨_, rfl⟩
                replace h := h x6_38 e_x6_38
                refine lv_iinc (v := x6_38) (lv' := [(6, .int x6_38), (7, .int l7_24_0), (4, .long l4_24_0), (0, .ref h_a0), (3, .int p2)]) hx hb dX9_parts_254 hl (k := 1) rfl (by rw [e_x6_38]; rfl) (by decide) rfl (fun ls hl => ?_)
                refine lv_iload_n hx hb dX9_parts_257 rfl (lv_at hl 4 rfl) ?_
                refine lv_if_eq (tgt := 267) hx hb dX9_parts_258 (by decide) (fun c_39 => ?_) (fun c_39 => ?_)
                · replace h := h.1 c_39
                  have hP9 := hP.sub (ws' := [(h_a0, .inr (8, [.int a0_primes, .ref q_a0_prime, w_a0_isNone, .int a0_hasSpan, .long a0_spanFrom, .int a0_spanMany, w_a0_least, w_a0_greatest, w_a0_isSquared, .int a0_hasPart, .long a0_parted, .int a0_partMany, .ref q_a0_partPrime, .ref q_a0_partPower, .int a0_rows, w_a0_row, .long l4_24_0, .long l4_24_0, .int a0_foundSquare_24_0])), (q_a0_prime, .inl (cI, 9592, .inl a0_prime)), (q_a0_partPrime, .inl (cJ, 16, .inr (.inl (vp_updL a0_partPrime_24_0 l6_24_0.toNatClampNeg l4_24_0)))), (q_a0_partPower, .inl (cI, 16, .inl (upd a0_partPower_24_0 l6_24_0.toNatClampNeg (1 : Int32))))]) [0, 1, 2, 3] rfl
                  have hD9 := hD.sub (ws' := [(h_a0, .inr (8, [.int a0_primes, .ref q_a0_prime, w_a0_isNone, .int a0_hasSpan, .long a0_spanFrom, .int a0_spanMany, w_a0_least, w_a0_greatest, w_a0_isSquared, .int a0_hasPart, .long a0_parted, .int a0_partMany, .ref q_a0_partPrime, .ref q_a0_partPower, .int a0_rows, w_a0_row, .long l4_24_0, .long l4_24_0, .int a0_foundSquare_24_0])), (q_a0_prime, .inl (cI, 9592, .inl a0_prime)), (q_a0_partPrime, .inl (cJ, 16, .inr (.inl (vp_updL a0_partPrime_24_0 l6_24_0.toNatClampNeg l4_24_0)))), (q_a0_partPower, .inl (cI, 16, .inl (upd a0_partPower_24_0 l6_24_0.toNatClampNeg (1 : Int32))))]) [0, 1, 2, 3] (by decide) rfl
                  exact W.vret hx hb hr (fun t ht hW => ⟨⟨(a0_partMany, l4_24_0, l4_24_0, a0_foundSquare_24_0, (vp_updL a0_partPrime_24_0 l6_24_0.toNatClampNeg l4_24_0), (upd a0_partPower_24_0 l6_24_0.toNatClampNeg (1 : Int32))), rfl, h, by rw [ht]; exact hP9, hD9⟩, hS.F ht⟩) hS.2.2 dX9_parts_267
                · replace h := h.2 c_39
                  refine lv_aload_n hx hb dX9_parts_261 rfl (lv_at hl 3 rfl) ?_
                  refine lv_iload hx hb dX9_parts_262 (lv_at hl 0 rfl) ?_
                  refine va_put (D := (dC, dI)) (ci := 8) (v := .int x6_38) (ty := .int) (C := RX9) (T := TX9) (N := 19) hx hb hts hin_X9 tyX9 tyX9_ok nmX9 hown hK hP hD hS 0 rfl rfl 11 (by decide) hw_5 (fun _ h9 => h9) rfl (by decide +kernel) rfl rfl (Nat.le_of_ble_eq_true rfl) dX9_parts_264 (fun H locs hP hD hS => ?_)
                  have hP : va_P (dC, dI) vwCl [(h_a0, .inr (8, [.int a0_primes, .ref q_a0_prime, w_a0_isNone, .int a0_hasSpan, .long a0_spanFrom, .int a0_spanMany, w_a0_least, w_a0_greatest, w_a0_isSquared, .int a0_hasPart, .long a0_parted, .int x6_38, .ref q_a0_partPrime, .ref q_a0_partPower, .int a0_rows, w_a0_row, .long l4_24_0, .long l4_24_0, .int a0_foundSquare_24_0])), (q_a0_prime, .inl (cI, 9592, .inl a0_prime)), (q_a0_partPrime, .inl (cJ, 16, .inr (.inl (vp_updL a0_partPrime_24_0 l6_24_0.toNatClampNeg l4_24_0)))), (q_a0_partPower, .inl (cI, 16, .inl (upd a0_partPower_24_0 l6_24_0.toNatClampNeg (1 : Int32))))] H := hP
                  have hD : va_D A [(h_a0, .inr (8, [.int a0_primes, .ref q_a0_prime, w_a0_isNone, .int a0_hasSpan, .long a0_spanFrom, .int a0_spanMany, w_a0_least, w_a0_greatest, w_a0_isSquared, .int a0_hasPart, .long a0_parted, .int x6_38, .ref q_a0_partPrime, .ref q_a0_partPower, .int a0_rows, w_a0_row, .long l4_24_0, .long l4_24_0, .int a0_foundSquare_24_0])), (q_a0_prime, .inl (cI, 9592, .inl a0_prime)), (q_a0_partPrime, .inl (cJ, 16, .inr (.inl (vp_updL a0_partPrime_24_0 l6_24_0.toNatClampNeg l4_24_0)))), (q_a0_partPower, .inl (cI, 16, .inl (upd a0_partPower_24_0 l6_24_0.toNatClampNeg (1 : Int32))))] := hD
                  have hP9 := hP.sub (ws' := [(h_a0, .inr (8, [.int a0_primes, .ref q_a0_prime, w_a0_isNone, .int a0_hasSpan, .long a0_spanFrom, .int a0_spanMany, w_a0_least, w_a0_greatest, w_a0_isSquared, .int a0_hasPart, .long a0_parted, .int x6_38, .ref q_a0_partPrime, .ref q_a0_partPower, .int a0_rows, w_a0_row, .long l4_24_0, .long l4_24_0, .int a0_foundSquare_24_0])), (q_a0_prime, .inl (cI, 9592, .inl a0_prime)), (q_a0_partPrime, .inl (cJ, 16, .inr (.inl (vp_updL a0_partPrime_24_0 l6_24_0.toNatClampNeg l4_24_0)))), (q_a0_partPower, .inl (cI, 16, .inl (upd a0_partPower_24_0 l6_24_0.toNatClampNeg (1 : Int32))))]) [0, 1, 2, 3] rfl
                  have hD9 := hD.sub (ws' := [(h_a0, .inr (8, [.int a0_primes, .ref q_a0_prime, w_a0_isNone, .int a0_hasSpan, .long a0_spanFrom, .int a0_spanMany, w_a0_least, w_a0_greatest, w_a0_isSquared, .int a0_hasPart, .long a0_parted, .int x6_38, .ref q_a0_partPrime, .ref q_a0_partPower, .int a0_rows, w_a0_row, .long l4_24_0, .long l4_24_0, .int a0_foundSquare_24_0])), (q_a0_prime, .inl (cI, 9592, .inl a0_prime)), (q_a0_partPrime, .inl (cJ, 16, .inr (.inl (vp_updL a0_partPrime_24_0 l6_24_0.toNatClampNeg l4_24_0)))), (q_a0_partPower, .inl (cI, 16, .inl (upd a0_partPower_24_0 l6_24_0.toNatClampNeg (1 : Int32))))]) [0, 1, 2, 3] (by decide) rfl
                  exact W.vret hx hb hr (fun t ht hW => ⟨⟨(x6_38, l4_24_0, l4_24_0, a0_foundSquare_24_0, (vp_updL a0_partPrime_24_0 l6_24_0.toNatClampNeg l4_24_0), (upd a0_partPower_24_0 l6_24_0.toNatClampNeg (1 : Int32))), rfl, h, by rw [ht]; exact hP9, hD9⟩, hS.F ht⟩) hS.2.2 dX9_parts_267
        · replace c_22 := lc_ngt c_22
          replace h := h.2 c_22
          refine lv_iconst (v := (0 : Int32)) hx hb dX9_parts_56 (by decide) ?_
          refine lv_istore (lv' := [(8, .int (0 : Int32)), (7, .int l7_24_0), (6, .int l6_24_0), (4, .long l4_24_0), (0, .ref h_a0), (3, .int p2)]) hx hb dX9_parts_57 hl (by decide) rfl (fun ls hl => ?_)
          obtain ⟨I_59_39, m_59_39, h0_59_39, hs_59_39⟩ := h
          have key_59_39 : ∀ (n : Nat) (l8_59_39 : Int32) (l4_59_39 : Int64), m_59_39 l8_59_39 l4_59_39 < n → I_59_39 l8_59_39 l4_59_39 → ∀ (ls : Array Slot) (H : Heap) (locs : List Loc), lv_has ls 9 [(8, .int l8_59_39), (7, .int l7_24_0), (6, .int l6_24_0), (4, .long l4_59_39), (0, .ref h_a0), (3, .int p2)] → va_P (dC, dI) vwCl [(h_a0, .inr (8, [.int a0_primes, .ref q_a0_prime, w_a0_isNone, .int a0_hasSpan, .long a0_spanFrom, .int a0_spanMany, w_a0_least, w_a0_greatest, w_a0_isSquared, .int a0_hasPart, .long a0_parted, .int a0_partMany, .ref q_a0_partPrime, .ref q_a0_partPower, .int a0_rows, w_a0_row, .long a0_foundLeast_24_0, .long a0_foundGreatest_24_0, .int a0_foundSquare_24_0])), (q_a0_prime, .inl (cI, 9592, .inl a0_prime)), (q_a0_partPrime, .inl (cJ, 16, .inr (.inl a0_partPrime_24_0))), (q_a0_partPower, .inl (cI, 16, .inl a0_partPower_24_0))] H → va_D A [(h_a0, .inr (8, [.int a0_primes, .ref q_a0_prime, w_a0_isNone, .int a0_hasSpan, .long a0_spanFrom, .int a0_spanMany, w_a0_least, w_a0_greatest, w_a0_isSquared, .int a0_hasPart, .long a0_parted, .int a0_partMany, .ref q_a0_partPrime, .ref q_a0_partPower, .int a0_rows, w_a0_row, .long a0_foundLeast_24_0, .long a0_foundGreatest_24_0, .int a0_foundSquare_24_0])), (q_a0_prime, .inl (cI, 9592, .inl a0_prime)), (q_a0_partPrime, .inl (cJ, 16, .inr (.inl a0_partPrime_24_0))), (q_a0_partPower, .inl (cI, 16, .inl a0_partPower_24_0))] → va_S A s.heap H locs → W p l e (headSpec wsX9_parts rm_X9_parts).room s m ([.ref h_a0, .long p1, .int p2] : List Value).toArray below meth c H locs 0 0 (MQ below (qc_X9_parts dC dI cI cJ cZ h_a0 a0_primes a0_prime q_a0_prime w_a0_isNone a0_hasSpan a0_spanFrom a0_spanMany w_a0_least w_a0_greatest w_a0_isSquared a0_hasPart a0_parted a0_partMany a0_partPrime q_a0_partPrime a0_partPower q_a0_partPower a0_rows w_a0_row a0_foundLeast a0_foundGreatest a0_foundSquare Q A) ([.ref h_a0, .long p1, .int p2] : List Value).toArray s 0 0 A) (F0 m 59 ls []) := by
            intro n
            induction n with
            | zero =>
              intro l8_59_39 l4_59_39 hm
              exact absurd hm (Nat.not_lt_zero _)
            | succ n ih_59_39 =>
              intro l8_59_39 l4_59_39 hm_59_39 hI ls H locs hl hP hD hS
              have h := hs_59_39 l8_59_39 l4_59_39 hI
              refine lv_lload hx hb dX9_parts_59 (lv_at hl 3 rfl) ?_
              refine lv_aload_n hx hb dX9_parts_61 rfl (lv_at hl 4 rfl) ?_
              refine va_get (D := (dC, dI)) (ci := 8) (v := .ref q_a0_prime) (C := RX9) (T := TX9) (N := 19) hx hb hts hin_X9 hown hK hP 0 rfl rfl 1 (by decide) hw_8 (fun _ h9 => h9) rfl dX9_parts_62 ?_
              refine lv_iload hx hb dX9_parts_65 (lv_at hl 1 rfl) ?_
              obtain ⟨hin_41, h⟩ := h
              refine va_iald hx hb hK hP 1 0 rfl rfl hin_41 dX9_parts_67 ?_
              refine lv_i2l hx hb dX9_parts_68 rfl ?_
              obtain ⟨hne_42, h⟩ := h
              refine lv_lrem hx hb dX9_parts_69 hne_42 ?_
              refine lv_lconst (v := (0 : Int64)) hx hb dX9_parts_70 (by decide) ?_
              refine W.lcmp hx hb dX9_parts_71 ?_
              refine lv_if_ne (tgt := 94) hx hb dX9_parts_72 (by decide) (fun c_43 => ?_) (fun c_43 => ?_)
              · replace c_43 := lc_neq c_43
                replace h := h.2 c_43
                refine lv_iload hx hb dX9_parts_94 (lv_at hl 0 rfl) ?_
                refine lv_if_le (tgt := 192) hx hb dX9_parts_96 (by decide) (fun c_44 => ?_) (fun c_44 => ?_)
                · replace h := h.1 c_44
                  obtain ⟨x7_45, e_x7_45⟩ : ∃ y : Int32, y = l7_24_0 + (1 : Int32) := ⟨_, rfl⟩
                  replace h := h x7_45 e_x7_45
                  refine lv_iinc (v := x7_45) (lv' := [(7, .int x7_45), (8, .int l8_59_39), (6, .int l6_24_0), (4, .long l4_59_39), (0, .ref h_a0), (3, .int p2)]) hx hb dX9_parts_192 hl (k := 1) rfl (by rw [e_x7_45]; rfl) (by decide) rfl (fun ls hl => ?_)
                  refine lv_goto (tgt := 24) hx hb dX9_parts_195 (by decide) ?_
                  exact ih_24_0 x7_45 l6_24_0 l4_59_39 a0_foundLeast_24_0 a0_foundGreatest_24_0 a0_foundSquare_24_0 a0_partPrime_24_0 a0_partPower_24_0 (Nat.lt_of_lt_of_le h.2 (Nat.le_of_lt_succ hm_24_0)) h.1 _ _ _ (lv_sub hl [0, 2, 3, 4, 5] rfl) (hP.sub [0, 1, 2, 3] rfl) (hD.sub [0, 1, 2, 3] (by decide) rfl) hS
                · replace h := h.2 c_44
                  refine lv_aload_n hx hb dX9_parts_99 rfl (lv_at hl 4 rfl) ?_
                  refine lv_aload_n hx hb dX9_parts_100 rfl (lv_at hl 4 rfl) ?_
                  refine va_get (D := (dC, dI)) (ci := 8) (v := .long a0_foundLeast_24_0) (C := RX9) (T := TX9) (N := 19) hx hb hts hin_X9 hown hK hP 0 rfl rfl 16 (by decide) hw_0 (fun _ h9 => h9) rfl dX9_parts_101 ?_
                  refine lv_lconst (v := (1 : Int64)) hx hb dX9_parts_104 (by decide) ?_
                  refine W.lcmp hx hb dX9_parts_105 ?_
                  refine lv_if_ne (tgt := 120) hx hb dX9_parts_106 (by decide) (fun c_46 => ?_) (fun c_46 => ?_)
                  · replace c_46 := lc_neq c_46
                    replace h := h.2 c_46
                    refine lv_aload_n hx hb dX9_parts_120 rfl (lv_at hl 4 rfl) ?_
                    refine va_get (D := (dC, dI)) (ci := 8) (v := .long a0_foundLeast_24_0) (C := RX9) (T := TX9) (N := 19) hx hb hts hin_X9 hown hK hP 0 rfl rfl 16 (by decide) hw_0 (fun _ h9 => h9) rfl dX9_parts_121 ?_
                    refine va_put (D := (dC, dI)) (ci := 8) (v := .long a0_foundLeast_24_0) (ty := .long) (C := RX9) (T := TX9) (N := 19) hx hb hts hin_X9 tyX9 tyX9_ok nmX9 hown hK hP hD hS 0 rfl rfl 16 (by decide) hw_0 (fun _ h9 => h9) rfl (by decide +kernel) rfl rfl (Nat.le_of_ble_eq_true rfl) dX9_parts_124 (fun H locs hP hD hS => ?_)
                    have hP : va_P (dC, dI) vwCl [(h_a0, .inr (8, [.int a0_primes, .ref q_a0_prime, w_a0_isNone, .int a0_hasSpan, .long a0_spanFrom, .int a0_spanMany, w_a0_least, w_a0_greatest, w_a0_isSquared, .int a0_hasPart, .long a0_parted, .int a0_partMany, .ref q_a0_partPrime, .ref q_a0_partPower, .int a0_rows, w_a0_row, .long a0_foundLeast_24_0, .long a0_foundGreatest_24_0, .int a0_foundSquare_24_0])), (q_a0_prime, .inl (cI, 9592, .inl a0_prime)), (q_a0_partPrime, .inl (cJ, 16, .inr (.inl a0_partPrime_24_0))), (q_a0_partPower, .inl (cI, 16, .inl a0_partPower_24_0))] H := hP
                    have hD : va_D A [(h_a0, .inr (8, [.int a0_primes, .ref q_a0_prime, w_a0_isNone, .int a0_hasSpan, .long a0_spanFrom, .int a0_spanMany, w_a0_least, w_a0_greatest, w_a0_isSquared, .int a0_hasPart, .long a0_parted, .int a0_partMany, .ref q_a0_partPrime, .ref q_a0_partPower, .int a0_rows, w_a0_row, .long a0_foundLeast_24_0, .long a0_foundGreatest_24_0, .int a0_foundSquare_24_0])), (q_a0_prime, .inl (cI, 9592, .inl a0_prime)), (q_a0_partPrime, .inl (cJ, 16, .inr (.inl a0_partPrime_24_0))), (q_a0_partPower, .inl (cI, 16, .inl a0_partPower_24_0))] := hD
                    refine lv_aload_n hx hb dX9_parts_127 rfl (lv_at hl 4 rfl) ?_
                    refine lv_aload_n hx hb dX9_parts_128 rfl (lv_at hl 4 rfl) ?_
                    refine va_get (D := (dC, dI)) (ci := 8) (v := .ref q_a0_prime) (C := RX9) (T := TX9) (N := 19) hx hb hts hin_X9 hown hK hP 0 rfl rfl 1 (by decide) hw_8 (fun _ h9 => h9) rfl dX9_parts_129 ?_
                    refine lv_iload hx hb dX9_parts_132 (lv_at hl 1 rfl) ?_
                    obtain ⟨hin_47, h⟩ := h
                    refine va_iald hx hb hK hP 1 0 rfl rfl hin_47 dX9_parts_134 ?_
                    refine lv_i2l hx hb dX9_parts_135 rfl ?_
                    refine lv_topl (fun y_48 e_y_48 => ?_)
                    replace h := h y_48 e_y_48
                    refine va_put (D := (dC, dI)) (ci := 8) (v := .long y_48) (ty := .long) (C := RX9) (T := TX9) (N := 19) hx hb hts hin_X9 tyX9 tyX9_ok nmX9 hown hK hP hD hS 0 rfl rfl 17 (by decide) hw_2 (fun _ h9 => h9) rfl (by decide +kernel) rfl rfl (Nat.le_of_ble_eq_true rfl) dX9_parts_136 (fun H locs hP hD hS => ?_)
                    have hP : va_P (dC, dI) vwCl [(h_a0, .inr (8, [.int a0_primes, .ref q_a0_prime, w_a0_isNone, .int a0_hasSpan, .long a0_spanFrom, .int a0_spanMany, w_a0_least, w_a0_greatest, w_a0_isSquared, .int a0_hasPart, .long a0_parted, .int a0_partMany, .ref q_a0_partPrime, .ref q_a0_partPower, .int a0_rows, w_a0_row, .long a0_foundLeast_24_0, .long y_48, .int a0_foundSquare_24_0])), (q_a0_prime, .inl (cI, 9592, .inl a0_prime)), (q_a0_partPrime, .inl (cJ, 16, .inr (.inl a0_partPrime_24_0))), (q_a0_partPower, .inl (cI, 16, .inl a0_partPower_24_0))] H := hP
                    have hD : va_D A [(h_a0, .inr (8, [.int a0_primes, .ref q_a0_prime, w_a0_isNone, .int a0_hasSpan, .long a0_spanFrom, .int a0_spanMany, w_a0_least, w_a0_greatest, w_a0_isSquared, .int a0_hasPart, .long a0_parted, .int a0_partMany, .ref q_a0_partPrime, .ref q_a0_partPower, .int a0_rows, w_a0_row, .long a0_foundLeast_24_0, .long y_48, .int a0_foundSquare_24_0])), (q_a0_prime, .inl (cI, 9592, .inl a0_prime)), (q_a0_partPrime, .inl (cJ, 16, .inr (.inl a0_partPrime_24_0))), (q_a0_partPower, .inl (cI, 16, .inl a0_partPower_24_0))] := hD
                    refine lv_aload_n hx hb dX9_parts_139 rfl (lv_at hl 4 rfl) ?_
                    refine lv_aload_n hx hb dX9_parts_140 rfl (lv_at hl 4 rfl) ?_
                    refine va_get (D := (dC, dI)) (ci := 8) (v := .int a0_foundSquare_24_0) (C := RX9) (T := TX9) (N := 19) hx hb hts hin_X9 hown hK hP 0 rfl rfl 18 (by decide) hw_3 (fun _ h9 => h9) rfl dX9_parts_141 ?_
                    refine lv_if_ne (tgt := 153) hx hb dX9_parts_144 (by decide) (fun c_49 => ?_) (fun c_49 => ?_)
                    · replace h := h.2 c_49
                      refine lv_iconst (v := (1 : Int32)) hx hb dX9_parts_153 (by decide) ?_
                      refine lv_goto (tgt := 158) hx hb dX9_parts_154 (by decide) ?_
                      refine va_put (D := (dC, dI)) (ci := 8) (v := .int (1 : Int32)) (ty := .boolean) (C := RX9) (T := TX9) (N := 19) hx hb hts hin_X9 tyX9 tyX9_ok nmX9 hown hK hP hD hS 0 rfl rfl 18 (by decide) hw_3 (fun _ h9 => h9) rfl (by decide +kernel) rfl rfl (Nat.le_of_ble_eq_true rfl) dX9_parts_158 (fun H locs hP hD hS => ?_)
                      have hP : va_P (dC, dI) vwCl [(h_a0, .inr (8, [.int a0_primes, .ref q_a0_prime, w_a0_isNone, .int a0_hasSpan, .long a0_spanFrom, .int a0_spanMany, w_a0_least, w_a0_greatest, w_a0_isSquared, .int a0_hasPart, .long a0_parted, .int a0_partMany, .ref q_a0_partPrime, .ref q_a0_partPower, .int a0_rows, w_a0_row, .long a0_foundLeast_24_0, .long y_48, .int (1 : Int32)])), (q_a0_prime, .inl (cI, 9592, .inl a0_prime)), (q_a0_partPrime, .inl (cJ, 16, .inr (.inl a0_partPrime_24_0))), (q_a0_partPower, .inl (cI, 16, .inl a0_partPower_24_0))] H := hP
                      have hD : va_D A [(h_a0, .inr (8, [.int a0_primes, .ref q_a0_prime, w_a0_isNone, .int a0_hasSpan, .long a0_spanFrom, .int a0_spanMany, w_a0_least, w_a0_greatest, w_a0_isSquared, .int a0_hasPart, .long a0_parted, .int a0_partMany, .ref q_a0_partPrime, .ref q_a0_partPower, .int a0_rows, w_a0_row, .long a0_foundLeast_24_0, .long y_48, .int (1 : Int32)])), (q_a0_prime, .inl (cI, 9592, .inl a0_prime)), (q_a0_partPrime, .inl (cJ, 16, .inr (.inl a0_partPrime_24_0))), (q_a0_partPower, .inl (cI, 16, .inl a0_partPower_24_0))] := hD
                      refine lv_iload_n hx hb dX9_parts_161 rfl (lv_at hl 5 rfl) ?_
                      refine lv_if_eq (tgt := 189) hx hb dX9_parts_162 (by decide) (fun c_50 => ?_) (fun c_50 => ?_)
                      · replace h := h.1 c_50
                        obtain ⟨x6_51, e_x6_51⟩ : ∃ y : Int32, y = l6_24_0 + (1 : Int32) := ⟨_, rfl⟩
                        replace h := h x6_51 e_x6_51
                        refine lv_iinc (v := x6_51) (lv' := [(6, .int x6_51), (8, .int l8_59_39), (7, .int l7_24_0), (4, .long l4_59_39), (0, .ref h_a0), (3, .int p2)]) hx hb dX9_parts_189 hl (k := 2) rfl (by rw [e_x6_51]; rfl) (by decide) rfl (fun ls hl => ?_)
                        obtain ⟨x7_52, e_x7_52⟩ : ∃ y : Int32, y = l7_24_0 + (1 : Int32) := ⟨_, rfl⟩
                        replace h := h x7_52 e_x7_52
                        refine lv_iinc (v := x7_52) (lv' := [(7, .int x7_52), (6, .int x6_51), (8, .int l8_59_39), (4, .long l4_59_39), (0, .ref h_a0), (3, .int p2)]) hx hb dX9_parts_192 hl (k := 2) rfl (by rw [e_x7_52]; rfl) (by decide) rfl (fun ls hl => ?_)
                        refine lv_goto (tgt := 24) hx hb dX9_parts_195 (by decide) ?_
                        exact ih_24_0 x7_52 x6_51 l4_59_39 a0_foundLeast_24_0 y_48 (1 : Int32) a0_partPrime_24_0 a0_partPower_24_0 (Nat.lt_of_lt_of_le h.2 (Nat.le_of_lt_succ hm_24_0)) h.1 _ _ _ (lv_sub hl [0, 1, 3, 4, 5] rfl) (hP.sub [0, 1, 2, 3] rfl) (hD.sub [0, 1, 2, 3] (by decide) rfl) hS
                      · replace h := h.2 c_50
                        refine lv_aload_n hx hb dX9_parts_165 rfl (lv_at hl 4 rfl) ?_
                        refine va_get (D := (dC, dI)) (ci := 8) (v := .ref q_a0_partPrime) (C := RX9) (T := TX9) (N := 19) hx hb hts hin_X9 hown hK hP 0 rfl rfl 12 (by decide) hw_6 (fun _ h9 => h9) rfl dX9_parts_166 ?_
                        refine lv_iload hx hb dX9_parts_169 (lv_at hl 2 rfl) ?_
                        refine lv_aload_n hx hb dX9_parts_171 rfl (lv_at hl 4 rfl) ?_
                        refine va_get (D := (dC, dI)) (ci := 8) (v := .ref q_a0_prime) (C := RX9) (T := TX9) (N := 19) hx hb hts hin_X9 hown hK hP 0 rfl rfl 1 (by decide) hw_8 (fun _ h9 => h9) rfl dX9_parts_172 ?_
                        refine lv_iload hx hb dX9_parts_175 (lv_at hl 1 rfl) ?_
                        obtain ⟨hin_53, h⟩ := h
                        refine va_iald hx hb hK hP 1 0 rfl rfl hin_53 dX9_parts_177 ?_
                        refine lv_i2l hx hb dX9_parts_178 rfl ?_
                        refine lv_topl (fun y_54 e_y_54 => ?_)
                        replace h := h y_54 e_y_54
                        obtain ⟨hin_55, h⟩ := h
                        refine va_last hx hb hK hP hD hS 2 1 rfl rfl hin_55 dX9_parts_179 (fun H locs hP hD hS => ?_)
                        have hP : va_P (dC, dI) vwCl [(h_a0, .inr (8, [.int a0_primes, .ref q_a0_prime, w_a0_isNone, .int a0_hasSpan, .long a0_spanFrom, .int a0_spanMany, w_a0_least, w_a0_greatest, w_a0_isSquared, .int a0_hasPart, .long a0_parted, .int a0_partMany, .ref q_a0_partPrime, .ref q_a0_partPower, .int a0_rows, w_a0_row, .long a0_foundLeast_24_0, .long y_48, .int (1 : Int32)])), (q_a0_prime, .inl (cI, 9592, .inl a0_prime)), (q_a0_partPrime, .inl (cJ, 16, .inr (.inl (vp_updL a0_partPrime_24_0 l6_24_0.toNatClampNeg y_54)))), (q_a0_partPower, .inl (cI, 16, .inl a0_partPower_24_0))] H := hP
                        have hD : va_D A [(h_a0, .inr (8, [.int a0_primes, .ref q_a0_prime, w_a0_isNone, .int a0_hasSpan, .long a0_spanFrom, .int a0_spanMany, w_a0_least, w_a0_greatest, w_a0_isSquared, .int a0_hasPart, .long a0_parted, .int a0_partMany, .ref q_a0_partPrime, .ref q_a0_partPower, .int a0_rows, w_a0_row, .long a0_foundLeast_24_0, .long y_48, .int (1 : Int32)])), (q_a0_prime, .inl (cI, 9592, .inl a0_prime)), (q_a0_partPrime, .inl (cJ, 16, .inr (.inl (vp_updL a0_partPrime_24_0 l6_24_0.toNatClampNeg y_54)))), (q_a0_partPower, .inl (cI, 16, .inl a0_partPower_24_0))] := hD
                        refine lv_aload_n hx hb dX9_parts_180 rfl (lv_at hl 4 rfl) ?_
                        refine va_get (D := (dC, dI)) (ci := 8) (v := .ref q_a0_partPower) (C := RX9) (T := TX9) (N := 19) hx hb hts hin_X9 hown hK hP 0 rfl rfl 13 (by decide) hw_7 (fun _ h9 => h9) rfl dX9_parts_181 ?_
                        refine lv_iload hx hb dX9_parts_184 (lv_at hl 2 rfl) ?_
                        refine lv_iload hx hb dX9_parts_186 (lv_at hl 0 rfl) ?_
                        obtain ⟨hin_56, h⟩ := h
                        refine va_iast hx hb hK hP hD hS 3 0 rfl rfl hin_56 dX9_parts_188 (fun H locs hP hD hS => ?_)
                        have hP : va_P (dC, dI) vwCl [(h_a0, .inr (8, [.int a0_primes, .ref q_a0_prime, w_a0_isNone, .int a0_hasSpan, .long a0_spanFrom, .int a0_spanMany, w_a0_least, w_a0_greatest, w_a0_isSquared, .int a0_hasPart, .long a0_parted, .int a0_partMany, .ref q_a0_partPrime, .ref q_a0_partPower, .int a0_rows, w_a0_row, .long a0_foundLeast_24_0, .long y_48, .int (1 : Int32)])), (q_a0_prime, .inl (cI, 9592, .inl a0_prime)), (q_a0_partPrime, .inl (cJ, 16, .inr (.inl (vp_updL a0_partPrime_24_0 l6_24_0.toNatClampNeg y_54)))), (q_a0_partPower, .inl (cI, 16, .inl (upd a0_partPower_24_0 l6_24_0.toNatClampNeg l8_59_39)))] H := hP
                        have hD : va_D A [(h_a0, .inr (8, [.int a0_primes, .ref q_a0_prime, w_a0_isNone, .int a0_hasSpan, .long a0_spanFrom, .int a0_spanMany, w_a0_least, w_a0_greatest, w_a0_isSquared, .int a0_hasPart, .long a0_parted, .int a0_partMany, .ref q_a0_partPrime, .ref q_a0_partPower, .int a0_rows, w_a0_row, .long a0_foundLeast_24_0, .long y_48, .int (1 : Int32)])), (q_a0_prime, .inl (cI, 9592, .inl a0_prime)), (q_a0_partPrime, .inl (cJ, 16, .inr (.inl (vp_updL a0_partPrime_24_0 l6_24_0.toNatClampNeg y_54)))), (q_a0_partPower, .inl (cI, 16, .inl (upd a0_partPower_24_0 l6_24_0.toNatClampNeg l8_59_39)))] := hD
                        obtain ⟨x6_57, e_x6_57⟩ : ∃ y : Int32, y = l6_24_0 + (1 : Int32) := ⟨_, rfl⟩
                        replace h := h x6_57 e_x6_57
                        refine lv_iinc (v := x6_57) (lv' := [(6, .int x6_57), (8, .int l8_59_39), (7, .int l7_24_0), (4, .long l4_59_39), (0, .ref h_a0), (3, .int p2)]) hx hb dX9_parts_189 hl (k := 2) rfl (by rw [e_x6_57]; rfl) (by decide) rfl (fun ls hl => ?_)
                        obtain ⟨x7_58, e_x7_58⟩ : ∃ y : Int32, y = l7_24_0 + (1 : Int32) := ⟨_, rfl⟩
                        replace h := h x7_58 e_x7_58
                        refine lv_iinc (v := x7_58) (lv' := [(7, .int x7_58), (6, .int x6_57), (8, .int l8_59_39), (4, .long l4_59_39), (0, .ref h_a0), (3, .int p2)]) hx hb dX9_parts_192 hl (k := 2) rfl (by rw [e_x7_58]; rfl) (by decide) rfl (fun ls hl => ?_)
                        refine lv_goto (tgt := 24) hx hb dX9_parts_195 (by decide) ?_
                        exact ih_24_0 x7_58 x6_57 l4_59_39 a0_foundLeast_24_0 y_48 (1 : Int32) (vp_updL a0_partPrime_24_0 l6_24_0.toNatClampNeg y_54) (upd a0_partPower_24_0 l6_24_0.toNatClampNeg l8_59_39) (Nat.lt_of_lt_of_le h.2 (Nat.le_of_lt_succ hm_24_0)) h.1 _ _ _ (lv_sub hl [0, 1, 3, 4, 5] rfl) (hP.sub [0, 1, 2, 3] rfl) (hD.sub [0, 1, 2, 3] (by decide) rfl) hS
                    · replace h := h.1 c_49
                      refine lv_iload hx hb dX9_parts_147 (lv_at hl 0 rfl) ?_
                      refine lv_iconst (v := (1 : Int32)) hx hb dX9_parts_149 (by decide) ?_
                      refine lv_icmp_le (tgt := 157) hx hb dX9_parts_150 (by decide) (fun c_59 => ?_) (fun c_59 => ?_)
                      · replace h := h.1 c_59
                        refine lv_iconst (v := (0 : Int32)) hx hb dX9_parts_157 (by decide) ?_
                        refine va_put (D := (dC, dI)) (ci := 8) (v := .int (0 : Int32)) (ty := .boolean) (C := RX9) (T := TX9) (N := 19) hx hb hts hin_X9 tyX9 tyX9_ok nmX9 hown hK hP hD hS 0 rfl rfl 18 (by decide) hw_3 (fun _ h9 => h9) rfl (by decide +kernel) rfl rfl (Nat.le_of_ble_eq_true rfl) dX9_parts_158 (fun H locs hP hD hS => ?_)
                        have hP : va_P (dC, dI) vwCl [(h_a0, .inr (8, [.int a0_primes, .ref q_a0_prime, w_a0_isNone, .int a0_hasSpan, .long a0_spanFrom, .int a0_spanMany, w_a0_least, w_a0_greatest, w_a0_isSquared, .int a0_hasPart, .long a0_parted, .int a0_partMany, .ref q_a0_partPrime, .ref q_a0_partPower, .int a0_rows, w_a0_row, .long a0_foundLeast_24_0, .long y_48, .int (0 : Int32)])), (q_a0_prime, .inl (cI, 9592, .inl a0_prime)), (q_a0_partPrime, .inl (cJ, 16, .inr (.inl a0_partPrime_24_0))), (q_a0_partPower, .inl (cI, 16, .inl a0_partPower_24_0))] H := hP
                        have hD : va_D A [(h_a0, .inr (8, [.int a0_primes, .ref q_a0_prime, w_a0_isNone, .int a0_hasSpan, .long a0_spanFrom, .int a0_spanMany, w_a0_least, w_a0_greatest, w_a0_isSquared, .int a0_hasPart, .long a0_parted, .int a0_partMany, .ref q_a0_partPrime, .ref q_a0_partPower, .int a0_rows, w_a0_row, .long a0_foundLeast_24_0, .long y_48, .int (0 : Int32)])), (q_a0_prime, .inl (cI, 9592, .inl a0_prime)), (q_a0_partPrime, .inl (cJ, 16, .inr (.inl a0_partPrime_24_0))), (q_a0_partPower, .inl (cI, 16, .inl a0_partPower_24_0))] := hD
                        refine lv_iload_n hx hb dX9_parts_161 rfl (lv_at hl 5 rfl) ?_
                        refine lv_if_eq (tgt := 189) hx hb dX9_parts_162 (by decide) (fun c_60 => ?_) (fun c_60 => ?_)
                        · replace h := h.1 c_60
                          obtain ⟨x6_61, e_x6_61⟩ : ∃ y : Int32, y = l6_24_0 + (1 : Int32) := ⟨_, rfl⟩
                          replace h := h x6_61 e_x6_61
                          refine lv_iinc (v := x6_61) (lv' := [(6, .int x6_61), (8, .int l8_59_39), (7, .int l7_24_0), (4, .long l4_59_39), (0, .ref h_a0), (3, .int p2)]) hx hb dX9_parts_189 hl (k := 2) rfl (by rw [e_x6_61]; rfl) (by decide) rfl (fun ls hl => ?_)
                          obtain ⟨x7_62, e_x7_62⟩ : ∃ y : Int32, y = l7_24_0 + (1 : Int32) := ⟨_, rfl⟩
                          replace h := h x7_62 e_x7_62
                          refine lv_iinc (v := x7_62) (lv' := [(7, .int x7_62), (6, .int x6_61), (8, .int l8_59_39), (4, .long l4_59_39), (0, .ref h_a0), (3, .int p2)]) hx hb dX9_parts_192 hl (k := 2) rfl (by rw [e_x7_62]; rfl) (by decide) rfl (fun ls hl => ?_)
                          refine lv_goto (tgt := 24) hx hb dX9_parts_195 (by decide) ?_
                          exact ih_24_0 x7_62 x6_61 l4_59_39 a0_foundLeast_24_0 y_48 (0 : Int32) a0_partPrime_24_0 a0_partPower_24_0 (Nat.lt_of_lt_of_le h.2 (Nat.le_of_lt_succ hm_24_0)) h.1 _ _ _ (lv_sub hl [0, 1, 3, 4, 5] rfl) (hP.sub [0, 1, 2, 3] rfl) (hD.sub [0, 1, 2, 3] (by decide) rfl) hS
                        · replace h := h.2 c_60
                          refine lv_aload_n hx hb dX9_parts_165 rfl (lv_at hl 4 rfl) ?_
                          refine va_get (D := (dC, dI)) (ci := 8) (v := .ref q_a0_partPrime) (C := RX9) (T := TX9) (N := 19) hx hb hts hin_X9 hown hK hP 0 rfl rfl 12 (by decide) hw_6 (fun _ h9 => h9) rfl dX9_parts_166 ?_
                          refine lv_iload hx hb dX9_parts_169 (lv_at hl 2 rfl) ?_
                          refine lv_aload_n hx hb dX9_parts_171 rfl (lv_at hl 4 rfl) ?_
                          refine va_get (D := (dC, dI)) (ci := 8) (v := .ref q_a0_prime) (C := RX9) (T := TX9) (N := 19) hx hb hts hin_X9 hown hK hP 0 rfl rfl 1 (by decide) hw_8 (fun _ h9 => h9) rfl dX9_parts_172 ?_
                          refine lv_iload hx hb dX9_parts_175 (lv_at hl 1 rfl) ?_
                          obtain ⟨hin_63, h⟩ := h
                          refine va_iald hx hb hK hP 1 0 rfl rfl hin_63 dX9_parts_177 ?_
                          refine lv_i2l hx hb dX9_parts_178 rfl ?_
                          refine lv_topl (fun y_64 e_y_64 => ?_)
                          replace h := h y_64 e_y_64
                          obtain ⟨hin_65, h⟩ := h
                          refine va_last hx hb hK hP hD hS 2 1 rfl rfl hin_65 dX9_parts_179 (fun H locs hP hD hS => ?_)
                          have hP : va_P (dC, dI) vwCl [(h_a0, .inr (8, [.int a0_primes, .ref q_a0_prime, w_a0_isNone, .int a0_hasSpan, .long a0_spanFrom, .int a0_spanMany, w_a0_least, w_a0_greatest, w_a0_isSquared, .int a0_hasPart, .long a0_parted, .int a0_partMany, .ref q_a0_partPrime, .ref q_a0_partPower, .int a0_rows, w_a0_row, .long a0_foundLeast_24_0, .long y_48, .int (0 : Int32)])), (q_a0_prime, .inl (cI, 9592, .inl a0_prime)), (q_a0_partPrime, .inl (cJ, 16, .inr (.inl (vp_updL a0_partPrime_24_0 l6_24_0.toNatClampNeg y_64)))), (q_a0_partPower, .inl (cI, 16, .inl a0_partPower_24_0))] H := hP
                          have hD : va_D A [(h_a0, .inr (8, [.int a0_primes, .ref q_a0_prime, w_a0_isNone, .int a0_hasSpan, .long a0_spanFrom, .int a0_spanMany, w_a0_least, w_a0_greatest, w_a0_isSquared, .int a0_hasPart, .long a0_parted, .int a0_partMany, .ref q_a0_partPrime, .ref q_a0_partPower, .int a0_rows, w_a0_row, .long a0_foundLeast_24_0, .long y_48, .int (0 : Int32)])), (q_a0_prime, .inl (cI, 9592, .inl a0_prime)), (q_a0_partPrime, .inl (cJ, 16, .inr (.inl (vp_updL a0_partPrime_24_0 l6_24_0.toNatClampNeg y_64)))), (q_a0_partPower, .inl (cI, 16, .inl a0_partPower_24_0))] := hD
                          refine lv_aload_n hx hb dX9_parts_180 rfl (lv_at hl 4 rfl) ?_
                          refine va_get (D := (dC, dI)) (ci := 8) (v := .ref q_a0_partPower) (C := RX9) (T := TX9) (N := 19) hx hb hts hin_X9 hown hK hP 0 rfl rfl 13 (by decide) hw_7 (fun _ h9 => h9) rfl dX9_parts_181 ?_
                          refine lv_iload hx hb dX9_parts_184 (lv_at hl 2 rfl) ?_
                          refine lv_iload hx hb dX9_parts_186 (lv_at hl 0 rfl) ?_
                          obtain ⟨hin_66, h⟩ := h
                          refine va_iast hx hb hK hP hD hS 3 0 rfl rfl hin_66 dX9_parts_188 (fun H locs hP hD hS => ?_)
                          have hP : va_P (dC, dI) vwCl [(h_a0, .inr (8, [.int a0_primes, .ref q_a0_prime, w_a0_isNone, .int a0_hasSpan, .long a0_spanFrom, .int a0_spanMany, w_a0_least, w_a0_greatest, w_a0_isSquared, .int a0_hasPart, .long a0_parted, .int a0_partMany, .ref q_a0_partPrime, .ref q_a0_partPower, .int a0_rows, w_a0_row, .long a0_foundLeast_24_0, .long y_48, .int (0 : Int32)])), (q_a0_prime, .inl (cI, 9592, .inl a0_prime)), (q_a0_partPrime, .inl (cJ, 16, .inr (.inl (vp_updL a0_partPrime_24_0 l6_24_0.toNatClampNeg y_64)))), (q_a0_partPower, .inl (cI, 16, .inl (upd a0_partPower_24_0 l6_24_0.toNatClampNeg l8_59_39)))] H := hP
                          have hD : va_D A [(h_a0, .inr (8, [.int a0_primes, .ref q_a0_prime, w_a0_isNone, .int a0_hasSpan, .long a0_spanFrom, .int a0_spanMany, w_a0_least, w_a0_greatest, w_a0_isSquared, .int a0_hasPart, .long a0_parted, .int a0_partMany, .ref q_a0_partPrime, .ref q_a0_partPower, .int a0_rows, w_a0_row, .long a0_foundLeast_24_0, .long y_48, .int (0 : Int32)])), (q_a0_prime, .inl (cI, 9592, .inl a0_prime)), (q_a0_partPrime, .inl (cJ, 16, .inr (.inl (vp_updL a0_partPrime_24_0 l6_24_0.toNatClampNeg y_64)))), (q_a0_partPower, .inl (cI, 16, .inl (upd a0_partPower_24_0 l6_24_0.toNatClampNeg l8_59_39)))] := hD
                          obtain ⟨x6_67, e_x6_67⟩ : ∃ y : Int32, y = l6_24_0 + (1 : Int32) := ⟨_, rfl⟩
                          replace h := h x6_67 e_x6_67
                          refine lv_iinc (v := x6_67) (lv' := [(6, .int x6_67), (8, .int l8_59_39), (7, .int l7_24_0), (4, .long l4_59_39), (0, .ref h_a0), (3, .int p2)]) hx hb dX9_parts_189 hl (k := 2) rfl (by rw [e_x6_67]; rfl) (by decide) rfl (fun ls hl => ?_)
                          obtain ⟨x7_68, e_x7_68⟩ : ∃ y : Int32, y = l7_24_0 + (1 : Int32) := ⟨_, rfl⟩
                          replace h := h x7_68 e_x7_68
                          refine lv_iinc (v := x7_68) (lv' := [(7, .int x7_68), (6, .int x6_67), (8, .int l8_59_39), (4, .long l4_59_39), (0, .ref h_a0), (3, .int p2)]) hx hb dX9_parts_192 hl (k := 2) rfl (by rw [e_x7_68]; rfl) (by decide) rfl (fun ls hl => ?_)
                          refine lv_goto (tgt := 24) hx hb dX9_parts_195 (by decide) ?_
                          exact ih_24_0 x7_68 x6_67 l4_59_39 a0_foundLeast_24_0 y_48 (0 : Int32) (vp_updL a0_partPrime_24_0 l6_24_0.toNatClampNeg y_64) (upd a0_partPower_24_0 l6_24_0.toNatClampNeg l8_59_39) (Nat.lt_of_lt_of_le h.2 (Nat.le_of_lt_succ hm_24_0)) h.1 _ _ _ (lv_sub hl [0, 1, 3, 4, 5] rfl) (hP.sub [0, 1, 2, 3] rfl) (hD.sub [0, 1, 2, 3] (by decide) rfl) hS
                      · replace h := h.2 c_59
                        refine lv_iconst (v := (1 : Int32)) hx hb dX9_parts_153 (by decide) ?_
                        refine lv_goto (tgt := 158) hx hb dX9_parts_154 (by decide) ?_
                        refine va_put (D := (dC, dI)) (ci := 8) (v := .int (1 : Int32)) (ty := .boolean) (C := RX9) (T := TX9) (N := 19) hx hb hts hin_X9 tyX9 tyX9_ok nmX9 hown hK hP hD hS 0 rfl rfl 18 (by decide) hw_3 (fun _ h9 => h9) rfl (by decide +kernel) rfl rfl (Nat.le_of_ble_eq_true rfl) dX9_parts_158 (fun H locs hP hD hS => ?_)
                        have hP : va_P (dC, dI) vwCl [(h_a0, .inr (8, [.int a0_primes, .ref q_a0_prime, w_a0_isNone, .int a0_hasSpan, .long a0_spanFrom, .int a0_spanMany, w_a0_least, w_a0_greatest, w_a0_isSquared, .int a0_hasPart, .long a0_parted, .int a0_partMany, .ref q_a0_partPrime, .ref q_a0_partPower, .int a0_rows, w_a0_row, .long a0_foundLeast_24_0, .long y_48, .int (1 : Int32)])), (q_a0_prime, .inl (cI, 9592, .inl a0_prime)), (q_a0_partPrime, .inl (cJ, 16, .inr (.inl a0_partPrime_24_0))), (q_a0_partPower, .inl (cI, 16, .inl a0_partPower_24_0))] H := hP
                        have hD : va_D A [(h_a0, .inr (8, [.int a0_primes, .ref q_a0_prime, w_a0_isNone, .int a0_hasSpan, .long a0_spanFrom, .int a0_spanMany, w_a0_least, w_a0_greatest, w_a0_isSquared, .int a0_hasPart, .long a0_parted, .int a0_partMany, .ref q_a0_partPrime, .ref q_a0_partPower, .int a0_rows, w_a0_row, .long a0_foundLeast_24_0, .long y_48, .int (1 : Int32)])), (q_a0_prime, .inl (cI, 9592, .inl a0_prime)), (q_a0_partPrime, .inl (cJ, 16, .inr (.inl a0_partPrime_24_0))), (q_a0_partPower, .inl (cI, 16, .inl a0_partPower_24_0))] := hD
                        refine lv_iload_n hx hb dX9_parts_161 rfl (lv_at hl 5 rfl) ?_
                        refine lv_if_eq (tgt := 189) hx hb dX9_parts_162 (by decide) (fun c_69 => ?_) (fun c_69 => ?_)
                        · replace h := h.1 c_69
                          obtain ⟨x6_70, e_x6_70⟩ : ∃ y : Int32, y = l6_24_0 + (1 : Int32) := ⟨_, rfl⟩
                          replace h := h x6_70 e_x6_70
                          refine lv_iinc (v := x6_70) (lv' := [(6, .int x6_70), (8, .int l8_59_39), (7, .int l7_24_0), (4, .long l4_59_39), (0, .ref h_a0), (3, .int p2)]) hx hb dX9_parts_189 hl (k := 2) rfl (by rw [e_x6_70]; rfl) (by decide) rfl (fun ls hl => ?_)
                          obtain ⟨x7_71, e_x7_71⟩ : ∃ y : Int32, y = l7_24_0 + (1 : Int32) := ⟨_, rfl⟩
                          replace h := h x7_71 e_x7_71
                          refine lv_iinc (v := x7_71) (lv' := [(7, .int x7_71), (6, .int x6_70), (8, .int l8_59_39), (4, .long l4_59_39), (0, .ref h_a0), (3, .int p2)]) hx hb dX9_parts_192 hl (k := 2) rfl (by rw [e_x7_71]; rfl) (by decide) rfl (fun ls hl => ?_)
                          refine lv_goto (tgt := 24) hx hb dX9_parts_195 (by decide) ?_
                          exact ih_24_0 x7_71 x6_70 l4_59_39 a0_foundLeast_24_0 y_48 (1 : Int32) a0_partPrime_24_0 a0_partPower_24_0 (Nat.lt_of_lt_of_le h.2 (Nat.le_of_lt_succ hm_24_0)) h.1 _ _ _ (lv_sub hl [0, 1, 3, 4, 5] rfl) (hP.sub [0, 1, 2, 3] rfl) (hD.sub [0, 1, 2, 3] (by decide) rfl) hS
                        · replace h := h.2 c_69
                          refine lv_aload_n hx hb dX9_parts_165 rfl (lv_at hl 4 rfl) ?_
                          refine va_get (D := (dC, dI)) (ci := 8) (v := .ref q_a0_partPrime) (C := RX9) (T := TX9) (N := 19) hx hb hts hin_X9 hown hK hP 0 rfl rfl 12 (by decide) hw_6 (fun _ h9 => h9) rfl dX9_parts_166 ?_
                          refine lv_iload hx hb dX9_parts_169 (lv_at hl 2 rfl) ?_
                          refine lv_aload_n hx hb dX9_parts_171 rfl (lv_at hl 4 rfl) ?_
                          refine va_get (D := (dC, dI)) (ci := 8) (v := .ref q_a0_prime) (C := RX9) (T := TX9) (N := 19) hx hb hts hin_X9 hown hK hP 0 rfl rfl 1 (by decide) hw_8 (fun _ h9 => h9) rfl dX9_parts_172 ?_
                          refine lv_iload hx hb dX9_parts_175 (lv_at hl 1 rfl) ?_
                          obtain ⟨hin_72, h⟩ := h
                          refine va_iald hx hb hK hP 1 0 rfl rfl hin_72 dX9_parts_177 ?_
                          refine lv_i2l hx hb dX9_parts_178 rfl ?_
                          refine lv_topl (fun y_73 e_y_73 => ?_)
                          replace h := h y_73 e_y_73
                          obtain ⟨hin_74, h⟩ := h
                          refine va_last hx hb hK hP hD hS 2 1 rfl rfl hin_74 dX9_parts_179 (fun H locs hP hD hS => ?_)
                          have hP : va_P (dC, dI) vwCl [(h_a0, .inr (8, [.int a0_primes, .ref q_a0_prime, w_a0_isNone, .int a0_hasSpan, .long a0_spanFrom, .int a0_spanMany, w_a0_least, w_a0_greatest, w_a0_isSquared, .int a0_hasPart, .long a0_parted, .int a0_partMany, .ref q_a0_partPrime, .ref q_a0_partPower, .int a0_rows, w_a0_row, .long a0_foundLeast_24_0, .long y_48, .int (1 : Int32)])), (q_a0_prime, .inl (cI, 9592, .inl a0_prime)), (q_a0_partPrime, .inl (cJ, 16, .inr (.inl (vp_updL a0_partPrime_24_0 l6_24_0.toNatClampNeg y_73)))), (q_a0_partPower, .inl (cI, 16, .inl a0_partPower_24_0))] H := hP
                          have hD : va_D A [(h_a0, .inr (8, [.int a0_primes, .ref q_a0_prime, w_a0_isNone, .int a0_hasSpan, .long a0_spanFrom, .int a0_spanMany, w_a0_least, w_a0_greatest, w_a0_isSquared, .int a0_hasPart, .long a0_parted, .int a0_partMany, .ref q_a0_partPrime, .ref q_a0_partPower, .int a0_rows, w_a0_row, .long a0_foundLeast_24_0, .long y_48, .int (1 : Int32)])), (q_a0_prime, .inl (cI, 9592, .inl a0_prime)), (q_a0_partPrime, .inl (cJ, 16, .inr (.inl (vp_updL a0_partPrime_24_0 l6_24_0.toNatClampNeg y_73)))), (q_a0_partPower, .inl (cI, 16, .inl a0_partPower_24_0))] := hD
                          refine lv_aload_n hx hb dX9_parts_180 rfl (lv_at hl 4 rfl) ?_
                          refine va_get (D := (dC, dI)) (ci := 8) (v := .ref q_a0_partPower) (C := RX9) (T := TX9) (N := 19) hx hb hts hin_X9 hown hK hP 0 rfl rfl 13 (by decide) hw_7 (fun _ h9 => h9) rfl dX9_parts_181 ?_
                          refine lv_iload hx hb dX9_parts_184 (lv_at hl 2 rfl) ?_
                          refine lv_iload hx hb dX9_parts_186 (lv_at hl 0 rfl) ?_
                          obtain ⟨hin_75, h⟩ := h
                          refine va_iast hx hb hK hP hD hS 3 0 rfl rfl hin_75 dX9_parts_188 (fun H locs hP hD hS => ?_)
                          have hP : va_P (dC, dI) vwCl [(h_a0, .inr (8, [.int a0_primes, .ref q_a0_prime, w_a0_isNone, .int a0_hasSpan, .long a0_spanFrom, .int a0_spanMany, w_a0_least, w_a0_greatest, w_a0_isSquared, .int a0_hasPart, .long a0_parted, .int a0_partMany, .ref q_a0_partPrime, .ref q_a0_partPower, .int a0_rows, w_a0_row, .long a0_foundLeast_24_0, .long y_48, .int (1 : Int32)])), (q_a0_prime, .inl (cI, 9592, .inl a0_prime)), (q_a0_partPrime, .inl (cJ, 16, .inr (.inl (vp_updL a0_partPrime_24_0 l6_24_0.toNatClampNeg y_73)))), (q_a0_partPower, .inl (cI, 16, .inl (upd a0_partPower_24_0 l6_24_0.toNatClampNeg l8_59_39)))] H := hP
                          have hD : va_D A [(h_a0, .inr (8, [.int a0_primes, .ref q_a0_prime, w_a0_isNone, .int a0_hasSpan, .long a0_spanFrom, .int a0_spanMany, w_a0_least, w_a0_greatest, w_a0_isSquared, .int a0_hasPart, .long a0_parted, .int a0_partMany, .ref q_a0_partPrime, .ref q_a0_partPower, .int a0_rows, w_a0_row, .long a0_foundLeast_24_0, .long y_48, .int (1 : Int32)])), (q_a0_prime, .inl (cI, 9592, .inl a0_prime)), (q_a0_partPrime, .inl (cJ, 16, .inr (.inl (vp_updL a0_partPrime_24_0 l6_24_0.toNatClampNeg y_73)))), (q_a0_partPower, .inl (cI, 16, .inl (upd a0_partPower_24_0 l6_24_0.toNatClampNeg l8_59_39)))] := hD
                          obtain ⟨x6_76, e_x6_76⟩ : ∃ y : Int32, y = l6_24_0 + (1 : Int32) := ⟨_, rfl⟩
                          replace h := h x6_76 e_x6_76
                          refine lv_iinc (v := x6_76) (lv' := [(6, .int x6_76), (8, .int l8_59_39), (7, .int l7_24_0), (4, .long l4_59_39), (0, .ref h_a0), (3, .int p2)]) hx hb dX9_parts_189 hl (k := 2) rfl (by rw [e_x6_76]; rfl) (by decide) rfl (fun ls hl => ?_)
                          obtain ⟨x7_77, e_x7_77⟩ : ∃ y : Int32, y = l7_24_0 + (1 : Int32) := ⟨_, rfl⟩
                          replace h := h x7_77 e_x7_77
                          refine lv_iinc (v := x7_77) (lv' := [(7, .int x7_77), (6, .int x6_76), (8, .int l8_59_39), (4, .long l4_59_39), (0, .ref h_a0), (3, .int p2)]) hx hb dX9_parts_192 hl (k := 2) rfl (by rw [e_x7_77]; rfl) (by decide) rfl (fun ls hl => ?_)
                          refine lv_goto (tgt := 24) hx hb dX9_parts_195 (by decide) ?_
                          exact ih_24_0 x7_77 x6_76 l4_59_39 a0_foundLeast_24_0 y_48 (1 : Int32) (vp_updL a0_partPrime_24_0 l6_24_0.toNatClampNeg y_73) (upd a0_partPower_24_0 l6_24_0.toNatClampNeg l8_59_39) (Nat.lt_of_lt_of_le h.2 (Nat.le_of_lt_succ hm_24_0)) h.1 _ _ _ (lv_sub hl [0, 1, 3, 4, 5] rfl) (hP.sub [0, 1, 2, 3] rfl) (hD.sub [0, 1, 2, 3] (by decide) rfl) hS
                  · replace c_46 := (lg_cmp_eq _ _).mp c_46
                    replace h := h.1 c_46
                    refine lv_aload_n hx hb dX9_parts_109 rfl (lv_at hl 4 rfl) ?_
                    refine va_get (D := (dC, dI)) (ci := 8) (v := .ref q_a0_prime) (C := RX9) (T := TX9) (N := 19) hx hb hts hin_X9 hown hK hP 0 rfl rfl 1 (by decide) hw_8 (fun _ h9 => h9) rfl dX9_parts_110 ?_
                    refine lv_iload hx hb dX9_parts_113 (lv_at hl 1 rfl) ?_
                    obtain ⟨hin_78, h⟩ := h
                    refine va_iald hx hb hK hP 1 0 rfl rfl hin_78 dX9_parts_115 ?_
                    refine lv_i2l hx hb dX9_parts_116 rfl ?_
                    refine lv_goto (tgt := 124) hx hb dX9_parts_117 (by decide) ?_
                    refine lv_topl (fun y_79 e_y_79 => ?_)
                    replace h := h y_79 e_y_79
                    refine va_put (D := (dC, dI)) (ci := 8) (v := .long y_79) (ty := .long) (C := RX9) (T := TX9) (N := 19) hx hb hts hin_X9 tyX9 tyX9_ok nmX9 hown hK hP hD hS 0 rfl rfl 16 (by decide) hw_0 (fun _ h9 => h9) rfl (by decide +kernel) rfl rfl (Nat.le_of_ble_eq_true rfl) dX9_parts_124 (fun H locs hP hD hS => ?_)
                    have hP : va_P (dC, dI) vwCl [(h_a0, .inr (8, [.int a0_primes, .ref q_a0_prime, w_a0_isNone, .int a0_hasSpan, .long a0_spanFrom, .int a0_spanMany, w_a0_least, w_a0_greatest, w_a0_isSquared, .int a0_hasPart, .long a0_parted, .int a0_partMany, .ref q_a0_partPrime, .ref q_a0_partPower, .int a0_rows, w_a0_row, .long y_79, .long a0_foundGreatest_24_0, .int a0_foundSquare_24_0])), (q_a0_prime, .inl (cI, 9592, .inl a0_prime)), (q_a0_partPrime, .inl (cJ, 16, .inr (.inl a0_partPrime_24_0))), (q_a0_partPower, .inl (cI, 16, .inl a0_partPower_24_0))] H := hP
                    have hD : va_D A [(h_a0, .inr (8, [.int a0_primes, .ref q_a0_prime, w_a0_isNone, .int a0_hasSpan, .long a0_spanFrom, .int a0_spanMany, w_a0_least, w_a0_greatest, w_a0_isSquared, .int a0_hasPart, .long a0_parted, .int a0_partMany, .ref q_a0_partPrime, .ref q_a0_partPower, .int a0_rows, w_a0_row, .long y_79, .long a0_foundGreatest_24_0, .int a0_foundSquare_24_0])), (q_a0_prime, .inl (cI, 9592, .inl a0_prime)), (q_a0_partPrime, .inl (cJ, 16, .inr (.inl a0_partPrime_24_0))), (q_a0_partPower, .inl (cI, 16, .inl a0_partPower_24_0))] := hD
                    refine lv_aload_n hx hb dX9_parts_127 rfl (lv_at hl 4 rfl) ?_
                    refine lv_aload_n hx hb dX9_parts_128 rfl (lv_at hl 4 rfl) ?_
                    refine va_get (D := (dC, dI)) (ci := 8) (v := .ref q_a0_prime) (C := RX9) (T := TX9) (N := 19) hx hb hts hin_X9 hown hK hP 0 rfl rfl 1 (by decide) hw_8 (fun _ h9 => h9) rfl dX9_parts_129 ?_
                    refine lv_iload hx hb dX9_parts_132 (lv_at hl 1 rfl) ?_
                    obtain ⟨hin_80, h⟩ := h
                    refine va_iald hx hb hK hP 1 0 rfl rfl hin_80 dX9_parts_134 ?_
                    refine lv_i2l hx hb dX9_parts_135 rfl ?_
                    refine lv_topl (fun y_81 e_y_81 => ?_)
                    replace h := h y_81 e_y_81
                    refine va_put (D := (dC, dI)) (ci := 8) (v := .long y_81) (ty := .long) (C := RX9) (T := TX9) (N := 19) hx hb hts hin_X9 tyX9 tyX9_ok nmX9 hown hK hP hD hS 0 rfl rfl 17 (by decide) hw_2 (fun _ h9 => h9) rfl (by decide +kernel) rfl rfl (Nat.le_of_ble_eq_true rfl) dX9_parts_136 (fun H locs hP hD hS => ?_)
                    have hP : va_P (dC, dI) vwCl [(h_a0, .inr (8, [.int a0_primes, .ref q_a0_prime, w_a0_isNone, .int a0_hasSpan, .long a0_spanFrom, .int a0_spanMany, w_a0_least, w_a0_greatest, w_a0_isSquared, .int a0_hasPart, .long a0_parted, .int a0_partMany, .ref q_a0_partPrime, .ref q_a0_partPower, .int a0_rows, w_a0_row, .long y_79, .long y_81, .int a0_foundSquare_24_0])), (q_a0_prime, .inl (cI, 9592, .inl a0_prime)), (q_a0_partPrime, .inl (cJ, 16, .inr (.inl a0_partPrime_24_0))), (q_a0_partPower, .inl (cI, 16, .inl a0_partPower_24_0))] H := hP
                    have hD : va_D A [(h_a0, .inr (8, [.int a0_primes, .ref q_a0_prime, w_a0_isNone, .int a0_hasSpan, .long a0_spanFrom, .int a0_spanMany, w_a0_least, w_a0_greatest, w_a0_isSquared, .int a0_hasPart, .long a0_parted, .int a0_partMany, .ref q_a0_partPrime, .ref q_a0_partPower, .int a0_rows, w_a0_row, .long y_79, .long y_81, .int a0_foundSquare_24_0])), (q_a0_prime, .inl (cI, 9592, .inl a0_prime)), (q_a0_partPrime, .inl (cJ, 16, .inr (.inl a0_partPrime_24_0))), (q_a0_partPower, .inl (cI, 16, .inl a0_partPower_24_0))] := hD
                    refine lv_aload_n hx hb dX9_parts_139 rfl (lv_at hl 4 rfl) ?_
                    refine lv_aload_n hx hb dX9_parts_140 rfl (lv_at hl 4 rfl) ?_
                    refine va_get (D := (dC, dI)) (ci := 8) (v := .int a0_foundSquare_24_0) (C := RX9) (T := TX9) (N := 19) hx hb hts hin_X9 hown hK hP 0 rfl rfl 18 (by decide) hw_3 (fun _ h9 => h9) rfl dX9_parts_141 ?_
                    refine lv_if_ne (tgt := 153) hx hb dX9_parts_144 (by decide) (fun c_82 => ?_) (fun c_82 => ?_)
                    · replace h := h.2 c_82
                      refine lv_iconst (v := (1 : Int32)) hx hb dX9_parts_153 (by decide) ?_
                      refine lv_goto (tgt := 158) hx hb dX9_parts_154 (by decide) ?_
                      refine va_put (D := (dC, dI)) (ci := 8) (v := .int (1 : Int32)) (ty := .boolean) (C := RX9) (T := TX9) (N := 19) hx hb hts hin_X9 tyX9 tyX9_ok nmX9 hown hK hP hD hS 0 rfl rfl 18 (by decide) hw_3 (fun _ h9 => h9) rfl (by decide +kernel) rfl rfl (Nat.le_of_ble_eq_true rfl) dX9_parts_158 (fun H locs hP hD hS => ?_)
                      have hP : va_P (dC, dI) vwCl [(h_a0, .inr (8, [.int a0_primes, .ref q_a0_prime, w_a0_isNone, .int a0_hasSpan, .long a0_spanFrom, .int a0_spanMany, w_a0_least, w_a0_greatest, w_a0_isSquared, .int a0_hasPart, .long a0_parted, .int a0_partMany, .ref q_a0_partPrime, .ref q_a0_partPower, .int a0_rows, w_a0_row, .long y_79, .long y_81, .int (1 : Int32)])), (q_a0_prime, .inl (cI, 9592, .inl a0_prime)), (q_a0_partPrime, .inl (cJ, 16, .inr (.inl a0_partPrime_24_0))), (q_a0_partPower, .inl (cI, 16, .inl a0_partPower_24_0))] H := hP
                      have hD : va_D A [(h_a0, .inr (8, [.int a0_primes, .ref q_a0_prime, w_a0_isNone, .int a0_hasSpan, .long a0_spanFrom, .int a0_spanMany, w_a0_least, w_a0_greatest, w_a0_isSquared, .int a0_hasPart, .long a0_parted, .int a0_partMany, .ref q_a0_partPrime, .ref q_a0_partPower, .int a0_rows, w_a0_row, .long y_79, .long y_81, .int (1 : Int32)])), (q_a0_prime, .inl (cI, 9592, .inl a0_prime)), (q_a0_partPrime, .inl (cJ, 16, .inr (.inl a0_partPrime_24_0))), (q_a0_partPower, .inl (cI, 16, .inl a0_partPower_24_0))] := hD
                      refine lv_iload_n hx hb dX9_parts_161 rfl (lv_at hl 5 rfl) ?_
                      refine lv_if_eq (tgt := 189) hx hb dX9_parts_162 (by decide) (fun c_83 => ?_) (fun c_83 => ?_)
                      · replace h := h.1 c_83
                        obtain ⟨x6_84, e_x6_84⟩ : ∃ y : Int32, y = l6_24_0 + (1 : Int32) := ⟨_, rfl⟩
                        replace h := h x6_84 e_x6_84
                        refine lv_iinc (v := x6_84) (lv' := [(6, .int x6_84), (8, .int l8_59_39), (7, .int l7_24_0), (4, .long l4_59_39), (0, .ref h_a0), (3, .int p2)]) hx hb dX9_parts_189 hl (k := 2) rfl (by rw [e_x6_84]; rfl) (by decide) rfl (fun ls hl => ?_)
                        obtain ⟨x7_85, e_x7_85⟩ : ∃ y : Int32, y = l7_24_0 + (1 : Int32) := ⟨_, rfl⟩
                        replace h := h x7_85 e_x7_85
                        refine lv_iinc (v := x7_85) (lv' := [(7, .int x7_85), (6, .int x6_84), (8, .int l8_59_39), (4, .long l4_59_39), (0, .ref h_a0), (3, .int p2)]) hx hb dX9_parts_192 hl (k := 2) rfl (by rw [e_x7_85]; rfl) (by decide) rfl (fun ls hl => ?_)
                        refine lv_goto (tgt := 24) hx hb dX9_parts_195 (by decide) ?_
                        exact ih_24_0 x7_85 x6_84 l4_59_39 y_79 y_81 (1 : Int32) a0_partPrime_24_0 a0_partPower_24_0 (Nat.lt_of_lt_of_le h.2 (Nat.le_of_lt_succ hm_24_0)) h.1 _ _ _ (lv_sub hl [0, 1, 3, 4, 5] rfl) (hP.sub [0, 1, 2, 3] rfl) (hD.sub [0, 1, 2, 3] (by decide) rfl) hS
                      · replace h := h.2 c_83
                        refine lv_aload_n hx hb dX9_parts_165 rfl (lv_at hl 4 rfl) ?_
                        refine va_get (D := (dC, dI)) (ci := 8) (v := .ref q_a0_partPrime) (C := RX9) (T := TX9) (N := 19) hx hb hts hin_X9 hown hK hP 0 rfl rfl 12 (by decide) hw_6 (fun _ h9 => h9) rfl dX9_parts_166 ?_
                        refine lv_iload hx hb dX9_parts_169 (lv_at hl 2 rfl) ?_
                        refine lv_aload_n hx hb dX9_parts_171 rfl (lv_at hl 4 rfl) ?_
                        refine va_get (D := (dC, dI)) (ci := 8) (v := .ref q_a0_prime) (C := RX9) (T := TX9) (N := 19) hx hb hts hin_X9 hown hK hP 0 rfl rfl 1 (by decide) hw_8 (fun _ h9 => h9) rfl dX9_parts_172 ?_
                        refine lv_iload hx hb dX9_parts_175 (lv_at hl 1 rfl) ?_
                        obtain ⟨hin_86, h⟩ := h
                        refine va_iald hx hb hK hP 1 0 rfl rfl hin_86 dX9_parts_177 ?_
                        refine lv_i2l hx hb dX9_parts_178 rfl ?_
                        refine lv_topl (fun y_87 e_y_87 => ?_)
                        replace h := h y_87 e_y_87
                        obtain ⟨hin_88, h⟩ := h
                        refine va_last hx hb hK hP hD hS 2 1 rfl rfl hin_88 dX9_parts_179 (fun H locs hP hD hS => ?_)
                        have hP : va_P (dC, dI) vwCl [(h_a0, .inr (8, [.int a0_primes, .ref q_a0_prime, w_a0_isNone, .int a0_hasSpan, .long a0_spanFrom, .int a0_spanMany, w_a0_least, w_a0_greatest, w_a0_isSquared, .int a0_hasPart, .long a0_parted, .int a0_partMany, .ref q_a0_partPrime, .ref q_a0_partPower, .int a0_rows, w_a0_row, .long y_79, .long y_81, .int (1 : Int32)])), (q_a0_prime, .inl (cI, 9592, .inl a0_prime)), (q_a0_partPrime, .inl (cJ, 16, .inr (.inl (vp_updL a0_partPrime_24_0 l6_24_0.toNatClampNeg y_87)))), (q_a0_partPower, .inl (cI, 16, .inl a0_partPower_24_0))] H := hP
                        have hD : va_D A [(h_a0, .inr (8, [.int a0_primes, .ref q_a0_prime, w_a0_isNone, .int a0_hasSpan, .long a0_spanFrom, .int a0_spanMany, w_a0_least, w_a0_greatest, w_a0_isSquared, .int a0_hasPart, .long a0_parted, .int a0_partMany, .ref q_a0_partPrime, .ref q_a0_partPower, .int a0_rows, w_a0_row, .long y_79, .long y_81, .int (1 : Int32)])), (q_a0_prime, .inl (cI, 9592, .inl a0_prime)), (q_a0_partPrime, .inl (cJ, 16, .inr (.inl (vp_updL a0_partPrime_24_0 l6_24_0.toNatClampNeg y_87)))), (q_a0_partPower, .inl (cI, 16, .inl a0_partPower_24_0))] := hD
                        refine lv_aload_n hx hb dX9_parts_180 rfl (lv_at hl 4 rfl) ?_
                        refine va_get (D := (dC, dI)) (ci := 8) (v := .ref q_a0_partPower) (C := RX9) (T := TX9) (N := 19) hx hb hts hin_X9 hown hK hP 0 rfl rfl 13 (by decide) hw_7 (fun _ h9 => h9) rfl dX9_parts_181 ?_
                        refine lv_iload hx hb dX9_parts_184 (lv_at hl 2 rfl) ?_
                        refine lv_iload hx hb dX9_parts_186 (lv_at hl 0 rfl) ?_
                        obtain ⟨hin_89, h⟩ := h
                        refine va_iast hx hb hK hP hD hS 3 0 rfl rfl hin_89 dX9_parts_188 (fun H locs hP hD hS => ?_)
                        have hP : va_P (dC, dI) vwCl [(h_a0, .inr (8, [.int a0_primes, .ref q_a0_prime, w_a0_isNone, .int a0_hasSpan, .long a0_spanFrom, .int a0_spanMany, w_a0_least, w_a0_greatest, w_a0_isSquared, .int a0_hasPart, .long a0_parted, .int a0_partMany, .ref q_a0_partPrime, .ref q_a0_partPower, .int a0_rows, w_a0_row, .long y_79, .long y_81, .int (1 : Int32)])), (q_a0_prime, .inl (cI, 9592, .inl a0_prime)), (q_a0_partPrime, .inl (cJ, 16, .inr (.inl (vp_updL a0_partPrime_24_0 l6_24_0.toNatClampNeg y_87)))), (q_a0_partPower, .inl (cI, 16, .inl (upd a0_partPower_24_0 l6_24_0.toNatClampNeg l8_59_39)))] H := hP
                        have hD : va_D A [(h_a0, .inr (8, [.int a0_primes, .ref q_a0_prime, w_a0_isNone, .int a0_hasSpan, .long a0_spanFrom, .int a0_spanMany, w_a0_least, w_a0_greatest, w_a0_isSquared, .int a0_hasPart, .long a0_parted, .int a0_partMany, .ref q_a0_partPrime, .ref q_a0_partPower, .int a0_rows, w_a0_row, .long y_79, .long y_81, .int (1 : Int32)])), (q_a0_prime, .inl (cI, 9592, .inl a0_prime)), (q_a0_partPrime, .inl (cJ, 16, .inr (.inl (vp_updL a0_partPrime_24_0 l6_24_0.toNatClampNeg y_87)))), (q_a0_partPower, .inl (cI, 16, .inl (upd a0_partPower_24_0 l6_24_0.toNatClampNeg l8_59_39)))] := hD
                        obtain ⟨x6_90, e_x6_90⟩ : ∃ y : Int32, y = l6_24_0 + (1 : Int32) := ⟨_, rfl⟩
                        replace h := h x6_90 e_x6_90
                        refine lv_iinc (v := x6_90) (lv' := [(6, .int x6_90), (8, .int l8_59_39), (7, .int l7_24_0), (4, .long l4_59_39), (0, .ref h_a0), (3, .int p2)]) hx hb dX9_parts_189 hl (k := 2) rfl (by rw [e_x6_90]; rfl) (by decide) rfl (fun ls hl => ?_)
                        obtain ⟨x7_91, e_x7_91⟩ : ∃ y : Int32, y = l7_24_0 + (1 : Int32) := ⟨_, rfl⟩
                        replace h := h x7_91 e_x7_91
                        refine lv_iinc (v := x7_91) (lv' := [(7, .int x7_91), (6, .int x6_90), (8, .int l8_59_39), (4, .long l4_59_39), (0, .ref h_a0), (3, .int p2)]) hx hb dX9_parts_192 hl (k := 2) rfl (by rw [e_x7_91]; rfl) (by decide) rfl (fun ls hl => ?_)
                        refine lv_goto (tgt := 24) hx hb dX9_parts_195 (by decide) ?_
                        exact ih_24_0 x7_91 x6_90 l4_59_39 y_79 y_81 (1 : Int32) (vp_updL a0_partPrime_24_0 l6_24_0.toNatClampNeg y_87) (upd a0_partPower_24_0 l6_24_0.toNatClampNeg l8_59_39) (Nat.lt_of_lt_of_le h.2 (Nat.le_of_lt_succ hm_24_0)) h.1 _ _ _ (lv_sub hl [0, 1, 3, 4, 5] rfl) (hP.sub [0, 1, 2, 3] rfl) (hD.sub [0, 1, 2, 3] (by decide) rfl) hS
                    · replace h := h.1 c_82
                      refine lv_iload hx hb dX9_parts_147 (lv_at hl 0 rfl) ?_
                      refine lv_iconst (v := (1 : Int32)) hx hb dX9_parts_149 (by decide) ?_
                      refine lv_icmp_le (tgt := 157) hx hb dX9_parts_150 (by decide) (fun c_92 => ?_) (fun c_92 => ?_)
                      · replace h := h.1 c_92
                        refine lv_iconst (v := (0 : Int32)) hx hb dX9_parts_157 (by decide) ?_
                        refine va_put (D := (dC, dI)) (ci := 8) (v := .int (0 : Int32)) (ty := .boolean) (C := RX9) (T := TX9) (N := 19) hx hb hts hin_X9 tyX9 tyX9_ok nmX9 hown hK hP hD hS 0 rfl rfl 18 (by decide) hw_3 (fun _ h9 => h9) rfl (by decide +kernel) rfl rfl (Nat.le_of_ble_eq_true rfl) dX9_parts_158 (fun H locs hP hD hS => ?_)
                        have hP : va_P (dC, dI) vwCl [(h_a0, .inr (8, [.int a0_primes, .ref q_a0_prime, w_a0_isNone, .int a0_hasSpan, .long a0_spanFrom, .int a0_spanMany, w_a0_least, w_a0_greatest, w_a0_isSquared, .int a0_hasPart, .long a0_parted, .int a0_partMany, .ref q_a0_partPrime, .ref q_a0_partPower, .int a0_rows, w_a0_row, .long y_79, .long y_81, .int (0 : Int32)])), (q_a0_prime, .inl (cI, 9592, .inl a0_prime)), (q_a0_partPrime, .inl (cJ, 16, .inr (.inl a0_partPrime_24_0))), (q_a0_partPower, .inl (cI, 16, .inl a0_partPower_24_0))] H := hP
                        have hD : va_D A [(h_a0, .inr (8, [.int a0_primes, .ref q_a0_prime, w_a0_isNone, .int a0_hasSpan, .long a0_spanFrom, .int a0_spanMany, w_a0_least, w_a0_greatest, w_a0_isSquared, .int a0_hasPart, .long a0_parted, .int a0_partMany, .ref q_a0_partPrime, .ref q_a0_partPower, .int a0_rows, w_a0_row, .long y_79, .long y_81, .int (0 : Int32)])), (q_a0_prime, .inl (cI, 9592, .inl a0_prime)), (q_a0_partPrime, .inl (cJ, 16, .inr (.inl a0_partPrime_24_0))), (q_a0_partPower, .inl (cI, 16, .inl a0_partPower_24_0))] := hD
                        refine lv_iload_n hx hb dX9_parts_161 rfl (lv_at hl 5 rfl) ?_
                        refine lv_if_eq (tgt := 189) hx hb dX9_parts_162 (by decide) (fun c_93 => ?_) (fun c_93 => ?_)
                        · replace h := h.1 c_93
                          obtain ⟨x6_94, e_x6_94⟩ : ∃ y : Int32, y = l6_24_0 + (1 : Int32) := ⟨_, rfl⟩
                          replace h := h x6_94 e_x6_94
                          refine lv_iinc (v := x6_94) (lv' := [(6, .int x6_94), (8, .int l8_59_39), (7, .int l7_24_0), (4, .long l4_59_39), (0, .ref h_a0), (3, .int p2)]) hx hb dX9_parts_189 hl (k := 2) rfl (by rw [e_x6_94]; rfl) (by decide) rfl (fun ls hl => ?_)
                          obtain ⟨x7_95, e_x7_95⟩ : ∃ y : Int32, y = l7_24_0 + (1 : Int32) := ⟨_, rfl⟩
                          replace h := h x7_95 e_x7_95
                          refine lv_iinc (v := x7_95) (lv' := [(7, .int x7_95), (6, .int x6_94), (8, .int l8_59_39), (4, .long l4_59_39), (0, .ref h_a0), (3, .int p2)]) hx hb dX9_parts_192 hl (k := 2) rfl (by rw [e_x7_95]; rfl) (by decide) rfl (fun ls hl => ?_)
                          refine lv_goto (tgt := 24) hx hb dX9_parts_195 (by decide) ?_
                          exact ih_24_0 x7_95 x6_94 l4_59_39 y_79 y_81 (0 : Int32) a0_partPrime_24_0 a0_partPower_24_0 (Nat.lt_of_lt_of_le h.2 (Nat.le_of_lt_succ hm_24_0)) h.1 _ _ _ (lv_sub hl [0, 1, 3, 4, 5] rfl) (hP.sub [0, 1, 2, 3] rfl) (hD.sub [0, 1, 2, 3] (by decide) rfl) hS
                        · replace h := h.2 c_93
                          refine lv_aload_n hx hb dX9_parts_165 rfl (lv_at hl 4 rfl) ?_
                          refine va_get (D := (dC, dI)) (ci := 8) (v := .ref q_a0_partPrime) (C := RX9) (T := TX9) (N := 19) hx hb hts hin_X9 hown hK hP 0 rfl rfl 12 (by decide) hw_6 (fun _ h9 => h9) rfl dX9_parts_166 ?_
                          refine lv_iload hx hb dX9_parts_169 (lv_at hl 2 rfl) ?_
                          refine lv_aload_n hx hb dX9_parts_171 rfl (lv_at hl 4 rfl) ?_
                          refine va_get (D := (dC, dI)) (ci := 8) (v := .ref q_a0_prime) (C := RX9) (T := TX9) (N := 19) hx hb hts hin_X9 hown hK hP 0 rfl rfl 1 (by decide) hw_8 (fun _ h9 => h9) rfl dX9_parts_172 ?_
                          refine lv_iload hx hb dX9_parts_175 (lv_at hl 1 rfl) ?_
                          obtain ⟨hin_96, h⟩ := h
                          refine va_iald hx hb hK hP 1 0 rfl rfl hin_96 dX9_parts_177 ?_
                          refine lv_i2l hx hb dX9_parts_178 rfl ?_
                          refine lv_topl (fun y_97 e_y_97 => ?_)
                          replace h := h y_97 e_y_97
                          obtain ⟨hin_98, h⟩ := h
                          refine va_last hx hb hK hP hD hS 2 1 rfl rfl hin_98 dX9_parts_179 (fun H locs hP hD hS => ?_)
                          have hP : va_P (dC, dI) vwCl [(h_a0, .inr (8, [.int a0_primes, .ref q_a0_prime, w_a0_isNone, .int a0_hasSpan, .long a0_spanFrom, .int a0_spanMany, w_a0_least, w_a0_greatest, w_a0_isSquared, .int a0_hasPart, .long a0_parted, .int a0_partMany, .ref q_a0_partPrime, .ref q_a0_partPower, .int a0_rows, w_a0_row, .long y_79, .long y_81, .int (0 : Int32)])), (q_a0_prime, .inl (cI, 9592, .inl a0_prime)), (q_a0_partPrime, .inl (cJ, 16, .inr (.inl (vp_updL a0_partPrime_24_0 l6_24_0.toNatClampNeg y_97)))), (q_a0_partPower, .inl (cI, 16, .inl a0_partPower_24_0))] H := hP
                          have hD : va_D A [(h_a0, .inr (8, [.int a0_primes, .ref q_a0_prime, w_a0_isNone, .int a0_hasSpan, .long a0_spanFrom, .int a0_spanMany, w_a0_least, w_a0_greatest, w_a0_isSquared, .int a0_hasPart, .long a0_parted, .int a0_partMany, .ref q_a0_partPrime, .ref q_a0_partPower, .int a0_rows, w_a0_row, .long y_79, .long y_81, .int (0 : Int32)])), (q_a0_prime, .inl (cI, 9592, .inl a0_prime)), (q_a0_partPrime, .inl (cJ, 16, .inr (.inl (vp_updL a0_partPrime_24_0 l6_24_0.toNatClampNeg y_97)))), (q_a0_partPower, .inl (cI, 16, .inl a0_partPower_24_0))] := hD
                          refine lv_aload_n hx hb dX9_parts_180 rfl (lv_at hl 4 rfl) ?_
                          refine va_get (D := (dC, dI)) (ci := 8) (v := .ref q_a0_partPower) (C := RX9) (T := TX9) (N := 19) hx hb hts hin_X9 hown hK hP 0 rfl rfl 13 (by decide) hw_7 (fun _ h9 => h9) rfl dX9_parts_181 ?_
                          refine lv_iload hx hb dX9_parts_184 (lv_at hl 2 rfl) ?_
                          refine lv_iload hx hb dX9_parts_186 (lv_at hl 0 rfl) ?_
                          obtain ⟨hin_99, h⟩ := h
                          refine va_iast hx hb hK hP hD hS 3 0 rfl rfl hin_99 dX9_parts_188 (fun H locs hP hD hS => ?_)
                          have hP : va_P (dC, dI) vwCl [(h_a0, .inr (8, [.int a0_primes, .ref q_a0_prime, w_a0_isNone, .int a0_hasSpan, .long a0_spanFrom, .int a0_spanMany, w_a0_least, w_a0_greatest, w_a0_isSquared, .int a0_hasPart, .long a0_parted, .int a0_partMany, .ref q_a0_partPrime, .ref q_a0_partPower, .int a0_rows, w_a0_row, .long y_79, .long y_81, .int (0 : Int32)])), (q_a0_prime, .inl (cI, 9592, .inl a0_prime)), (q_a0_partPrime, .inl (cJ, 16, .inr (.inl (vp_updL a0_partPrime_24_0 l6_24_0.toNatClampNeg y_97)))), (q_a0_partPower, .inl (cI, 16, .inl (upd a0_partPower_24_0 l6_24_0.toNatClampNeg l8_59_39)))] H := hP
                          have hD : va_D A [(h_a0, .inr (8, [.int a0_primes, .ref q_a0_prime, w_a0_isNone, .int a0_hasSpan, .long a0_spanFrom, .int a0_spanMany, w_a0_least, w_a0_greatest, w_a0_isSquared, .int a0_hasPart, .long a0_parted, .int a0_partMany, .ref q_a0_partPrime, .ref q_a0_partPower, .int a0_rows, w_a0_row, .long y_79, .long y_81, .int (0 : Int32)])), (q_a0_prime, .inl (cI, 9592, .inl a0_prime)), (q_a0_partPrime, .inl (cJ, 16, .inr (.inl (vp_updL a0_partPrime_24_0 l6_24_0.toNatClampNeg y_97)))), (q_a0_partPower, .inl (cI, 16, .inl (upd a0_partPower_24_0 l6_24_0.toNatClampNeg l8_59_39)))] := hD
                          obtain ⟨x6_100, e_x6_100⟩ : ∃ y : Int32, y = l6_24_0 + (1 : Int32) := ⟨_, rfl⟩
                          replace h := h x6_100 e_x6_100
                          refine lv_iinc (v := x6_100) (lv' := [(6, .int x6_100), (8, .int l8_59_39), (7, .int l7_24_0), (4, .long l4_59_39), (0, .ref h_a0), (3, .int p2)]) hx hb dX9_parts_189 hl (k := 2) rfl (by rw [e_x6_100]; rfl) (by decide) rfl (fun ls hl => ?_)
                          obtain ⟨x7_101, e_x7_101⟩ : ∃ y : Int32, y = l7_24_0 + (1 : Int32) := ⟨_, rfl⟩
                          replace h := h x7_101 e_x7_101
                          refine lv_iinc (v := x7_101) (lv' := [(7, .int x7_101), (6, .int x6_100), (8, .int l8_59_39), (4, .long l4_59_39), (0, .ref h_a0), (3, .int p2)]) hx hb dX9_parts_192 hl (k := 2) rfl (by rw [e_x7_101]; rfl) (by decide) rfl (fun ls hl => ?_)
                          refine lv_goto (tgt := 24) hx hb dX9_parts_195 (by decide) ?_
                          exact ih_24_0 x7_101 x6_100 l4_59_39 y_79 y_81 (0 : Int32) (vp_updL a0_partPrime_24_0 l6_24_0.toNatClampNeg y_97) (upd a0_partPower_24_0 l6_24_0.toNatClampNeg l8_59_39) (Nat.lt_of_lt_of_le h.2 (Nat.le_of_lt_succ hm_24_0)) h.1 _ _ _ (lv_sub hl [0, 1, 3, 4, 5] rfl) (hP.sub [0, 1, 2, 3] rfl) (hD.sub [0, 1, 2, 3] (by decide) rfl) hS
                      · replace h := h.2 c_92
                        refine lv_iconst (v := (1 : Int32)) hx hb dX9_parts_153 (by decide) ?_
                        refine lv_goto (tgt := 158) hx hb dX9_parts_154 (by decide) ?_
                        refine va_put (D := (dC, dI)) (ci := 8) (v := .int (1 : Int32)) (ty := .boolean) (C := RX9) (T := TX9) (N := 19) hx hb hts hin_X9 tyX9 tyX9_ok nmX9 hown hK hP hD hS 0 rfl rfl 18 (by decide) hw_3 (fun _ h9 => h9) rfl (by decide +kernel) rfl rfl (Nat.le_of_ble_eq_true rfl) dX9_parts_158 (fun H locs hP hD hS => ?_)
                        have hP : va_P (dC, dI) vwCl [(h_a0, .inr (8, [.int a0_primes, .ref q_a0_prime, w_a0_isNone, .int a0_hasSpan, .long a0_spanFrom, .int a0_spanMany, w_a0_least, w_a0_greatest, w_a0_isSquared, .int a0_hasPart, .long a0_parted, .int a0_partMany, .ref q_a0_partPrime, .ref q_a0_partPower, .int a0_rows, w_a0_row, .long y_79, .long y_81, .int (1 : Int32)])), (q_a0_prime, .inl (cI, 9592, .inl a0_prime)), (q_a0_partPrime, .inl (cJ, 16, .inr (.inl a0_partPrime_24_0))), (q_a0_partPower, .inl (cI, 16, .inl a0_partPower_24_0))] H := hP
                        have hD : va_D A [(h_a0, .inr (8, [.int a0_primes, .ref q_a0_prime, w_a0_isNone, .int a0_hasSpan, .long a0_spanFrom, .int a0_spanMany, w_a0_least, w_a0_greatest, w_a0_isSquared, .int a0_hasPart, .long a0_parted, .int a0_partMany, .ref q_a0_partPrime, .ref q_a0_partPower, .int a0_rows, w_a0_row, .long y_79, .long y_81, .int (1 : Int32)])), (q_a0_prime, .inl (cI, 9592, .inl a0_prime)), (q_a0_partPrime, .inl (cJ, 16, .inr (.inl a0_partPrime_24_0))), (q_a0_partPower, .inl (cI, 16, .inl a0_partPower_24_0))] := hD
                        refine lv_iload_n hx hb dX9_parts_161 rfl (lv_at hl 5 rfl) ?_
                        refine lv_if_eq (tgt := 189) hx hb dX9_parts_162 (by decide) (fun c_102 => ?_) (fun c_102 => ?_)
                        · replace h := h.1 c_102
                          obtain ⟨x6_103, e_x6_103⟩ : ∃ y : Int32, y = l6_24_0 + (1 : Int32) := ⟨_, rfl⟩
                          replace h := h x6_103 e_x6_103
                          refine lv_iinc (v := x6_103) (lv' := [(6, .int x6_103), (8, .int l8_59_39), (7, .int l7_24_0), (4, .long l4_59_39), (0, .ref h_a0), (3, .int p2)]) hx hb dX9_parts_189 hl (k := 2) rfl (by rw [e_x6_103]; rfl) (by decide) rfl (fun ls hl => ?_)
                          obtain ⟨x7_104, e_x7_104⟩ : ∃ y : Int32, y = l7_24_0 + (1 : Int32) := ⟨_, rfl⟩
                          replace h := h x7_104 e_x7_104
                          refine lv_iinc (v := x7_104) (lv' := [(7, .int x7_104), (6, .int x6_103), (8, .int l8_59_39), (4, .long l4_59_39), (0, .ref h_a0), (3, .int p2)]) hx hb dX9_parts_192 hl (k := 2) rfl (by rw [e_x7_104]; rfl) (by decide) rfl (fun ls hl => ?_)
                          refine lv_goto (tgt := 24) hx hb dX9_parts_195 (by decide) ?_
                          exact ih_24_0 x7_104 x6_103 l4_59_39 y_79 y_81 (1 : Int32) a0_partPrime_24_0 a0_partPower_24_0 (Nat.lt_of_lt_of_le h.2 (Nat.le_of_lt_succ hm_24_0)) h.1 _ _ _ (lv_sub hl [0, 1, 3, 4, 5] rfl) (hP.sub [0, 1, 2, 3] rfl) (hD.sub [0, 1, 2, 3] (by decide) rfl) hS
                        · replace h := h.2 c_102
                          refine lv_aload_n hx hb dX9_parts_165 rfl (lv_at hl 4 rfl) ?_
                          refine va_get (D := (dC, dI)) (ci := 8) (v := .ref q_a0_partPrime) (C := RX9) (T := TX9) (N := 19) hx hb hts hin_X9 hown hK hP 0 rfl rfl 12 (by decide) hw_6 (fun _ h9 => h9) rfl dX9_parts_166 ?_
                          refine lv_iload hx hb dX9_parts_169 (lv_at hl 2 rfl) ?_
                          refine lv_aload_n hx hb dX9_parts_171 rfl (lv_at hl 4 rfl) ?_
                          refine va_get (D := (dC, dI)) (ci := 8) (v := .ref q_a0_prime) (C := RX9) (T := TX9) (N := 19) hx hb hts hin_X9 hown hK hP 0 rfl rfl 1 (by decide) hw_8 (fun _ h9 => h9) rfl dX9_parts_172 ?_
                          refine lv_iload hx hb dX9_parts_175 (lv_at hl 1 rfl) ?_
                          obtain ⟨hin_105, h⟩ := h
                          refine va_iald hx hb hK hP 1 0 rfl rfl hin_105 dX9_parts_177 ?_
                          refine lv_i2l hx hb dX9_parts_178 rfl ?_
                          refine lv_topl (fun y_106 e_y_106 => ?_)
                          replace h := h y_106 e_y_106
                          obtain ⟨hin_107, h⟩ := h
                          refine va_last hx hb hK hP hD hS 2 1 rfl rfl hin_107 dX9_parts_179 (fun H locs hP hD hS => ?_)
                          have hP : va_P (dC, dI) vwCl [(h_a0, .inr (8, [.int a0_primes, .ref q_a0_prime, w_a0_isNone, .int a0_hasSpan, .long a0_spanFrom, .int a0_spanMany, w_a0_least, w_a0_greatest, w_a0_isSquared, .int a0_hasPart, .long a0_parted, .int a0_partMany, .ref q_a0_partPrime, .ref q_a0_partPower, .int a0_rows, w_a0_row, .long y_79, .long y_81, .int (1 : Int32)])), (q_a0_prime, .inl (cI, 9592, .inl a0_prime)), (q_a0_partPrime, .inl (cJ, 16, .inr (.inl (vp_updL a0_partPrime_24_0 l6_24_0.toNatClampNeg y_106)))), (q_a0_partPower, .inl (cI, 16, .inl a0_partPower_24_0))] H := hP
                          have hD : va_D A [(h_a0, .inr (8, [.int a0_primes, .ref q_a0_prime, w_a0_isNone, .int a0_hasSpan, .long a0_spanFrom, .int a0_spanMany, w_a0_least, w_a0_greatest, w_a0_isSquared, .int a0_hasPart, .long a0_parted, .int a0_partMany, .ref q_a0_partPrime, .ref q_a0_partPower, .int a0_rows, w_a0_row, .long y_79, .long y_81, .int (1 : Int32)])), (q_a0_prime, .inl (cI, 9592, .inl a0_prime)), (q_a0_partPrime, .inl (cJ, 16, .inr (.inl (vp_updL a0_partPrime_24_0 l6_24_0.toNatClampNeg y_106)))), (q_a0_partPower, .inl (cI, 16, .inl a0_partPower_24_0))] := hD
                          refine lv_aload_n hx hb dX9_parts_180 rfl (lv_at hl 4 rfl) ?_
                          refine va_get (D := (dC, dI)) (ci := 8) (v := .ref q_a0_partPower) (C := RX9) (T := TX9) (N := 19) hx hb hts hin_X9 hown hK hP 0 rfl rfl 13 (by decide) hw_7 (fun _ h9 => h9) rfl dX9_parts_181 ?_
                          refine lv_iload hx hb dX9_parts_184 (lv_at hl 2 rfl) ?_
                          refine lv_iload hx hb dX9_parts_186 (lv_at hl 0 rfl) ?_
                          obtain ⟨hin_108, h⟩ := h
                          refine va_iast hx hb hK hP hD hS 3 0 rfl rfl hin_108 dX9_parts_188 (fun H locs hP hD hS => ?_)
                          have hP : va_P (dC, dI) vwCl [(h_a0, .inr (8, [.int a0_primes, .ref q_a0_prime, w_a0_isNone, .int a0_hasSpan, .long a0_spanFrom, .int a0_spanMany, w_a0_least, w_a0_greatest, w_a0_isSquared, .int a0_hasPart, .long a0_parted, .int a0_partMany, .ref q_a0_partPrime, .ref q_a0_partPower, .int a0_rows, w_a0_row, .long y_79, .long y_81, .int (1 : Int32)])), (q_a0_prime, .inl (cI, 9592, .inl a0_prime)), (q_a0_partPrime, .inl (cJ, 16, .inr (.inl (vp_updL a0_partPrime_24_0 l6_24_0.toNatClampNeg y_106)))), (q_a0_partPower, .inl (cI, 16, .inl (upd a0_partPower_24_0 l6_24_0.toNatClampNeg l8_59_39)))] H := hP
                          have hD : va_D A [(h_a0, .inr (8, [.int a0_primes, .ref q_a0_prime, w_a0_isNone, .int a0_hasSpan, .long a0_spanFrom, .int a0_spanMany, w_a0_least, w_a0_greatest, w_a0_isSquared, .int a0_hasPart, .long a0_parted, .int a0_partMany, .ref q_a0_partPrime, .ref q_a0_partPower, .int a0_rows, w_a0_row, .long y_79, .long y_81, .int (1 : Int32)])), (q_a0_prime, .inl (cI, 9592, .inl a0_prime)), (q_a0_partPrime, .inl (cJ, 16, .inr (.inl (vp_updL a0_partPrime_24_0 l6_24_0.toNatClampNeg y_106)))), (q_a0_partPower, .inl (cI, 16, .inl (upd a0_partPower_24_0 l6_24_0.toNatClampNeg l8_59_39)))] := hD
                          obtain ⟨x6_109, e_x6_109⟩ : ∃ y : Int32, y = l6_24_0 + (1 : Int32) := ⟨_, rfl⟩
                          replace h := h x6_109 e_x6_109
                          refine lv_iinc (v := x6_109) (lv' := [(6, .int x6_109), (8, .int l8_59_39), (7, .int l7_24_0), (4, .long l4_59_39), (0, .ref h_a0), (3, .int p2)]) hx hb dX9_parts_189 hl (k := 2) rfl (by rw [e_x6_109]; rfl) (by decide) rfl (fun ls hl => ?_)
                          obtain ⟨x7_110, e_x7_110⟩ : ∃ y : Int32, y = l7_24_0 + (1 : Int32) := ⟨_, rfl⟩
                          replace h := h x7_110 e_x7_110
                          refine lv_iinc (v := x7_110) (lv' := [(7, .int x7_110), (6, .int x6_109), (8, .int l8_59_39), (4, .long l4_59_39), (0, .ref h_a0), (3, .int p2)]) hx hb dX9_parts_192 hl (k := 2) rfl (by rw [e_x7_110]; rfl) (by decide) rfl (fun ls hl => ?_)
                          refine lv_goto (tgt := 24) hx hb dX9_parts_195 (by decide) ?_
                          exact ih_24_0 x7_110 x6_109 l4_59_39 y_79 y_81 (1 : Int32) (vp_updL a0_partPrime_24_0 l6_24_0.toNatClampNeg y_106) (upd a0_partPower_24_0 l6_24_0.toNatClampNeg l8_59_39) (Nat.lt_of_lt_of_le h.2 (Nat.le_of_lt_succ hm_24_0)) h.1 _ _ _ (lv_sub hl [0, 1, 3, 4, 5] rfl) (hP.sub [0, 1, 2, 3] rfl) (hD.sub [0, 1, 2, 3] (by decide) rfl) hS
              · replace c_43 := (lg_cmp_eq _ _).mp c_43
                replace h := h.1 c_43
                refine lv_lload hx hb dX9_parts_75 (lv_at hl 3 rfl) ?_
                refine lv_aload_n hx hb dX9_parts_77 rfl (lv_at hl 4 rfl) ?_
                refine va_get (D := (dC, dI)) (ci := 8) (v := .ref q_a0_prime) (C := RX9) (T := TX9) (N := 19) hx hb hts hin_X9 hown hK hP 0 rfl rfl 1 (by decide) hw_8 (fun _ h9 => h9) rfl dX9_parts_78 ?_
                refine lv_iload hx hb dX9_parts_81 (lv_at hl 1 rfl) ?_
                obtain ⟨hin_111, h⟩ := h
                refine va_iald hx hb hK hP 1 0 rfl rfl hin_111 dX9_parts_83 ?_
                refine lv_i2l hx hb dX9_parts_84 rfl ?_
                obtain ⟨hne_112, h⟩ := h
                refine lv_ldiv hx hb dX9_parts_85 hne_112 ?_
                refine lv_topl (fun x4_113 e_x4_113 => ?_)
                replace h := h x4_113 e_x4_113
                refine lv_lstore (lv' := [(4, .long x4_113), (8, .int l8_59_39), (7, .int l7_24_0), (6, .int l6_24_0), (0, .ref h_a0), (3, .int p2)]) hx hb dX9_parts_86 hl (by decide) rfl (fun ls hl => ?_)
                obtain ⟨x8_114, e_x8_114⟩ : ∃ y : Int32, y = l8_59_39 + (1 : Int32) := ⟨_, rfl⟩
                replace h := h x8_114 e_x8_114
                refine lv_iinc (v := x8_114) (lv' := [(8, .int x8_114), (4, .long x4_113), (7, .int l7_24_0), (6, .int l6_24_0), (0, .ref h_a0), (3, .int p2)]) hx hb dX9_parts_88 hl (k := 1) rfl (by rw [e_x8_114]; rfl) (by decide) rfl (fun ls hl => ?_)
                refine lv_goto (tgt := 59) hx hb dX9_parts_91 (by decide) ?_
                exact ih_59_39 x8_114 x4_113 (Nat.lt_of_lt_of_le h.2 (Nat.le_of_lt_succ hm_59_39)) h.1 _ _ _ (lv_sub hl [0, 2, 3, 1, 4, 5] rfl) (hP.sub [0, 1, 2, 3] rfl) (hD.sub [0, 1, 2, 3] (by decide) rfl) hS
          exact key_59_39 _ (0 : Int32) l4_24_0 (Nat.lt_succ_self _) h0_59_39 _ _ _ (lv_sub hl [0, 1, 2, 3, 4, 5] rfl) (hP.sub [0, 1, 2, 3] rfl) (hD.sub [0, 1, 2, 3] (by decide) rfl) hS
  exact key_24_0 _ (0 : Int32) (0 : Int32) p1 (1 : Int64) (1 : Int64) (0 : Int32) a0_partPrime a0_partPower (Nat.lt_succ_self _) h0_24_0 _ _ _ (lv_sub hl [0, 1, 2, 3, 5] rfl) (hP.sub [0, 1, 2, 3] rfl) (hD.sub [0, 1, 2, 3] (by decide) rfl) hS
def wp_X9_isPrime (a0_primes : Int32) (a0_prime : Nat → Int32) (p1 : Int64) (Q : Int32 → Prop) : Prop :=
  (((2 : Int64) ≤ p1 → (∃ (I_12_1 : Int32 → Prop) (m_12_1 : Int32 → Nat), I_12_1 (0 : Int32) ∧ ∀ (l3_12_1 : Int32), I_12_1 l3_12_1 → ((a0_primes ≤ l3_12_1 → Q (1 : Int32)) ∧ (¬ a0_primes ≤ l3_12_1 → (vp_in l3_12_1 9592 ∧ (vp_in l3_12_1 9592 ∧ ((p1 < ((a0_prime l3_12_1.toNatClampNeg).toInt64 * (a0_prime l3_12_1.toNatClampNeg).toInt64) → Q (1 : Int32)) ∧ (¬ p1 < ((a0_prime l3_12_1.toNatClampNeg).toInt64 * (a0_prime l3_12_1.toNatClampNeg).toInt64) → (vp_in l3_12_1 9592 ∧ (¬ (a0_prime l3_12_1.toNatClampNeg).toInt64 = 0 ∧ (((p1 - p1 / (a0_prime l3_12_1.toNatClampNeg).toInt64 * (a0_prime l3_12_1.toNatClampNeg).toInt64) = (0 : Int64) → Q (0 : Int32)) ∧ (¬ (p1 - p1 / (a0_prime l3_12_1.toNatClampNeg).toInt64 * (a0_prime l3_12_1.toNatClampNeg).toInt64) = (0 : Int64) → (∀ x3_10 : Int32, x3_10 = l3_12_1 + (1 : Int32) → (I_12_1 x3_10 ∧ m_12_1 x3_10 < m_12_1 l3_12_1)))))))))))))) ∧ (¬ (2 : Int64) ≤ p1 → Q (0 : Int32)))
abbrev rm_X9_isPrime : Room := { frames := 0, cells := 0, slots := 0, locals := 0 }
abbrev qc_X9_isPrime (dC : Nat → ClassId) (dI : Nat → Nat → Nat) (cI cJ cZ : ClassId) (h_a0 : Nat) (a0_primes : Int32) (a0_prime : Nat → Int32) (q_a0_prime : Nat) (w_a0_isNone : Value) (a0_hasSpan : Int32) (a0_spanFrom : Int64) (a0_spanMany : Int32) (w_a0_least : Value) (w_a0_greatest : Value) (w_a0_isSquared : Value) (a0_hasPart : Int32) (a0_parted : Int64) (a0_partMany : Int32) (w_a0_partPrime : Value) (w_a0_partPower : Value) (a0_rows : Int32) (w_a0_row : Value) (a0_foundLeast : Int64) (a0_foundGreatest : Int64) (a0_foundSquare : Int32) (Q : Int32 → Prop) (A : Nat → Prop) : Array Value → State → Outcome → State → Prop := va_Qi (fun (r : Int32) (_ : Unit) => Q r) (post_ dC dI A (fun (u : Unit) => [(h_a0, .inr (8, [.int a0_primes, .ref q_a0_prime, w_a0_isNone, .int a0_hasSpan, .long a0_spanFrom, .int a0_spanMany, w_a0_least, w_a0_greatest, w_a0_isSquared, .int a0_hasPart, .long a0_parted, .int a0_partMany, w_a0_partPrime, w_a0_partPower, .int a0_rows, w_a0_row, .long a0_foundLeast, .long a0_foundGreatest, .int a0_foundSquare])), (q_a0_prime, .inl (cI, 9592, .inl a0_prime))])) A
set_option maxHeartbeats 4000000 in
set_option maxRecDepth 100000 in
theorem c_X9_isPrime (l : Launch) (dC : Nat → ClassId) (dI : Nat → Nat → Nat) (cI cJ cZ : ClassId) (sz : Nat) (h_a0 : Nat) (a0_primes : Int32) (a0_prime : Nat → Int32) (q_a0_prime : Nat) (w_a0_isNone : Value) (a0_hasSpan : Int32) (a0_spanFrom : Int64) (a0_spanMany : Int32) (w_a0_least : Value) (w_a0_greatest : Value) (w_a0_isSquared : Value) (a0_hasPart : Int32) (a0_parted : Int64) (a0_partMany : Int32) (w_a0_partPrime : Value) (w_a0_partPower : Value) (a0_rows : Int32) (w_a0_row : Value) (a0_foundLeast : Int64) (a0_foundGreatest : Int64) (a0_foundSquare : Int32) (p1 : Int64) (Q : Int32 → Prop) (hQ : wp_X9_isPrime a0_primes a0_prime p1 Q) : Met l yX9_isPrime wsX9_isPrime rm_X9_isPrime (pre_ dC dI cI cJ cZ [.ref h_a0, .long p1] [(h_a0, .inr (8, [.int a0_primes, .ref q_a0_prime, w_a0_isNone, .int a0_hasSpan, .long a0_spanFrom, .int a0_spanMany, w_a0_least, w_a0_greatest, w_a0_isSquared, .int a0_hasPart, .long a0_parted, .int a0_partMany, w_a0_partPrime, w_a0_partPower, .int a0_rows, w_a0_row, .long a0_foundLeast, .long a0_foundGreatest, .int a0_foundSquare])), (q_a0_prime, .inl (cI, 9592, .inl a0_prime))] sz) (qc_X9_isPrime dC dI cI cJ cZ h_a0 a0_primes a0_prime q_a0_prime w_a0_isNone a0_hasSpan a0_spanFrom a0_spanMany w_a0_least w_a0_greatest w_a0_isSquared a0_hasPart a0_parted a0_partMany w_a0_partPrime w_a0_partPower a0_rows w_a0_row a0_foundLeast a0_foundGreatest a0_foundSquare Q (va_A [(h_a0, .inr (8, [.int a0_primes, .ref q_a0_prime, w_a0_isNone, .int a0_hasSpan, .long a0_spanFrom, .int a0_spanMany, w_a0_least, w_a0_greatest, w_a0_isSquared, .int a0_hasPart, .long a0_parted, .int a0_partMany, w_a0_partPrime, w_a0_partPower, .int a0_rows, w_a0_row, .long a0_foundLeast, .long a0_foundGreatest, .int a0_foundSquare])), (q_a0_prime, .inl (cI, 9592, .inl a0_prime))] sz)) 0 0 (va_A [(h_a0, .inr (8, [.int a0_primes, .ref q_a0_prime, w_a0_isNone, .int a0_hasSpan, .long a0_spanFrom, .int a0_spanMany, w_a0_least, w_a0_greatest, w_a0_isSquared, .int a0_hasPart, .long a0_parted, .int a0_partMany, w_a0_partPrime, w_a0_partPower, .int a0_rows, w_a0_row, .long a0_foundLeast, .long a0_foundGreatest, .int a0_foundSquare])), (q_a0_prime, .inl (cI, 9592, .inl a0_prime))] sz) := by
  refine Met.ofW (cc := cX9_isPrime) (maxL := 4) (ret := (some .boolean)) (by decide) rfl ?_
  intro p e s m args below meth c s₁ B hml hv
  obtain ⟨rfl, hsz, hP, hK, hN, hD0⟩ := hv
  have hx := B.exec
  have hb := B.bytes
  have hr := B.returns
  have hts := atoms_spec (ws := wsX9_isPrime) B.pre
  have hown : s.vm.findClass RX9 = some m.cls := findClass_of_methodNamed B.named
  subst hsz
  have hD := hD0.self (sz := s.heap.size)
  generalize hAe : va_A [(h_a0, .inr (8, [.int a0_primes, .ref q_a0_prime, w_a0_isNone, .int a0_hasSpan, .long a0_spanFrom, .int a0_spanMany, w_a0_least, w_a0_greatest, w_a0_isSquared, .int a0_hasPart, .long a0_parted, .int a0_partMany, w_a0_partPrime, w_a0_partPower, .int a0_rows, w_a0_row, .long a0_foundLeast, .long a0_foundGreatest, .int a0_foundSquare])), (q_a0_prime, .inl (cI, 9592, .inl a0_prime))] s.heap.size = A at hD ⊢
  have hA : ∀ q : Nat, s.heap.size ≤ q → A q := fun q h => by rw [← hAe]; exact Or.inr h
  have hS : va_S A s.heap s.heap [] := va_S.rf
  have hl := lv_entry ([.ref h_a0, .long p1]) (n := 4) (Nat.le_of_ble_eq_true rfl)
  rw [lg_entry_eq]
  generalize (lg_sl ([.ref h_a0, .long p1]) ++ List.replicate (4 - (lg_sl ([.ref h_a0, .long p1])).length) Slot.unset).toArray = ls at hl ⊢
  have hl : lv_has ls 4 [(0, .ref h_a0), (1, .long p1)] := hl
  have h := hQ
  unfold wp_X9_isPrime at h
  have hw_0 := hts (.constantLong RX9 57 (2)) (by decide +kernel)
  have hw_1 := hts (.fieldLink RX9 39 "NumberSievesModel" "primes" "I") (by decide +kernel)
  have hin_X9 : ∀ w ∈ wsX90, w ∈ wsX9_isPrime := by decide +kernel
  have hw_3 := hts (.fieldLink RX9 7 "NumberSievesModel" "prime" "[I") (by decide +kernel)
  refine lv_lload_n hx hb dX9_isPrime_0 rfl (lv_at hl 1 rfl) ?_
  refine lv_ldc2 hx hb hown hw_0 dX9_isPrime_1 ?_
  refine W.lcmp hx hb dX9_isPrime_4 ?_
  refine lv_if_ge (tgt := 10) hx hb dX9_isPrime_5 (by decide) (fun c_1 => ?_) (fun c_1 => ?_)
  · replace c_1 := (lg_cmp_ge _ _).mp c_1
    replace h := h.1 c_1
    refine lv_iconst (v := (0 : Int32)) hx hb dX9_isPrime_10 (by decide) ?_
    refine lv_istore_n (lv' := [(3, .int (0 : Int32)), (0, .ref h_a0), (1, .long p1)]) hx hb dX9_isPrime_11 rfl hl (by decide) rfl (fun ls hl => ?_)
    obtain ⟨I_12_1, m_12_1, h0_12_1, hs_12_1⟩ := h
    have key_12_1 : ∀ (n : Nat) (l3_12_1 : Int32), m_12_1 l3_12_1 < n → I_12_1 l3_12_1 → ∀ (ls : Array Slot) (H : Heap) (locs : List Loc), lv_has ls 4 [(3, .int l3_12_1), (0, .ref h_a0), (1, .long p1)] → va_P (dC, dI) vwCl [(h_a0, .inr (8, [.int a0_primes, .ref q_a0_prime, w_a0_isNone, .int a0_hasSpan, .long a0_spanFrom, .int a0_spanMany, w_a0_least, w_a0_greatest, w_a0_isSquared, .int a0_hasPart, .long a0_parted, .int a0_partMany, w_a0_partPrime, w_a0_partPower, .int a0_rows, w_a0_row, .long a0_foundLeast, .long a0_foundGreatest, .int a0_foundSquare])), (q_a0_prime, .inl (cI, 9592, .inl a0_prime))] H → va_D A [(h_a0, .inr (8, [.int a0_primes, .ref q_a0_prime, w_a0_isNone, .int a0_hasSpan, .long a0_spanFrom, .int a0_spanMany, w_a0_least, w_a0_greatest, w_a0_isSquared, .int a0_hasPart, .long a0_parted, .int a0_partMany, w_a0_partPrime, w_a0_partPower, .int a0_rows, w_a0_row, .long a0_foundLeast, .long a0_foundGreatest, .int a0_foundSquare])), (q_a0_prime, .inl (cI, 9592, .inl a0_prime))] → va_S A s.heap H locs → W p l e (headSpec wsX9_isPrime rm_X9_isPrime).room s m ([.ref h_a0, .long p1] : List Value).toArray below meth c H locs 0 0 (MQ below (qc_X9_isPrime dC dI cI cJ cZ h_a0 a0_primes a0_prime q_a0_prime w_a0_isNone a0_hasSpan a0_spanFrom a0_spanMany w_a0_least w_a0_greatest w_a0_isSquared a0_hasPart a0_parted a0_partMany w_a0_partPrime w_a0_partPower a0_rows w_a0_row a0_foundLeast a0_foundGreatest a0_foundSquare Q A) ([.ref h_a0, .long p1] : List Value).toArray s 0 0 A) (F0 m 12 ls []) := by
      intro n
      induction n with
      | zero =>
        intro l3_12_1 hm
        exact absurd hm (Nat.not_lt_zero _)
      | succ n ih_12_1 =>
        intro l3_12_1 hm_12_1 hI ls H locs hl hP hD hS
        have h := hs_12_1 l3_12_1 hI
        refine lv_iload_n hx hb dX9_isPrime_12 rfl (lv_at hl 0 rfl) ?_
        refine lv_aload_n hx hb dX9_isPrime_13 rfl (lv_at hl 1 rfl) ?_
        refine va_get (D := (dC, dI)) (ci := 8) (v := .int a0_primes) (C := RX9) (T := TX9) (N := 19) hx hb hts hin_X9 hown hK hP 0 rfl rfl 0 (by decide) hw_1 (fun _ h9 => h9) rfl dX9_isPrime_14 ?_
        refine lv_icmp_ge (tgt := 62) hx hb dX9_isPrime_17 (by decide) (fun c_3 => ?_) (fun c_3 => ?_)
        · replace h := h.1 c_3
          refine lv_iconst (v := (1 : Int32)) hx hb dX9_isPrime_62 (by decide) ?_
          have hP9 := hP.sub (ws' := [(h_a0, .inr (8, [.int a0_primes, .ref q_a0_prime, w_a0_isNone, .int a0_hasSpan, .long a0_spanFrom, .int a0_spanMany, w_a0_least, w_a0_greatest, w_a0_isSquared, .int a0_hasPart, .long a0_parted, .int a0_partMany, w_a0_partPrime, w_a0_partPower, .int a0_rows, w_a0_row, .long a0_foundLeast, .long a0_foundGreatest, .int a0_foundSquare])), (q_a0_prime, .inl (cI, 9592, .inl a0_prime))]) [0, 1] rfl
          have hD9 := hD.sub (ws' := [(h_a0, .inr (8, [.int a0_primes, .ref q_a0_prime, w_a0_isNone, .int a0_hasSpan, .long a0_spanFrom, .int a0_spanMany, w_a0_least, w_a0_greatest, w_a0_isSquared, .int a0_hasPart, .long a0_parted, .int a0_partMany, w_a0_partPrime, w_a0_partPower, .int a0_rows, w_a0_row, .long a0_foundLeast, .long a0_foundGreatest, .int a0_foundSquare])), (q_a0_prime, .inl (cI, 9592, .inl a0_prime))]) [0, 1] (by decide) rfl
          exact W.zret (v := (1 : Int32)) hx hb hr (by decide) (fun t ht hW => ⟨⟨_, (), rfl, h, by rw [ht]; exact hP9, hD9⟩, hS.F ht⟩) hS.2.2 dX9_isPrime_63
        · replace h := h.2 c_3
          refine lv_aload_n hx hb dX9_isPrime_20 rfl (lv_at hl 1 rfl) ?_
          refine va_get (D := (dC, dI)) (ci := 8) (v := .ref q_a0_prime) (C := RX9) (T := TX9) (N := 19) hx hb hts hin_X9 hown hK hP 0 rfl rfl 1 (by decide) hw_3 (fun _ h9 => h9) rfl dX9_isPrime_21 ?_
          refine lv_iload_n hx hb dX9_isPrime_24 rfl (lv_at hl 0 rfl) ?_
          obtain ⟨hin_4, h⟩ := h
          refine va_iald hx hb hK hP 1 0 rfl rfl hin_4 dX9_isPrime_25 ?_
          refine lv_i2l hx hb dX9_isPrime_26 rfl ?_
          refine lv_aload_n hx hb dX9_isPrime_27 rfl (lv_at hl 1 rfl) ?_
          refine va_get (D := (dC, dI)) (ci := 8) (v := .ref q_a0_prime) (C := RX9) (T := TX9) (N := 19) hx hb hts hin_X9 hown hK hP 0 rfl rfl 1 (by decide) hw_3 (fun _ h9 => h9) rfl dX9_isPrime_28 ?_
          refine lv_iload_n hx hb dX9_isPrime_31 rfl (lv_at hl 0 rfl) ?_
          obtain ⟨hin_5, h⟩ := h
          refine va_iald hx hb hK hP 1 0 rfl rfl hin_5 dX9_isPrime_32 ?_
          refine lv_i2l hx hb dX9_isPrime_33 rfl ?_
          refine lv_lmul hx hb dX9_isPrime_34 ?_
          refine lv_lload_n hx hb dX9_isPrime_35 rfl (lv_at hl 2 rfl) ?_
          refine W.lcmp hx hb dX9_isPrime_36 ?_
          refine lv_if_gt (tgt := 62) hx hb dX9_isPrime_37 (by decide) (fun c_6 => ?_) (fun c_6 => ?_)
          · replace c_6 := (lg_cmp_gt _ _).mp c_6
            replace h := h.1 c_6
            refine lv_iconst (v := (1 : Int32)) hx hb dX9_isPrime_62 (by decide) ?_
            have hP9 := hP.sub (ws' := [(h_a0, .inr (8, [.int a0_primes, .ref q_a0_prime, w_a0_isNone, .int a0_hasSpan, .long a0_spanFrom, .int a0_spanMany, w_a0_least, w_a0_greatest, w_a0_isSquared, .int a0_hasPart, .long a0_parted, .int a0_partMany, w_a0_partPrime, w_a0_partPower, .int a0_rows, w_a0_row, .long a0_foundLeast, .long a0_foundGreatest, .int a0_foundSquare])), (q_a0_prime, .inl (cI, 9592, .inl a0_prime))]) [0, 1] rfl
            have hD9 := hD.sub (ws' := [(h_a0, .inr (8, [.int a0_primes, .ref q_a0_prime, w_a0_isNone, .int a0_hasSpan, .long a0_spanFrom, .int a0_spanMany, w_a0_least, w_a0_greatest, w_a0_isSquared, .int a0_hasPart, .long a0_parted, .int a0_partMany, w_a0_partPrime, w_a0_partPower, .int a0_rows, w_a0_row, .long a0_foundLeast, .long a0_foundGreatest, .int a0_foundSquare])), (q_a0_prime, .inl (cI, 9592, .inl a0_prime))]) [0, 1] (by decide) rfl
            exact W.zret (v := (1 : Int32)) hx hb hr (by decide) (fun t ht hW => ⟨⟨_, (), rfl, h, by rw [ht]; exact hP9, hD9⟩, hS.F ht⟩) hS.2.2 dX9_isPrime_63
          · replace c_6 := lc_ngt c_6
            replace h := h.2 c_6
            refine lv_lload_n hx hb dX9_isPrime_40 rfl (lv_at hl 2 rfl) ?_
            refine lv_aload_n hx hb dX9_isPrime_41 rfl (lv_at hl 1 rfl) ?_
            refine va_get (D := (dC, dI)) (ci := 8) (v := .ref q_a0_prime) (C := RX9) (T := TX9) (N := 19) hx hb hts hin_X9 hown hK hP 0 rfl rfl 1 (by decide) hw_3 (fun _ h9 => h9) rfl dX9_isPrime_42 ?_
            refine lv_iload_n hx hb dX9_isPrime_45 rfl (lv_at hl 0 rfl) ?_
            obtain ⟨hin_7, h⟩ := h
            refine va_iald hx hb hK hP 1 0 rfl rfl hin_7 dX9_isPrime_46 ?_
            refine lv_i2l hx hb dX9_isPrime_47 rfl ?_
            obtain ⟨hne_8, h⟩ := h
            refine lv_lrem hx hb dX9_isPrime_48 hne_8 ?_
            refine lv_lconst (v := (0 : Int64)) hx hb dX9_isPrime_49 (by decide) ?_
            refine W.lcmp hx hb dX9_isPrime_50 ?_
            refine lv_if_ne (tgt := 56) hx hb dX9_isPrime_51 (by decide) (fun c_9 => ?_) (fun c_9 => ?_)
            · replace c_9 := lc_neq c_9
              replace h := h.2 c_9
              obtain ⟨x3_10, e_x3_10⟩ : ∃ y : Int32, y = l3_12_1 + (1 : Int32) := ⟨_, rfl⟩
              replace h := h x3_10 e_x3_10
              refine lv_iinc (v := x3_10) (lv' := [(3, .int x3_10), (0, .ref h_a0), (1, .long p1)]) hx hb dX9_isPrime_56 hl (k := 0) rfl (by rw [e_x3_10]; rfl) (by decide) rfl (fun ls hl => ?_)
              refine lv_goto (tgt := 12) hx hb dX9_isPrime_59 (by decide) ?_
              exact ih_12_1 x3_10 (Nat.lt_of_lt_of_le h.2 (Nat.le_of_lt_succ hm_12_1)) h.1 _ _ _ (lv_sub hl [0, 1, 2] rfl) (hP.sub [0, 1] rfl) (hD.sub [0, 1] (by decide) rfl) hS
            · replace c_9 := (lg_cmp_eq _ _).mp c_9
              replace h := h.1 c_9
              refine lv_iconst (v := (0 : Int32)) hx hb dX9_isPrime_54 (by decide) ?_
              have hP9 := hP.sub (ws' := [(h_a0, .inr (8, [.int a0_primes, .ref q_a0_prime, w_a0_isNone, .int a0_hasSpan, .long a0_spanFrom, .int a0_spanMany, w_a0_least, w_a0_greatest, w_a0_isSquared, .int a0_hasPart, .long a0_parted, .int a0_partMany, w_a0_partPrime, w_a0_partPower, .int a0_rows, w_a0_row, .long a0_foundLeast, .long a0_foundGreatest, .int a0_foundSquare])), (q_a0_prime, .inl (cI, 9592, .inl a0_prime))]) [0, 1] rfl
              have hD9 := hD.sub (ws' := [(h_a0, .inr (8, [.int a0_primes, .ref q_a0_prime, w_a0_isNone, .int a0_hasSpan, .long a0_spanFrom, .int a0_spanMany, w_a0_least, w_a0_greatest, w_a0_isSquared, .int a0_hasPart, .long a0_parted, .int a0_partMany, w_a0_partPrime, w_a0_partPower, .int a0_rows, w_a0_row, .long a0_foundLeast, .long a0_foundGreatest, .int a0_foundSquare])), (q_a0_prime, .inl (cI, 9592, .inl a0_prime))]) [0, 1] (by decide) rfl
              exact W.zret (v := (0 : Int32)) hx hb hr (by decide) (fun t ht hW => ⟨⟨_, (), rfl, h, by rw [ht]; exact hP9, hD9⟩, hS.F ht⟩) hS.2.2 dX9_isPrime_55
    exact key_12_1 _ (0 : Int32) (Nat.lt_succ_self _) h0_12_1 _ _ _ (lv_sub hl [0, 1, 2] rfl) (hP.sub [0, 1] rfl) (hD.sub [0, 1] (by decide) rfl) hS
  · replace c_1 := lc_nge c_1
    replace h := h.2 c_1
    refine lv_iconst (v := (0 : Int32)) hx hb dX9_isPrime_8 (by decide) ?_
    have hP9 := hP.sub (ws' := [(h_a0, .inr (8, [.int a0_primes, .ref q_a0_prime, w_a0_isNone, .int a0_hasSpan, .long a0_spanFrom, .int a0_spanMany, w_a0_least, w_a0_greatest, w_a0_isSquared, .int a0_hasPart, .long a0_parted, .int a0_partMany, w_a0_partPrime, w_a0_partPower, .int a0_rows, w_a0_row, .long a0_foundLeast, .long a0_foundGreatest, .int a0_foundSquare])), (q_a0_prime, .inl (cI, 9592, .inl a0_prime))]) [0, 1] rfl
    have hD9 := hD.sub (ws' := [(h_a0, .inr (8, [.int a0_primes, .ref q_a0_prime, w_a0_isNone, .int a0_hasSpan, .long a0_spanFrom, .int a0_spanMany, w_a0_least, w_a0_greatest, w_a0_isSquared, .int a0_hasPart, .long a0_parted, .int a0_partMany, w_a0_partPrime, w_a0_partPower, .int a0_rows, w_a0_row, .long a0_foundLeast, .long a0_foundGreatest, .int a0_foundSquare])), (q_a0_prime, .inl (cI, 9592, .inl a0_prime))]) [0, 1] (by decide) rfl
    exact W.zret (v := (0 : Int32)) hx hb hr (by decide) (fun t ht hW => ⟨⟨_, (), rfl, h, by rw [ht]; exact hP9, hD9⟩, hS.F ht⟩) hS.2.2 dX9_isPrime_9
def wp_X9_least (a0_hasSpan : Int32) (a0_spanMany : Int32) (a0_least : Nat → Int64) (p1 : Int32) (Q : Int64 → Prop) : Prop :=
  ((a0_hasSpan = (0 : Int32) → Q (0 : Int64)) ∧ (¬ a0_hasSpan = (0 : Int32) → wp_X9_in (p1.toInt64) (0 : Int64) ((a0_spanMany - (1 : Int32)).toInt64) (fun r_2 => ((r_2 = (0 : Int32) → Q (0 : Int64)) ∧ (¬ r_2 = (0 : Int32) → (vp_in p1 5000 ∧ Q (a0_least p1.toNatClampNeg)))))))
abbrev rm_X9_least : Room := { frames := 1, cells := 0, slots := 0, locals := 25 }
abbrev qc_X9_least (dC : Nat → ClassId) (dI : Nat → Nat → Nat) (cI cJ cZ : ClassId) (h_a0 : Nat) (a0_primes : Int32) (w_a0_prime : Value) (w_a0_isNone : Value) (a0_hasSpan : Int32) (a0_spanFrom : Int64) (a0_spanMany : Int32) (a0_least : Nat → Int64) (q_a0_least : Nat) (w_a0_greatest : Value) (w_a0_isSquared : Value) (a0_hasPart : Int32) (a0_parted : Int64) (a0_partMany : Int32) (w_a0_partPrime : Value) (w_a0_partPower : Value) (a0_rows : Int32) (w_a0_row : Value) (a0_foundLeast : Int64) (a0_foundGreatest : Int64) (a0_foundSquare : Int32) (Q : Int64 → Prop) (A : Nat → Prop) : Array Value → State → Outcome → State → Prop := va_Ql (fun (r : Int64) (_ : Unit) => Q r) (post_ dC dI A (fun (u : Unit) => [(h_a0, .inr (8, [.int a0_primes, w_a0_prime, w_a0_isNone, .int a0_hasSpan, .long a0_spanFrom, .int a0_spanMany, .ref q_a0_least, w_a0_greatest, w_a0_isSquared, .int a0_hasPart, .long a0_parted, .int a0_partMany, w_a0_partPrime, w_a0_partPower, .int a0_rows, w_a0_row, .long a0_foundLeast, .long a0_foundGreatest, .int a0_foundSquare])), (q_a0_least, .inl (cJ, 5000, .inr (.inl a0_least)))])) A
set_option maxHeartbeats 4000000 in
set_option maxRecDepth 100000 in
theorem c_X9_least (l : Launch) (dC : Nat → ClassId) (dI : Nat → Nat → Nat) (cI cJ cZ : ClassId) (sz : Nat) (h_a0 : Nat) (a0_primes : Int32) (w_a0_prime : Value) (w_a0_isNone : Value) (a0_hasSpan : Int32) (a0_spanFrom : Int64) (a0_spanMany : Int32) (a0_least : Nat → Int64) (q_a0_least : Nat) (w_a0_greatest : Value) (w_a0_isSquared : Value) (a0_hasPart : Int32) (a0_parted : Int64) (a0_partMany : Int32) (w_a0_partPrime : Value) (w_a0_partPower : Value) (a0_rows : Int32) (w_a0_row : Value) (a0_foundLeast : Int64) (a0_foundGreatest : Int64) (a0_foundSquare : Int32) (p1 : Int32) (Q : Int64 → Prop) (hQ : wp_X9_least a0_hasSpan a0_spanMany a0_least p1 Q) : Met l yX9_least wsX9_least rm_X9_least (pre_ dC dI cI cJ cZ [.ref h_a0, .int p1] [(h_a0, .inr (8, [.int a0_primes, w_a0_prime, w_a0_isNone, .int a0_hasSpan, .long a0_spanFrom, .int a0_spanMany, .ref q_a0_least, w_a0_greatest, w_a0_isSquared, .int a0_hasPart, .long a0_parted, .int a0_partMany, w_a0_partPrime, w_a0_partPower, .int a0_rows, w_a0_row, .long a0_foundLeast, .long a0_foundGreatest, .int a0_foundSquare])), (q_a0_least, .inl (cJ, 5000, .inr (.inl a0_least)))] sz) (qc_X9_least dC dI cI cJ cZ h_a0 a0_primes w_a0_prime w_a0_isNone a0_hasSpan a0_spanFrom a0_spanMany a0_least q_a0_least w_a0_greatest w_a0_isSquared a0_hasPart a0_parted a0_partMany w_a0_partPrime w_a0_partPower a0_rows w_a0_row a0_foundLeast a0_foundGreatest a0_foundSquare Q (va_A [(h_a0, .inr (8, [.int a0_primes, w_a0_prime, w_a0_isNone, .int a0_hasSpan, .long a0_spanFrom, .int a0_spanMany, .ref q_a0_least, w_a0_greatest, w_a0_isSquared, .int a0_hasPart, .long a0_parted, .int a0_partMany, w_a0_partPrime, w_a0_partPower, .int a0_rows, w_a0_row, .long a0_foundLeast, .long a0_foundGreatest, .int a0_foundSquare])), (q_a0_least, .inl (cJ, 5000, .inr (.inl a0_least)))] sz)) 0 0 (va_A [(h_a0, .inr (8, [.int a0_primes, w_a0_prime, w_a0_isNone, .int a0_hasSpan, .long a0_spanFrom, .int a0_spanMany, .ref q_a0_least, w_a0_greatest, w_a0_isSquared, .int a0_hasPart, .long a0_parted, .int a0_partMany, w_a0_partPrime, w_a0_partPower, .int a0_rows, w_a0_row, .long a0_foundLeast, .long a0_foundGreatest, .int a0_foundSquare])), (q_a0_least, .inl (cJ, 5000, .inr (.inl a0_least)))] sz) := by
  refine Met.ofW (cc := cX9_least) (maxL := 2) (ret := (some .long)) (by decide) rfl ?_
  intro p e s m args below meth c s₁ B hml hv
  obtain ⟨rfl, hsz, hP, hK, hN, hD0⟩ := hv
  have hx := B.exec
  have hb := B.bytes
  have hr := B.returns
  have hts := atoms_spec (ws := wsX9_least) B.pre
  have hown : s.vm.findClass RX9 = some m.cls := findClass_of_methodNamed B.named
  subst hsz
  have hD := hD0.self (sz := s.heap.size)
  generalize hAe : va_A [(h_a0, .inr (8, [.int a0_primes, w_a0_prime, w_a0_isNone, .int a0_hasSpan, .long a0_spanFrom, .int a0_spanMany, .ref q_a0_least, w_a0_greatest, w_a0_isSquared, .int a0_hasPart, .long a0_parted, .int a0_partMany, w_a0_partPrime, w_a0_partPower, .int a0_rows, w_a0_row, .long a0_foundLeast, .long a0_foundGreatest, .int a0_foundSquare])), (q_a0_least, .inl (cJ, 5000, .inr (.inl a0_least)))] s.heap.size = A at hD ⊢
  have hA : ∀ q : Nat, s.heap.size ≤ q → A q := fun q h => by rw [← hAe]; exact Or.inr h
  have hS : va_S A s.heap s.heap [] := va_S.rf
  have hl := lv_entry ([.ref h_a0, .int p1]) (n := 2) (Nat.le_of_ble_eq_true rfl)
  rw [lg_entry_eq]
  generalize (lg_sl ([.ref h_a0, .int p1]) ++ List.replicate (2 - (lg_sl ([.ref h_a0, .int p1])).length) Slot.unset).toArray = ls at hl ⊢
  have hl : lv_has ls 2 [(0, .ref h_a0), (1, .int p1)] := hl
  have h := hQ
  unfold wp_X9_least at h
  have hw_0 := hts (.fieldLink RX9 67 "NumberSievesModel" "hasSpan" "Z") (by decide +kernel)
  have hin_X9 : ∀ w ∈ wsX90, w ∈ wsX9_least := by decide +kernel
  have hw_2 := hts (.fieldLink RX9 73 "NumberSievesModel" "spanMany" "I") (by decide +kernel)
  have hw_3 := hts (.fieldLink RX9 18 "NumberSievesModel" "least" "[J") (by decide +kernel)
  refine lv_aload_n hx hb dX9_least_0 rfl (lv_at hl 0 rfl) ?_
  refine va_get (D := (dC, dI)) (ci := 8) (v := .int a0_hasSpan) (C := RX9) (T := TX9) (N := 19) hx hb hts hin_X9 hown hK hP 0 rfl rfl 3 (by decide) hw_0 (fun _ h9 => h9) rfl dX9_least_1 ?_
  refine lv_if_eq (tgt := 32) hx hb dX9_least_4 (by decide) (fun c_1 => ?_) (fun c_1 => ?_)
  · replace h := h.1 c_1
    refine lv_lconst (v := (0 : Int64)) hx hb dX9_least_32 (by decide) ?_
    have hP9 := hP.sub (ws' := [(h_a0, .inr (8, [.int a0_primes, w_a0_prime, w_a0_isNone, .int a0_hasSpan, .long a0_spanFrom, .int a0_spanMany, .ref q_a0_least, w_a0_greatest, w_a0_isSquared, .int a0_hasPart, .long a0_parted, .int a0_partMany, w_a0_partPrime, w_a0_partPower, .int a0_rows, w_a0_row, .long a0_foundLeast, .long a0_foundGreatest, .int a0_foundSquare])), (q_a0_least, .inl (cJ, 5000, .inr (.inl a0_least)))]) [0, 1] rfl
    have hD9 := hD.sub (ws' := [(h_a0, .inr (8, [.int a0_primes, w_a0_prime, w_a0_isNone, .int a0_hasSpan, .long a0_spanFrom, .int a0_spanMany, .ref q_a0_least, w_a0_greatest, w_a0_isSquared, .int a0_hasPart, .long a0_parted, .int a0_partMany, w_a0_partPrime, w_a0_partPower, .int a0_rows, w_a0_row, .long a0_foundLeast, .long a0_foundGreatest, .int a0_foundSquare])), (q_a0_least, .inl (cJ, 5000, .inr (.inl a0_least)))]) [0, 1] (by decide) rfl
    exact W.lret (v := (0 : Int64)) hx hb hr (fun t ht hW => ⟨⟨_, (), rfl, h, by rw [ht]; exact hP9, hD9⟩, hS.F ht⟩) hS.2.2 dX9_least_33
  · replace h := h.2 c_1
    refine lv_iload_n hx hb dX9_least_7 rfl (lv_at hl 1 rfl) ?_
    refine lv_i2l hx hb dX9_least_8 rfl ?_
    refine lv_lconst (v := (0 : Int64)) hx hb dX9_least_9 (by decide) ?_
    refine lv_aload_n hx hb dX9_least_10 rfl (lv_at hl 0 rfl) ?_
    refine va_get (D := (dC, dI)) (ci := 8) (v := .int a0_spanMany) (C := RX9) (T := TX9) (N := 19) hx hb hts hin_X9 hown hK hP 0 rfl rfl 5 (by decide) hw_2 (fun _ h9 => h9) rfl dX9_least_11 ?_
    refine lv_iconst (v := (1 : Int32)) hx hb dX9_least_14 (by decide) ?_
    refine lv_isub hx hb dX9_least_15 ?_
    refine lv_i2l hx hb dX9_least_16 rfl ?_
    have hPc := hP.sub (ws' := []) [] rfl
    have hDc := hD.sub (ws' := []) [] (by decide) rfl
    have hFc := va_free (wc := []) hD hS hA [] rfl
    refine va_calli (va_runS (As := [.long p1.toInt64, .long (0 : Int64), .long (a0_spanMany - (1 : Int32)).toInt64]) (rest := []) ⟨hx, hb, hml, hown, hts⟩ (c_X9_in l dC dI cI cJ cZ _ (p1.toInt64) (0 : Int64) ((a0_spanMany - (1 : Int32)).toInt64) _ h) (va_cwS 3 hts gX9_least_X9_in rfl rfl rfl (by decide +kernel) ⟨Nat.le_of_ble_eq_true rfl, Nat.le_of_ble_eq_true rfl⟩) ⟨pre_fb, pre_of hPc hDc hK hN⟩ rfl rfl hl.1 rfl (lv_room (Nat.le_of_ble_eq_true rfl)) dX9_least_17 ⟨by first | exact Nat.le_of_ble_eq_true rfl | exact Nat.le_refl _, by first | exact Nat.le_of_ble_eq_true rfl | exact Nat.le_refl _⟩) hS (fun q _ h => hFc q h) hFc (fun r_2 u t H1 locs ht hvm h hB hz1 hk1 hS => ?_)
    obtain ⟨hP1, hD1⟩ := hB
    rw [ht] at hP1
    try dsimp only at h
    obtain ⟨hP, hD⟩ := va_join (wr := [(h_a0, .inr (8, [.int a0_primes, w_a0_prime, w_a0_isNone, .int a0_hasSpan, .long a0_spanFrom, .int a0_spanMany, .ref q_a0_least, w_a0_greatest, w_a0_isSquared, .int a0_hasPart, .long a0_parted, .int a0_partMany, w_a0_partPrime, w_a0_partPower, .int a0_rows, w_a0_row, .long a0_foundLeast, .long a0_foundGreatest, .int a0_foundSquare])), (q_a0_least, .inl (cJ, 5000, .inr (.inl a0_least)))]) (w1 := []) hP hD [] [0, 1] rfl rfl (by decide) (by decide) hk1 hFc hP1 hD1
    generalize H1 = H at hP hS ⊢
    have hP : va_P (dC, dI) vwCl [(h_a0, .inr (8, [.int a0_primes, w_a0_prime, w_a0_isNone, .int a0_hasSpan, .long a0_spanFrom, .int a0_spanMany, .ref q_a0_least, w_a0_greatest, w_a0_isSquared, .int a0_hasPart, .long a0_parted, .int a0_partMany, w_a0_partPrime, w_a0_partPower, .int a0_rows, w_a0_row, .long a0_foundLeast, .long a0_foundGreatest, .int a0_foundSquare])), (q_a0_least, .inl (cJ, 5000, .inr (.inl a0_least)))] H := hP
    have hD : va_D A [(h_a0, .inr (8, [.int a0_primes, w_a0_prime, w_a0_isNone, .int a0_hasSpan, .long a0_spanFrom, .int a0_spanMany, .ref q_a0_least, w_a0_greatest, w_a0_isSquared, .int a0_hasPart, .long a0_parted, .int a0_partMany, w_a0_partPrime, w_a0_partPower, .int a0_rows, w_a0_row, .long a0_foundLeast, .long a0_foundGreatest, .int a0_foundSquare])), (q_a0_least, .inl (cJ, 5000, .inr (.inl a0_least)))] := hD
    refine lv_if_eq (tgt := 32) hx hb dX9_least_20 (by decide) (fun c_3 => ?_) (fun c_3 => ?_)
    · replace h := h.1 c_3
      refine lv_lconst (v := (0 : Int64)) hx hb dX9_least_32 (by decide) ?_
      have hP9 := hP.sub (ws' := [(h_a0, .inr (8, [.int a0_primes, w_a0_prime, w_a0_isNone, .int a0_hasSpan, .long a0_spanFrom, .int a0_spanMany, .ref q_a0_least, w_a0_greatest, w_a0_isSquared, .int a0_hasPart, .long a0_parted, .int a0_partMany, w_a0_partPrime, w_a0_partPower, .int a0_rows, w_a0_row, .long a0_foundLeast, .long a0_foundGreatest, .int a0_foundSquare])), (q_a0_least, .inl (cJ, 5000, .inr (.inl a0_least)))]) [0, 1] rfl
      have hD9 := hD.sub (ws' := [(h_a0, .inr (8, [.int a0_primes, w_a0_prime, w_a0_isNone, .int a0_hasSpan, .long a0_spanFrom, .int a0_spanMany, .ref q_a0_least, w_a0_greatest, w_a0_isSquared, .int a0_hasPart, .long a0_parted, .int a0_partMany, w_a0_partPrime, w_a0_partPower, .int a0_rows, w_a0_row, .long a0_foundLeast, .long a0_foundGreatest, .int a0_foundSquare])), (q_a0_least, .inl (cJ, 5000, .inr (.inl a0_least)))]) [0, 1] (by decide) rfl
      exact W.lret (v := (0 : Int64)) hx hb hr (fun t ht hW => ⟨⟨_, (), rfl, h, by rw [ht]; exact hP9, hD9⟩, hS.F ht⟩) hS.2.2 dX9_least_33
    · replace h := h.2 c_3
      refine lv_aload_n hx hb dX9_least_23 rfl (lv_at hl 0 rfl) ?_
      refine va_get (D := (dC, dI)) (ci := 8) (v := .ref q_a0_least) (C := RX9) (T := TX9) (N := 19) hx hb hts hin_X9 hown hK hP 0 rfl rfl 6 (by decide) hw_3 (fun _ h9 => h9) rfl dX9_least_24 ?_
      refine lv_iload_n hx hb dX9_least_27 rfl (lv_at hl 1 rfl) ?_
      obtain ⟨hin_4, h⟩ := h
      refine va_lald hx hb hK hP 1 1 rfl rfl hin_4 dX9_least_28 ?_
      refine lv_goto (tgt := 33) hx hb dX9_least_29 (by decide) ?_
      have hP9 := hP.sub (ws' := [(h_a0, .inr (8, [.int a0_primes, w_a0_prime, w_a0_isNone, .int a0_hasSpan, .long a0_spanFrom, .int a0_spanMany, .ref q_a0_least, w_a0_greatest, w_a0_isSquared, .int a0_hasPart, .long a0_parted, .int a0_partMany, w_a0_partPrime, w_a0_partPower, .int a0_rows, w_a0_row, .long a0_foundLeast, .long a0_foundGreatest, .int a0_foundSquare])), (q_a0_least, .inl (cJ, 5000, .inr (.inl a0_least)))]) [0, 1] rfl
      have hD9 := hD.sub (ws' := [(h_a0, .inr (8, [.int a0_primes, w_a0_prime, w_a0_isNone, .int a0_hasSpan, .long a0_spanFrom, .int a0_spanMany, .ref q_a0_least, w_a0_greatest, w_a0_isSquared, .int a0_hasPart, .long a0_parted, .int a0_partMany, w_a0_partPrime, w_a0_partPower, .int a0_rows, w_a0_row, .long a0_foundLeast, .long a0_foundGreatest, .int a0_foundSquare])), (q_a0_least, .inl (cJ, 5000, .inr (.inl a0_least)))]) [0, 1] (by decide) rfl
      exact W.lret (v := (a0_least p1.toNatClampNeg)) hx hb hr (fun t ht hW => ⟨⟨_, (), rfl, h, by rw [ht]; exact hP9, hD9⟩, hS.F ht⟩) hS.2.2 dX9_least_33
def wp_X9_isPrimeAt (a0_spanFrom : Int64) (a0_spanMany : Int32) (a0_least : Nat → Int64) (p1 : Int32) (Q : Int32 → Prop) : Prop :=
  wp_X9_in (p1.toInt64) (0 : Int64) ((a0_spanMany - (1 : Int32)).toInt64) (fun r_1 => ((r_1 = (0 : Int32) → Q (0 : Int32)) ∧ (¬ r_1 = (0 : Int32) → (((a0_spanFrom + p1.toInt64) ≤ (1 : Int64) → Q (0 : Int32)) ∧ (¬ (a0_spanFrom + p1.toInt64) ≤ (1 : Int64) → (vp_in p1 5000 ∧ (((a0_least p1.toNatClampNeg) = (a0_spanFrom + p1.toInt64) → Q (1 : Int32)) ∧ (¬ (a0_least p1.toNatClampNeg) = (a0_spanFrom + p1.toInt64) → Q (0 : Int32)))))))))
abbrev rm_X9_isPrimeAt : Room := { frames := 1, cells := 0, slots := 0, locals := 25 }
abbrev qc_X9_isPrimeAt (dC : Nat → ClassId) (dI : Nat → Nat → Nat) (cI cJ cZ : ClassId) (h_a0 : Nat) (a0_primes : Int32) (w_a0_prime : Value) (w_a0_isNone : Value) (a0_hasSpan : Int32) (a0_spanFrom : Int64) (a0_spanMany : Int32) (a0_least : Nat → Int64) (q_a0_least : Nat) (w_a0_greatest : Value) (w_a0_isSquared : Value) (a0_hasPart : Int32) (a0_parted : Int64) (a0_partMany : Int32) (w_a0_partPrime : Value) (w_a0_partPower : Value) (a0_rows : Int32) (w_a0_row : Value) (a0_foundLeast : Int64) (a0_foundGreatest : Int64) (a0_foundSquare : Int32) (Q : Int32 → Prop) (A : Nat → Prop) : Array Value → State → Outcome → State → Prop := va_Qi (fun (r : Int32) (_ : Unit) => Q r) (post_ dC dI A (fun (u : Unit) => [(h_a0, .inr (8, [.int a0_primes, w_a0_prime, w_a0_isNone, .int a0_hasSpan, .long a0_spanFrom, .int a0_spanMany, .ref q_a0_least, w_a0_greatest, w_a0_isSquared, .int a0_hasPart, .long a0_parted, .int a0_partMany, w_a0_partPrime, w_a0_partPower, .int a0_rows, w_a0_row, .long a0_foundLeast, .long a0_foundGreatest, .int a0_foundSquare])), (q_a0_least, .inl (cJ, 5000, .inr (.inl a0_least)))])) A
set_option maxHeartbeats 4000000 in
set_option maxRecDepth 100000 in
theorem c_X9_isPrimeAt (l : Launch) (dC : Nat → ClassId) (dI : Nat → Nat → Nat) (cI cJ cZ : ClassId) (sz : Nat) (h_a0 : Nat) (a0_primes : Int32) (w_a0_prime : Value) (w_a0_isNone : Value) (a0_hasSpan : Int32) (a0_spanFrom : Int64) (a0_spanMany : Int32) (a0_least : Nat → Int64) (q_a0_least : Nat) (w_a0_greatest : Value) (w_a0_isSquared : Value) (a0_hasPart : Int32) (a0_parted : Int64) (a0_partMany : Int32) (w_a0_partPrime : Value) (w_a0_partPower : Value) (a0_rows : Int32) (w_a0_row : Value) (a0_foundLeast : Int64) (a0_foundGreatest : Int64) (a0_foundSquare : Int32) (p1 : Int32) (Q : Int32 → Prop) (hQ : wp_X9_isPrimeAt a0_spanFrom a0_spanMany a0_least p1 Q) : Met l yX9_isPrimeAt wsX9_isPrimeAt rm_X9_isPrimeAt (pre_ dC dI cI cJ cZ [.ref h_a0, .int p1] [(h_a0, .inr (8, [.int a0_primes, w_a0_prime, w_a0_isNone, .int a0_hasSpan, .long a0_spanFrom, .int a0_spanMany, .ref q_a0_least, w_a0_greatest, w_a0_isSquared, .int a0_hasPart, .long a0_parted, .int a0_partMany, w_a0_partPrime, w_a0_partPower, .int a0_rows, w_a0_row, .long a0_foundLeast, .long a0_foundGreatest, .int a0_foundSquare])), (q_a0_least, .inl (cJ, 5000, .inr (.inl a0_least)))] sz) (qc_X9_isPrimeAt dC dI cI cJ cZ h_a0 a0_primes w_a0_prime w_a0_isNone a0_hasSpan a0_spanFrom a0_spanMany a0_least q_a0_least w_a0_greatest w_a0_isSquared a0_hasPart a0_parted a0_partMany w_a0_partPrime w_a0_partPower a0_rows w_a0_row a0_foundLeast a0_foundGreatest a0_foundSquare Q (va_A [(h_a0, .inr (8, [.int a0_primes, w_a0_prime, w_a0_isNone, .int a0_hasSpan, .long a0_spanFrom, .int a0_spanMany, .ref q_a0_least, w_a0_greatest, w_a0_isSquared, .int a0_hasPart, .long a0_parted, .int a0_partMany, w_a0_partPrime, w_a0_partPower, .int a0_rows, w_a0_row, .long a0_foundLeast, .long a0_foundGreatest, .int a0_foundSquare])), (q_a0_least, .inl (cJ, 5000, .inr (.inl a0_least)))] sz)) 0 0 (va_A [(h_a0, .inr (8, [.int a0_primes, w_a0_prime, w_a0_isNone, .int a0_hasSpan, .long a0_spanFrom, .int a0_spanMany, .ref q_a0_least, w_a0_greatest, w_a0_isSquared, .int a0_hasPart, .long a0_parted, .int a0_partMany, w_a0_partPrime, w_a0_partPower, .int a0_rows, w_a0_row, .long a0_foundLeast, .long a0_foundGreatest, .int a0_foundSquare])), (q_a0_least, .inl (cJ, 5000, .inr (.inl a0_least)))] sz) := by
  refine Met.ofW (cc := cX9_isPrimeAt) (maxL := 2) (ret := (some .boolean)) (by decide) rfl ?_
  intro p e s m args below meth c s₁ B hml hv
  obtain ⟨rfl, hsz, hP, hK, hN, hD0⟩ := hv
  have hx := B.exec
  have hb := B.bytes
  have hr := B.returns
  have hts := atoms_spec (ws := wsX9_isPrimeAt) B.pre
  have hown : s.vm.findClass RX9 = some m.cls := findClass_of_methodNamed B.named
  subst hsz
  have hD := hD0.self (sz := s.heap.size)
  generalize hAe : va_A [(h_a0, .inr (8, [.int a0_primes, w_a0_prime, w_a0_isNone, .int a0_hasSpan, .long a0_spanFrom, .int a0_spanMany, .ref q_a0_least, w_a0_greatest, w_a0_isSquared, .int a0_hasPart, .long a0_parted, .int a0_partMany, w_a0_partPrime, w_a0_partPower, .int a0_rows, w_a0_row, .long a0_foundLeast, .long a0_foundGreatest, .int a0_foundSquare])), (q_a0_least, .inl (cJ, 5000, .inr (.inl a0_least)))] s.heap.size = A at hD ⊢
  have hA : ∀ q : Nat, s.heap.size ≤ q → A q := fun q h => by rw [← hAe]; exact Or.inr h
  have hS : va_S A s.heap s.heap [] := va_S.rf
  have hl := lv_entry ([.ref h_a0, .int p1]) (n := 2) (Nat.le_of_ble_eq_true rfl)
  rw [lg_entry_eq]
  generalize (lg_sl ([.ref h_a0, .int p1]) ++ List.replicate (2 - (lg_sl ([.ref h_a0, .int p1])).length) Slot.unset).toArray = ls at hl ⊢
  have hl : lv_has ls 2 [(0, .ref h_a0), (1, .int p1)] := hl
  have h := hQ
  unfold wp_X9_isPrimeAt at h
  have hw_0 := hts (.fieldLink RX9 73 "NumberSievesModel" "spanMany" "I") (by decide +kernel)
  have hin_X9 : ∀ w ∈ wsX90, w ∈ wsX9_isPrimeAt := by decide +kernel
  have hw_2 := hts (.fieldLink RX9 70 "NumberSievesModel" "spanFrom" "J") (by decide +kernel)
  have hw_3 := hts (.fieldLink RX9 18 "NumberSievesModel" "least" "[J") (by decide +kernel)
  refine lv_iload_n hx hb dX9_isPrimeAt_0 rfl (lv_at hl 1 rfl) ?_
  refine lv_i2l hx hb dX9_isPrimeAt_1 rfl ?_
  refine lv_lconst (v := (0 : Int64)) hx hb dX9_isPrimeAt_2 (by decide) ?_
  refine lv_aload_n hx hb dX9_isPrimeAt_3 rfl (lv_at hl 0 rfl) ?_
  refine va_get (D := (dC, dI)) (ci := 8) (v := .int a0_spanMany) (C := RX9) (T := TX9) (N := 19) hx hb hts hin_X9 hown hK hP 0 rfl rfl 5 (by decide) hw_0 (fun _ h9 => h9) rfl dX9_isPrimeAt_4 ?_
  refine lv_iconst (v := (1 : Int32)) hx hb dX9_isPrimeAt_7 (by decide) ?_
  refine lv_isub hx hb dX9_isPrimeAt_8 ?_
  refine lv_i2l hx hb dX9_isPrimeAt_9 rfl ?_
  have hPc := hP.sub (ws' := []) [] rfl
  have hDc := hD.sub (ws' := []) [] (by decide) rfl
  have hFc := va_free (wc := []) hD hS hA [] rfl
  refine va_calli (va_runS (As := [.long p1.toInt64, .long (0 : Int64), .long (a0_spanMany - (1 : Int32)).toInt64]) (rest := []) ⟨hx, hb, hml, hown, hts⟩ (c_X9_in l dC dI cI cJ cZ _ (p1.toInt64) (0 : Int64) ((a0_spanMany - (1 : Int32)).toInt64) _ h) (va_cwS 3 hts gX9_isPrimeAt_X9_in rfl rfl rfl (by decide +kernel) ⟨Nat.le_of_ble_eq_true rfl, Nat.le_of_ble_eq_true rfl⟩) ⟨pre_fb, pre_of hPc hDc hK hN⟩ rfl rfl hl.1 rfl (lv_room (Nat.le_of_ble_eq_true rfl)) dX9_isPrimeAt_10 ⟨by first | exact Nat.le_of_ble_eq_true rfl | exact Nat.le_refl _, by first | exact Nat.le_of_ble_eq_true rfl | exact Nat.le_refl _⟩) hS (fun q _ h => hFc q h) hFc (fun r_1 u t H1 locs ht hvm h hB hz1 hk1 hS => ?_)
  obtain ⟨hP1, hD1⟩ := hB
  rw [ht] at hP1
  try dsimp only at h
  obtain ⟨hP, hD⟩ := va_join (wr := [(h_a0, .inr (8, [.int a0_primes, w_a0_prime, w_a0_isNone, .int a0_hasSpan, .long a0_spanFrom, .int a0_spanMany, .ref q_a0_least, w_a0_greatest, w_a0_isSquared, .int a0_hasPart, .long a0_parted, .int a0_partMany, w_a0_partPrime, w_a0_partPower, .int a0_rows, w_a0_row, .long a0_foundLeast, .long a0_foundGreatest, .int a0_foundSquare])), (q_a0_least, .inl (cJ, 5000, .inr (.inl a0_least)))]) (w1 := []) hP hD [] [0, 1] rfl rfl (by decide) (by decide) hk1 hFc hP1 hD1
  generalize H1 = H at hP hS ⊢
  have hP : va_P (dC, dI) vwCl [(h_a0, .inr (8, [.int a0_primes, w_a0_prime, w_a0_isNone, .int a0_hasSpan, .long a0_spanFrom, .int a0_spanMany, .ref q_a0_least, w_a0_greatest, w_a0_isSquared, .int a0_hasPart, .long a0_parted, .int a0_partMany, w_a0_partPrime, w_a0_partPower, .int a0_rows, w_a0_row, .long a0_foundLeast, .long a0_foundGreatest, .int a0_foundSquare])), (q_a0_least, .inl (cJ, 5000, .inr (.inl a0_least)))] H := hP
  have hD : va_D A [(h_a0, .inr (8, [.int a0_primes, w_a0_prime, w_a0_isNone, .int a0_hasSpan, .long a0_spanFrom, .int a0_spanMany, .ref q_a0_least, w_a0_greatest, w_a0_isSquared, .int a0_hasPart, .long a0_parted, .int a0_partMany, w_a0_partPrime, w_a0_partPower, .int a0_rows, w_a0_row, .long a0_foundLeast, .long a0_foundGreatest, .int a0_foundSquare])), (q_a0_least, .inl (cJ, 5000, .inr (.inl a0_least)))] := hD
  refine lv_if_eq (tgt := 49) hx hb dX9_isPrimeAt_13 (by decide) (fun c_2 => ?_) (fun c_2 => ?_)
  · replace h := h.1 c_2
    refine lv_iconst (v := (0 : Int32)) hx hb dX9_isPrimeAt_49 (by decide) ?_
    have hP9 := hP.sub (ws' := [(h_a0, .inr (8, [.int a0_primes, w_a0_prime, w_a0_isNone, .int a0_hasSpan, .long a0_spanFrom, .int a0_spanMany, .ref q_a0_least, w_a0_greatest, w_a0_isSquared, .int a0_hasPart, .long a0_parted, .int a0_partMany, w_a0_partPrime, w_a0_partPower, .int a0_rows, w_a0_row, .long a0_foundLeast, .long a0_foundGreatest, .int a0_foundSquare])), (q_a0_least, .inl (cJ, 5000, .inr (.inl a0_least)))]) [0, 1] rfl
    have hD9 := hD.sub (ws' := [(h_a0, .inr (8, [.int a0_primes, w_a0_prime, w_a0_isNone, .int a0_hasSpan, .long a0_spanFrom, .int a0_spanMany, .ref q_a0_least, w_a0_greatest, w_a0_isSquared, .int a0_hasPart, .long a0_parted, .int a0_partMany, w_a0_partPrime, w_a0_partPower, .int a0_rows, w_a0_row, .long a0_foundLeast, .long a0_foundGreatest, .int a0_foundSquare])), (q_a0_least, .inl (cJ, 5000, .inr (.inl a0_least)))]) [0, 1] (by decide) rfl
    exact W.zret (v := (0 : Int32)) hx hb hr (by decide) (fun t ht hW => ⟨⟨_, (), rfl, h, by rw [ht]; exact hP9, hD9⟩, hS.F ht⟩) hS.2.2 dX9_isPrimeAt_50
  · replace h := h.2 c_2
    refine lv_aload_n hx hb dX9_isPrimeAt_16 rfl (lv_at hl 0 rfl) ?_
    refine va_get (D := (dC, dI)) (ci := 8) (v := .long a0_spanFrom) (C := RX9) (T := TX9) (N := 19) hx hb hts hin_X9 hown hK hP 0 rfl rfl 4 (by decide) hw_2 (fun _ h9 => h9) rfl dX9_isPrimeAt_17 ?_
    refine lv_iload_n hx hb dX9_isPrimeAt_20 rfl (lv_at hl 1 rfl) ?_
    refine lv_i2l hx hb dX9_isPrimeAt_21 rfl ?_
    refine lv_ladd hx hb dX9_isPrimeAt_22 ?_
    refine lv_lconst (v := (1 : Int64)) hx hb dX9_isPrimeAt_23 (by decide) ?_
    refine W.lcmp hx hb dX9_isPrimeAt_24 ?_
    refine lv_if_le (tgt := 49) hx hb dX9_isPrimeAt_25 (by decide) (fun c_3 => ?_) (fun c_3 => ?_)
    · replace c_3 := (lg_cmp_le _ _).mp c_3
      replace h := h.1 c_3
      refine lv_iconst (v := (0 : Int32)) hx hb dX9_isPrimeAt_49 (by decide) ?_
      have hP9 := hP.sub (ws' := [(h_a0, .inr (8, [.int a0_primes, w_a0_prime, w_a0_isNone, .int a0_hasSpan, .long a0_spanFrom, .int a0_spanMany, .ref q_a0_least, w_a0_greatest, w_a0_isSquared, .int a0_hasPart, .long a0_parted, .int a0_partMany, w_a0_partPrime, w_a0_partPower, .int a0_rows, w_a0_row, .long a0_foundLeast, .long a0_foundGreatest, .int a0_foundSquare])), (q_a0_least, .inl (cJ, 5000, .inr (.inl a0_least)))]) [0, 1] rfl
      have hD9 := hD.sub (ws' := [(h_a0, .inr (8, [.int a0_primes, w_a0_prime, w_a0_isNone, .int a0_hasSpan, .long a0_spanFrom, .int a0_spanMany, .ref q_a0_least, w_a0_greatest, w_a0_isSquared, .int a0_hasPart, .long a0_parted, .int a0_partMany, w_a0_partPrime, w_a0_partPower, .int a0_rows, w_a0_row, .long a0_foundLeast, .long a0_foundGreatest, .int a0_foundSquare])), (q_a0_least, .inl (cJ, 5000, .inr (.inl a0_least)))]) [0, 1] (by decide) rfl
      exact W.zret (v := (0 : Int32)) hx hb hr (by decide) (fun t ht hW => ⟨⟨_, (), rfl, h, by rw [ht]; exact hP9, hD9⟩, hS.F ht⟩) hS.2.2 dX9_isPrimeAt_50
    · replace c_3 := lc_nle c_3
      replace h := h.2 c_3
      refine lv_aload_n hx hb dX9_isPrimeAt_28 rfl (lv_at hl 0 rfl) ?_
      refine va_get (D := (dC, dI)) (ci := 8) (v := .ref q_a0_least) (C := RX9) (T := TX9) (N := 19) hx hb hts hin_X9 hown hK hP 0 rfl rfl 6 (by decide) hw_3 (fun _ h9 => h9) rfl dX9_isPrimeAt_29 ?_
      refine lv_iload_n hx hb dX9_isPrimeAt_32 rfl (lv_at hl 1 rfl) ?_
      obtain ⟨hin_4, h⟩ := h
      refine va_lald hx hb hK hP 1 1 rfl rfl hin_4 dX9_isPrimeAt_33 ?_
      refine lv_aload_n hx hb dX9_isPrimeAt_34 rfl (lv_at hl 0 rfl) ?_
      refine va_get (D := (dC, dI)) (ci := 8) (v := .long a0_spanFrom) (C := RX9) (T := TX9) (N := 19) hx hb hts hin_X9 hown hK hP 0 rfl rfl 4 (by decide) hw_2 (fun _ h9 => h9) rfl dX9_isPrimeAt_35 ?_
      refine lv_iload_n hx hb dX9_isPrimeAt_38 rfl (lv_at hl 1 rfl) ?_
      refine lv_i2l hx hb dX9_isPrimeAt_39 rfl ?_
      refine lv_ladd hx hb dX9_isPrimeAt_40 ?_
      refine W.lcmp hx hb dX9_isPrimeAt_41 ?_
      refine lv_if_ne (tgt := 49) hx hb dX9_isPrimeAt_42 (by decide) (fun c_5 => ?_) (fun c_5 => ?_)
      · replace c_5 := lc_neq c_5
        replace h := h.2 c_5
        refine lv_iconst (v := (0 : Int32)) hx hb dX9_isPrimeAt_49 (by decide) ?_
        have hP9 := hP.sub (ws' := [(h_a0, .inr (8, [.int a0_primes, w_a0_prime, w_a0_isNone, .int a0_hasSpan, .long a0_spanFrom, .int a0_spanMany, .ref q_a0_least, w_a0_greatest, w_a0_isSquared, .int a0_hasPart, .long a0_parted, .int a0_partMany, w_a0_partPrime, w_a0_partPower, .int a0_rows, w_a0_row, .long a0_foundLeast, .long a0_foundGreatest, .int a0_foundSquare])), (q_a0_least, .inl (cJ, 5000, .inr (.inl a0_least)))]) [0, 1] rfl
        have hD9 := hD.sub (ws' := [(h_a0, .inr (8, [.int a0_primes, w_a0_prime, w_a0_isNone, .int a0_hasSpan, .long a0_spanFrom, .int a0_spanMany, .ref q_a0_least, w_a0_greatest, w_a0_isSquared, .int a0_hasPart, .long a0_parted, .int a0_partMany, w_a0_partPrime, w_a0_partPower, .int a0_rows, w_a0_row, .long a0_foundLeast, .long a0_foundGreatest, .int a0_foundSquare])), (q_a0_least, .inl (cJ, 5000, .inr (.inl a0_least)))]) [0, 1] (by decide) rfl
        exact W.zret (v := (0 : Int32)) hx hb hr (by decide) (fun t ht hW => ⟨⟨_, (), rfl, h, by rw [ht]; exact hP9, hD9⟩, hS.F ht⟩) hS.2.2 dX9_isPrimeAt_50
      · replace c_5 := (lg_cmp_eq _ _).mp c_5
        replace h := h.1 c_5
        refine lv_iconst (v := (1 : Int32)) hx hb dX9_isPrimeAt_45 (by decide) ?_
        refine lv_goto (tgt := 50) hx hb dX9_isPrimeAt_46 (by decide) ?_
        have hP9 := hP.sub (ws' := [(h_a0, .inr (8, [.int a0_primes, w_a0_prime, w_a0_isNone, .int a0_hasSpan, .long a0_spanFrom, .int a0_spanMany, .ref q_a0_least, w_a0_greatest, w_a0_isSquared, .int a0_hasPart, .long a0_parted, .int a0_partMany, w_a0_partPrime, w_a0_partPower, .int a0_rows, w_a0_row, .long a0_foundLeast, .long a0_foundGreatest, .int a0_foundSquare])), (q_a0_least, .inl (cJ, 5000, .inr (.inl a0_least)))]) [0, 1] rfl
        have hD9 := hD.sub (ws' := [(h_a0, .inr (8, [.int a0_primes, w_a0_prime, w_a0_isNone, .int a0_hasSpan, .long a0_spanFrom, .int a0_spanMany, .ref q_a0_least, w_a0_greatest, w_a0_isSquared, .int a0_hasPart, .long a0_parted, .int a0_partMany, w_a0_partPrime, w_a0_partPower, .int a0_rows, w_a0_row, .long a0_foundLeast, .long a0_foundGreatest, .int a0_foundSquare])), (q_a0_least, .inl (cJ, 5000, .inr (.inl a0_least)))]) [0, 1] (by decide) rfl
        exact W.zret (v := (1 : Int32)) hx hb hr (by decide) (fun t ht hW => ⟨⟨_, (), rfl, h, by rw [ht]; exact hP9, hD9⟩, hS.F ht⟩) hS.2.2 dX9_isPrimeAt_50
def wp_X9_spanned (a0_hasSpan : Int32) (a0_spanFrom : Int64) (a0_spanMany : Int32) (a0_least : Nat → Int64) (a0_isSquared : Nat → Int32) (p1 : Int32) (Q : Int32 → Prop) : Prop :=
  ((a0_hasSpan = (0 : Int32) → ((p1 = (4 : Int32) → Q (0 : Int32)) ∧ (¬ p1 = (4 : Int32) → Q (-1 : Int32)))) ∧ (¬ a0_hasSpan = (0 : Int32) → (∃ (I_34_1 : Int32 → Int32 → Int32 → Int32 → Int32 → Int32 → Prop) (m_34_1 : Int32 → Int32 → Int32 → Int32 → Int32 → Int32 → Nat), I_34_1 (0 : Int32) (0 : Int32) (0 : Int32) (0 : Int32) (-1 : Int32) (0 : Int32) ∧ ∀ (l7_34_1 : Int32) (l6_34_1 : Int32) (l5_34_1 : Int32) (l4_34_1 : Int32) (l3_34_1 : Int32) (l2_34_1 : Int32), I_34_1 l7_34_1 l6_34_1 l5_34_1 l4_34_1 l3_34_1 l2_34_1 → ((a0_spanMany ≤ l7_34_1 → ((p1 = (0 : Int32) → Q l2_34_1) ∧ (p1 = (1 : Int32) → Q l4_34_1) ∧ (p1 = (2 : Int32) → Q l5_34_1) ∧ (p1 = (3 : Int32) → Q l6_34_1) ∧ (p1 = (4 : Int32) → Q a0_spanMany) ∧ (¬ p1 = (0 : Int32) → ¬ p1 = (1 : Int32) → ¬ p1 = (2 : Int32) → ¬ p1 = (3 : Int32) → ¬ p1 = (4 : Int32) → Q (-1 : Int32)))) ∧ (¬ a0_spanMany ≤ l7_34_1 → (vp_in l7_34_1 5000 ∧ (((a0_isSquared l7_34_1.toNatClampNeg) = (0 : Int32) → (∀ x6_11 : Int32, x6_11 = (l6_34_1 + (1 : Int32)) → wp_X9_isPrimeAt a0_spanFrom a0_spanMany a0_least l7_34_1 (fun r_12 => ((r_12 = (0 : Int32) → (∀ x7_14 : Int32, x7_14 = l7_34_1 + (1 : Int32) → (I_34_1 x7_14 x6_11 l5_34_1 l4_34_1 l3_34_1 l2_34_1 ∧ m_34_1 x7_14 x6_11 l5_34_1 l4_34_1 l3_34_1 l2_34_1 < m_34_1 l7_34_1 l6_34_1 l5_34_1 l4_34_1 l3_34_1 l2_34_1))) ∧ (¬ r_12 = (0 : Int32) → (∀ x2_15 : Int32, x2_15 = l2_34_1 + (1 : Int32) → ((l3_34_1 < (0 : Int32) → wp_X9_isPrimeAt a0_spanFrom a0_spanMany a0_least (l7_34_1 + (2 : Int32)) (fun r_17 => ((r_17 = (0 : Int32) → (∀ x5_19 : Int32, x5_19 = (l5_34_1 + (0 : Int32)) → (∀ x7_20 : Int32, x7_20 = l7_34_1 + (1 : Int32) → (I_34_1 x7_20 x6_11 x5_19 l4_34_1 l7_34_1 x2_15 ∧ m_34_1 x7_20 x6_11 x5_19 l4_34_1 l7_34_1 x2_15 < m_34_1 l7_34_1 l6_34_1 l5_34_1 l4_34_1 l3_34_1 l2_34_1)))) ∧ (¬ r_17 = (0 : Int32) → (∀ x5_21 : Int32, x5_21 = (l5_34_1 + (1 : Int32)) → (∀ x7_22 : Int32, x7_22 = l7_34_1 + (1 : Int32) → (I_34_1 x7_22 x6_11 x5_21 l4_34_1 l7_34_1 x2_15 ∧ m_34_1 x7_22 x6_11 x5_21 l4_34_1 l7_34_1 x2_15 < m_34_1 l7_34_1 l6_34_1 l5_34_1 l4_34_1 l3_34_1 l2_34_1))))))) ∧ (¬ l3_34_1 < (0 : Int32) → (((l7_34_1 - l3_34_1) ≤ l4_34_1 → wp_X9_isPrimeAt a0_spanFrom a0_spanMany a0_least (l7_34_1 + (2 : Int32)) (fun r_24 => ((r_24 = (0 : Int32) → (∀ x5_26 : Int32, x5_26 = (l5_34_1 + (0 : Int32)) → (∀ x7_27 : Int32, x7_27 = l7_34_1 + (1 : Int32) → (I_34_1 x7_27 x6_11 x5_26 l4_34_1 l7_34_1 x2_15 ∧ m_34_1 x7_27 x6_11 x5_26 l4_34_1 l7_34_1 x2_15 < m_34_1 l7_34_1 l6_34_1 l5_34_1 l4_34_1 l3_34_1 l2_34_1)))) ∧ (¬ r_24 = (0 : Int32) → (∀ x5_28 : Int32, x5_28 = (l5_34_1 + (1 : Int32)) → (∀ x7_29 : Int32, x7_29 = l7_34_1 + (1 : Int32) → (I_34_1 x7_29 x6_11 x5_28 l4_34_1 l7_34_1 x2_15 ∧ m_34_1 x7_29 x6_11 x5_28 l4_34_1 l7_34_1 x2_15 < m_34_1 l7_34_1 l6_34_1 l5_34_1 l4_34_1 l3_34_1 l2_34_1))))))) ∧ (¬ (l7_34_1 - l3_34_1) ≤ l4_34_1 → (∀ x4_30 : Int32, x4_30 = (l7_34_1 - l3_34_1) → wp_X9_isPrimeAt a0_spanFrom a0_spanMany a0_least (l7_34_1 + (2 : Int32)) (fun r_31 => ((r_31 = (0 : Int32) → (∀ x5_33 : Int32, x5_33 = (l5_34_1 + (0 : Int32)) → (∀ x7_34 : Int32, x7_34 = l7_34_1 + (1 : Int32) → (I_34_1 x7_34 x6_11 x5_33 x4_30 l7_34_1 x2_15 ∧ m_34_1 x7_34 x6_11 x5_33 x4_30 l7_34_1 x2_15 < m_34_1 l7_34_1 l6_34_1 l5_34_1 l4_34_1 l3_34_1 l2_34_1)))) ∧ (¬ r_31 = (0 : Int32) → (∀ x5_35 : Int32, x5_35 = (l5_34_1 + (1 : Int32)) → (∀ x7_36 : Int32, x7_36 = l7_34_1 + (1 : Int32) → (I_34_1 x7_36 x6_11 x5_35 x4_30 l7_34_1 x2_15 ∧ m_34_1 x7_36 x6_11 x5_35 x4_30 l7_34_1 x2_15 < m_34_1 l7_34_1 l6_34_1 l5_34_1 l4_34_1 l3_34_1 l2_34_1))))))))))))))))) ∧ (¬ (a0_isSquared l7_34_1.toNatClampNeg) = (0 : Int32) → (∀ x6_37 : Int32, x6_37 = (l6_34_1 + (0 : Int32)) → wp_X9_isPrimeAt a0_spanFrom a0_spanMany a0_least l7_34_1 (fun r_38 => ((r_38 = (0 : Int32) → (∀ x7_40 : Int32, x7_40 = l7_34_1 + (1 : Int32) → (I_34_1 x7_40 x6_37 l5_34_1 l4_34_1 l3_34_1 l2_34_1 ∧ m_34_1 x7_40 x6_37 l5_34_1 l4_34_1 l3_34_1 l2_34_1 < m_34_1 l7_34_1 l6_34_1 l5_34_1 l4_34_1 l3_34_1 l2_34_1))) ∧ (¬ r_38 = (0 : Int32) → (∀ x2_41 : Int32, x2_41 = l2_34_1 + (1 : Int32) → ((l3_34_1 < (0 : Int32) → wp_X9_isPrimeAt a0_spanFrom a0_spanMany a0_least (l7_34_1 + (2 : Int32)) (fun r_43 => ((r_43 = (0 : Int32) → (∀ x5_45 : Int32, x5_45 = (l5_34_1 + (0 : Int32)) → (∀ x7_46 : Int32, x7_46 = l7_34_1 + (1 : Int32) → (I_34_1 x7_46 x6_37 x5_45 l4_34_1 l7_34_1 x2_41 ∧ m_34_1 x7_46 x6_37 x5_45 l4_34_1 l7_34_1 x2_41 < m_34_1 l7_34_1 l6_34_1 l5_34_1 l4_34_1 l3_34_1 l2_34_1)))) ∧ (¬ r_43 = (0 : Int32) → (∀ x5_47 : Int32, x5_47 = (l5_34_1 + (1 : Int32)) → (∀ x7_48 : Int32, x7_48 = l7_34_1 + (1 : Int32) → (I_34_1 x7_48 x6_37 x5_47 l4_34_1 l7_34_1 x2_41 ∧ m_34_1 x7_48 x6_37 x5_47 l4_34_1 l7_34_1 x2_41 < m_34_1 l7_34_1 l6_34_1 l5_34_1 l4_34_1 l3_34_1 l2_34_1))))))) ∧ (¬ l3_34_1 < (0 : Int32) → (((l7_34_1 - l3_34_1) ≤ l4_34_1 → wp_X9_isPrimeAt a0_spanFrom a0_spanMany a0_least (l7_34_1 + (2 : Int32)) (fun r_50 => ((r_50 = (0 : Int32) → (∀ x5_52 : Int32, x5_52 = (l5_34_1 + (0 : Int32)) → (∀ x7_53 : Int32, x7_53 = l7_34_1 + (1 : Int32) → (I_34_1 x7_53 x6_37 x5_52 l4_34_1 l7_34_1 x2_41 ∧ m_34_1 x7_53 x6_37 x5_52 l4_34_1 l7_34_1 x2_41 < m_34_1 l7_34_1 l6_34_1 l5_34_1 l4_34_1 l3_34_1 l2_34_1)))) ∧ (¬ r_50 = (0 : Int32) → (∀ x5_54 : Int32, x5_54 = (l5_34_1 + (1 : Int32)) → (∀ x7_55 : Int32, x7_55 = l7_34_1 + (1 : Int32) → (I_34_1 x7_55 x6_37 x5_54 l4_34_1 l7_34_1 x2_41 ∧ m_34_1 x7_55 x6_37 x5_54 l4_34_1 l7_34_1 x2_41 < m_34_1 l7_34_1 l6_34_1 l5_34_1 l4_34_1 l3_34_1 l2_34_1))))))) ∧ (¬ (l7_34_1 - l3_34_1) ≤ l4_34_1 → (∀ x4_56 : Int32, x4_56 = (l7_34_1 - l3_34_1) → wp_X9_isPrimeAt a0_spanFrom a0_spanMany a0_least (l7_34_1 + (2 : Int32)) (fun r_57 => ((r_57 = (0 : Int32) → (∀ x5_59 : Int32, x5_59 = (l5_34_1 + (0 : Int32)) → (∀ x7_60 : Int32, x7_60 = l7_34_1 + (1 : Int32) → (I_34_1 x7_60 x6_37 x5_59 x4_56 l7_34_1 x2_41 ∧ m_34_1 x7_60 x6_37 x5_59 x4_56 l7_34_1 x2_41 < m_34_1 l7_34_1 l6_34_1 l5_34_1 l4_34_1 l3_34_1 l2_34_1)))) ∧ (¬ r_57 = (0 : Int32) → (∀ x5_61 : Int32, x5_61 = (l5_34_1 + (1 : Int32)) → (∀ x7_62 : Int32, x7_62 = l7_34_1 + (1 : Int32) → (I_34_1 x7_62 x6_37 x5_61 x4_56 l7_34_1 x2_41 ∧ m_34_1 x7_62 x6_37 x5_61 x4_56 l7_34_1 x2_41 < m_34_1 l7_34_1 l6_34_1 l5_34_1 l4_34_1 l3_34_1 l2_34_1))))))))))))))))))))))))
abbrev rm_X9_spanned : Room := { frames := 2, cells := 0, slots := 0, locals := 46 }
abbrev qc_X9_spanned (dC : Nat → ClassId) (dI : Nat → Nat → Nat) (cI cJ cZ : ClassId) (h_a0 : Nat) (a0_primes : Int32) (w_a0_prime : Value) (w_a0_isNone : Value) (a0_hasSpan : Int32) (a0_spanFrom : Int64) (a0_spanMany : Int32) (a0_least : Nat → Int64) (q_a0_least : Nat) (w_a0_greatest : Value) (a0_isSquared : Nat → Int32) (q_a0_isSquared : Nat) (a0_hasPart : Int32) (a0_parted : Int64) (a0_partMany : Int32) (w_a0_partPrime : Value) (w_a0_partPower : Value) (a0_rows : Int32) (w_a0_row : Value) (a0_foundLeast : Int64) (a0_foundGreatest : Int64) (a0_foundSquare : Int32) (Q : Int32 → Prop) (A : Nat → Prop) : Array Value → State → Outcome → State → Prop := va_Qi (fun (r : Int32) (_ : Unit) => Q r) (post_ dC dI A (fun (u : Unit) => [(h_a0, .inr (8, [.int a0_primes, w_a0_prime, w_a0_isNone, .int a0_hasSpan, .long a0_spanFrom, .int a0_spanMany, .ref q_a0_least, w_a0_greatest, .ref q_a0_isSquared, .int a0_hasPart, .long a0_parted, .int a0_partMany, w_a0_partPrime, w_a0_partPower, .int a0_rows, w_a0_row, .long a0_foundLeast, .long a0_foundGreatest, .int a0_foundSquare])), (q_a0_least, .inl (cJ, 5000, .inr (.inl a0_least))), (q_a0_isSquared, .inl (cZ, 5000, .inl a0_isSquared))])) A
set_option maxHeartbeats 4000000 in
set_option maxRecDepth 100000 in
theorem c_X9_spanned (l : Launch) (dC : Nat → ClassId) (dI : Nat → Nat → Nat) (cI cJ cZ : ClassId) (sz : Nat) (h_a0 : Nat) (a0_primes : Int32) (w_a0_prime : Value) (w_a0_isNone : Value) (a0_hasSpan : Int32) (a0_spanFrom : Int64) (a0_spanMany : Int32) (a0_least : Nat → Int64) (q_a0_least : Nat) (w_a0_greatest : Value) (a0_isSquared : Nat → Int32) (q_a0_isSquared : Nat) (a0_hasPart : Int32) (a0_parted : Int64) (a0_partMany : Int32) (w_a0_partPrime : Value) (w_a0_partPower : Value) (a0_rows : Int32) (w_a0_row : Value) (a0_foundLeast : Int64) (a0_foundGreatest : Int64) (a0_foundSquare : Int32) (p1 : Int32) (Q : Int32 → Prop) (hQ : wp_X9_spanned a0_hasSpan a0_spanFrom a0_spanMany a0_least a0_isSquared p1 Q) : Met l yX9_spanned wsX9_spanned rm_X9_spanned (pre_ dC dI cI cJ cZ [.ref h_a0, .int p1] [(h_a0, .inr (8, [.int a0_primes, w_a0_prime, w_a0_isNone, .int a0_hasSpan, .long a0_spanFrom, .int a0_spanMany, .ref q_a0_least, w_a0_greatest, .ref q_a0_isSquared, .int a0_hasPart, .long a0_parted, .int a0_partMany, w_a0_partPrime, w_a0_partPower, .int a0_rows, w_a0_row, .long a0_foundLeast, .long a0_foundGreatest, .int a0_foundSquare])), (q_a0_least, .inl (cJ, 5000, .inr (.inl a0_least))), (q_a0_isSquared, .inl (cZ, 5000, .inl a0_isSquared))] sz) (qc_X9_spanned dC dI cI cJ cZ h_a0 a0_primes w_a0_prime w_a0_isNone a0_hasSpan a0_spanFrom a0_spanMany a0_least q_a0_least w_a0_greatest a0_isSquared q_a0_isSquared a0_hasPart a0_parted a0_partMany w_a0_partPrime w_a0_partPower a0_rows w_a0_row a0_foundLeast a0_foundGreatest a0_foundSquare Q (va_A [(h_a0, .inr (8, [.int a0_primes, w_a0_prime, w_a0_isNone, .int a0_hasSpan, .long a0_spanFrom, .int a0_spanMany, .ref q_a0_least, w_a0_greatest, .ref q_a0_isSquared, .int a0_hasPart, .long a0_parted, .int a0_partMany, w_a0_partPrime, w_a0_partPower, .int a0_rows, w_a0_row, .long a0_foundLeast, .long a0_foundGreatest, .int a0_foundSquare])), (q_a0_least, .inl (cJ, 5000, .inr (.inl a0_least))), (q_a0_isSquared, .inl (cZ, 5000, .inl a0_isSquared))] sz)) 0 0 (va_A [(h_a0, .inr (8, [.int a0_primes, w_a0_prime, w_a0_isNone, .int a0_hasSpan, .long a0_spanFrom, .int a0_spanMany, .ref q_a0_least, w_a0_greatest, .ref q_a0_isSquared, .int a0_hasPart, .long a0_parted, .int a0_partMany, w_a0_partPrime, w_a0_partPower, .int a0_rows, w_a0_row, .long a0_foundLeast, .long a0_foundGreatest, .int a0_foundSquare])), (q_a0_least, .inl (cJ, 5000, .inr (.inl a0_least))), (q_a0_isSquared, .inl (cZ, 5000, .inl a0_isSquared))] sz) := by
  refine Met.ofW (cc := cX9_spanned) (maxL := 8) (ret := (some .int)) (by decide) rfl ?_
  intro p e s m args below meth c s₁ B hml hv
  obtain ⟨rfl, hsz, hP, hK, hN, hD0⟩ := hv
  have hx := B.exec
  have hb := B.bytes
  have hr := B.returns
  have hts := atoms_spec (ws := wsX9_spanned) B.pre
  have hown : s.vm.findClass RX9 = some m.cls := findClass_of_methodNamed B.named
  subst hsz
  have hD := hD0.self (sz := s.heap.size)
  generalize hAe : va_A [(h_a0, .inr (8, [.int a0_primes, w_a0_prime, w_a0_isNone, .int a0_hasSpan, .long a0_spanFrom, .int a0_spanMany, .ref q_a0_least, w_a0_greatest, .ref q_a0_isSquared, .int a0_hasPart, .long a0_parted, .int a0_partMany, w_a0_partPrime, w_a0_partPower, .int a0_rows, w_a0_row, .long a0_foundLeast, .long a0_foundGreatest, .int a0_foundSquare])), (q_a0_least, .inl (cJ, 5000, .inr (.inl a0_least))), (q_a0_isSquared, .inl (cZ, 5000, .inl a0_isSquared))] s.heap.size = A at hD ⊢
  have hA : ∀ q : Nat, s.heap.size ≤ q → A q := fun q h => by rw [← hAe]; exact Or.inr h
  have hS : va_S A s.heap s.heap [] := va_S.rf
  have hl := lv_entry ([.ref h_a0, .int p1]) (n := 8) (Nat.le_of_ble_eq_true rfl)
  rw [lg_entry_eq]
  generalize (lg_sl ([.ref h_a0, .int p1]) ++ List.replicate (8 - (lg_sl ([.ref h_a0, .int p1])).length) Slot.unset).toArray = ls at hl ⊢
  have hl : lv_has ls 8 [(0, .ref h_a0), (1, .int p1)] := hl
  have h := hQ
  unfold wp_X9_spanned at h
  have hw_0 := hts (.fieldLink RX9 67 "NumberSievesModel" "hasSpan" "Z") (by decide +kernel)
  have hin_X9 : ∀ w ∈ wsX90, w ∈ wsX9_spanned := by decide +kernel
  have hw_2 := hts (.fieldLink RX9 73 "NumberSievesModel" "spanMany" "I") (by decide +kernel)
  have hw_3 := hts (.fieldLink RX9 25 "NumberSievesModel" "isSquared" "[Z") (by decide +kernel)
  refine lv_aload_n hx hb dX9_spanned_0 rfl (lv_at hl 0 rfl) ?_
  refine va_get (D := (dC, dI)) (ci := 8) (v := .int a0_hasSpan) (C := RX9) (T := TX9) (N := 19) hx hb hts hin_X9 hown hK hP 0 rfl rfl 3 (by decide) hw_0 (fun _ h9 => h9) rfl dX9_spanned_1 ?_
  refine lv_if_ne (tgt := 18) hx hb dX9_spanned_4 (by decide) (fun c_1 => ?_) (fun c_1 => ?_)
  · replace h := h.2 c_1
    refine lv_iconst (v := (0 : Int32)) hx hb dX9_spanned_18 (by decide) ?_
    refine lv_istore_n (lv' := [(2, .int (0 : Int32)), (0, .ref h_a0), (1, .int p1)]) hx hb dX9_spanned_19 rfl hl (by decide) rfl (fun ls hl => ?_)
    refine lv_iconst (v := (-1 : Int32)) hx hb dX9_spanned_20 (by decide) ?_
    refine lv_istore_n (lv' := [(3, .int (-1 : Int32)), (2, .int (0 : Int32)), (0, .ref h_a0), (1, .int p1)]) hx hb dX9_spanned_21 rfl hl (by decide) rfl (fun ls hl => ?_)
    refine lv_iconst (v := (0 : Int32)) hx hb dX9_spanned_22 (by decide) ?_
    refine lv_istore (lv' := [(4, .int (0 : Int32)), (3, .int (-1 : Int32)), (2, .int (0 : Int32)), (0, .ref h_a0), (1, .int p1)]) hx hb dX9_spanned_23 hl (by decide) rfl (fun ls hl => ?_)
    refine lv_iconst (v := (0 : Int32)) hx hb dX9_spanned_25 (by decide) ?_
    refine lv_istore (lv' := [(5, .int (0 : Int32)), (4, .int (0 : Int32)), (3, .int (-1 : Int32)), (2, .int (0 : Int32)), (0, .ref h_a0), (1, .int p1)]) hx hb dX9_spanned_26 hl (by decide) rfl (fun ls hl => ?_)
    refine lv_iconst (v := (0 : Int32)) hx hb dX9_spanned_28 (by decide) ?_
    refine lv_istore (lv' := [(6, .int (0 : Int32)), (5, .int (0 : Int32)), (4, .int (0 : Int32)), (3, .int (-1 : Int32)), (2, .int (0 : Int32)), (0, .ref h_a0), (1, .int p1)]) hx hb dX9_spanned_29 hl (by decide) rfl (fun ls hl => ?_)
    refine lv_iconst (v := (0 : Int32)) hx hb dX9_spanned_31 (by decide) ?_
    refine lv_istore (lv' := [(7, .int (0 : Int32)), (6, .int (0 : Int32)), (5, .int (0 : Int32)), (4, .int (0 : Int32)), (3, .int (-1 : Int32)), (2, .int (0 : Int32)), (0, .ref h_a0), (1, .int p1)]) hx hb dX9_spanned_32 hl (by decide) rfl (fun ls hl => ?_)
    obtain ⟨I_34_1, m_34_1, h0_34_1, hs_34_1⟩ := h
    have key_34_1 : ∀ (n : Nat) (l7_34_1 : Int32) (l6_34_1 : Int32) (l5_34_1 : Int32) (l4_34_1 : Int32) (l3_34_1 : Int32) (l2_34_1 : Int32), m_34_1 l7_34_1 l6_34_1 l5_34_1 l4_34_1 l3_34_1 l2_34_1 < n → I_34_1 l7_34_1 l6_34_1 l5_34_1 l4_34_1 l3_34_1 l2_34_1 → ∀ (ls : Array Slot) (H : Heap) (locs : List Loc), lv_has ls 8 [(7, .int l7_34_1), (6, .int l6_34_1), (5, .int l5_34_1), (4, .int l4_34_1), (3, .int l3_34_1), (2, .int l2_34_1), (0, .ref h_a0), (1, .int p1)] → va_P (dC, dI) vwCl [(h_a0, .inr (8, [.int a0_primes, w_a0_prime, w_a0_isNone, .int a0_hasSpan, .long a0_spanFrom, .int a0_spanMany, .ref q_a0_least, w_a0_greatest, .ref q_a0_isSquared, .int a0_hasPart, .long a0_parted, .int a0_partMany, w_a0_partPrime, w_a0_partPower, .int a0_rows, w_a0_row, .long a0_foundLeast, .long a0_foundGreatest, .int a0_foundSquare])), (q_a0_least, .inl (cJ, 5000, .inr (.inl a0_least))), (q_a0_isSquared, .inl (cZ, 5000, .inl a0_isSquared))] H → va_D A [(h_a0, .inr (8, [.int a0_primes, w_a0_prime, w_a0_isNone, .int a0_hasSpan, .long a0_spanFrom, .int a0_spanMany, .ref q_a0_least, w_a0_greatest, .ref q_a0_isSquared, .int a0_hasPart, .long a0_parted, .int a0_partMany, w_a0_partPrime, w_a0_partPower, .int a0_rows, w_a0_row, .long a0_foundLeast, .long a0_foundGreatest, .int a0_foundSquare])), (q_a0_least, .inl (cJ, 5000, .inr (.inl a0_least))), (q_a0_isSquared, .inl (cZ, 5000, .inl a0_isSquared))] → va_S A s.heap H locs → W p l e (headSpec wsX9_spanned rm_X9_spanned).room s m ([.ref h_a0, .int p1] : List Value).toArray below meth c H locs 0 0 (MQ below (qc_X9_spanned dC dI cI cJ cZ h_a0 a0_primes w_a0_prime w_a0_isNone a0_hasSpan a0_spanFrom a0_spanMany a0_least q_a0_least w_a0_greatest a0_isSquared q_a0_isSquared a0_hasPart a0_parted a0_partMany w_a0_partPrime w_a0_partPower a0_rows w_a0_row a0_foundLeast a0_foundGreatest a0_foundSquare Q A) ([.ref h_a0, .int p1] : List Value).toArray s 0 0 A) (F0 m 34 ls []) := by
      intro n
      induction n with
      | zero =>
        intro l7_34_1 l6_34_1 l5_34_1 l4_34_1 l3_34_1 l2_34_1 hm
        exact absurd hm (Nat.not_lt_zero _)
      | succ n ih_34_1 =>
        intro l7_34_1 l6_34_1 l5_34_1 l4_34_1 l3_34_1 l2_34_1 hm_34_1 hI ls H locs hl hP hD hS
        have h := hs_34_1 l7_34_1 l6_34_1 l5_34_1 l4_34_1 l3_34_1 l2_34_1 hI
        refine lv_iload hx hb dX9_spanned_34 (lv_at hl 0 rfl) ?_
        refine lv_aload_n hx hb dX9_spanned_36 rfl (lv_at hl 6 rfl) ?_
        refine va_get (D := (dC, dI)) (ci := 8) (v := .int a0_spanMany) (C := RX9) (T := TX9) (N := 19) hx hb hts hin_X9 hown hK hP 0 rfl rfl 5 (by decide) hw_2 (fun _ h9 => h9) rfl dX9_spanned_37 ?_
        refine lv_icmp_ge (tgt := 129) hx hb dX9_spanned_40 (by decide) (fun c_3 => ?_) (fun c_3 => ?_)
        · replace h := h.1 c_3
          refine lv_iload_n hx hb dX9_spanned_129 rfl (lv_at hl 7 rfl) ?_
          by_cases c_4 : p1 = (0 : Int32)
          · refine lv_tableIn (off := 34) (tgt := 164) hx hb dX9_spanned_130 (by rw [c_4]; decide) (by rw [c_4]; decide) (by rw [c_4]; rfl) (by decide) ?_
            replace h := h.1 c_4
            refine lv_iload_n hx hb dX9_spanned_164 rfl (lv_at hl 5 rfl) ?_
            have hP9 := hP.sub (ws' := [(h_a0, .inr (8, [.int a0_primes, w_a0_prime, w_a0_isNone, .int a0_hasSpan, .long a0_spanFrom, .int a0_spanMany, .ref q_a0_least, w_a0_greatest, .ref q_a0_isSquared, .int a0_hasPart, .long a0_parted, .int a0_partMany, w_a0_partPrime, w_a0_partPower, .int a0_rows, w_a0_row, .long a0_foundLeast, .long a0_foundGreatest, .int a0_foundSquare])), (q_a0_least, .inl (cJ, 5000, .inr (.inl a0_least))), (q_a0_isSquared, .inl (cZ, 5000, .inl a0_isSquared))]) [0, 1, 2] rfl
            have hD9 := hD.sub (ws' := [(h_a0, .inr (8, [.int a0_primes, w_a0_prime, w_a0_isNone, .int a0_hasSpan, .long a0_spanFrom, .int a0_spanMany, .ref q_a0_least, w_a0_greatest, .ref q_a0_isSquared, .int a0_hasPart, .long a0_parted, .int a0_partMany, w_a0_partPrime, w_a0_partPower, .int a0_rows, w_a0_row, .long a0_foundLeast, .long a0_foundGreatest, .int a0_foundSquare])), (q_a0_least, .inl (cJ, 5000, .inr (.inl a0_least))), (q_a0_isSquared, .inl (cZ, 5000, .inl a0_isSquared))]) [0, 1, 2] (by decide) rfl
            exact W.iret (v := l2_34_1) hx hb hr (fun t ht hW => ⟨⟨_, (), rfl, h, by rw [ht]; exact hP9, hD9⟩, hS.F ht⟩) hS.2.2 dX9_spanned_165
          by_cases c_5 : p1 = (1 : Int32)
          · refine lv_tableIn (off := 36) (tgt := 166) hx hb dX9_spanned_130 (by rw [c_5]; decide) (by rw [c_5]; decide) (by rw [c_5]; rfl) (by decide) ?_
            replace h := h.2.1 c_5
            refine lv_iload hx hb dX9_spanned_166 (lv_at hl 3 rfl) ?_
            have hP9 := hP.sub (ws' := [(h_a0, .inr (8, [.int a0_primes, w_a0_prime, w_a0_isNone, .int a0_hasSpan, .long a0_spanFrom, .int a0_spanMany, .ref q_a0_least, w_a0_greatest, .ref q_a0_isSquared, .int a0_hasPart, .long a0_parted, .int a0_partMany, w_a0_partPrime, w_a0_partPower, .int a0_rows, w_a0_row, .long a0_foundLeast, .long a0_foundGreatest, .int a0_foundSquare])), (q_a0_least, .inl (cJ, 5000, .inr (.inl a0_least))), (q_a0_isSquared, .inl (cZ, 5000, .inl a0_isSquared))]) [0, 1, 2] rfl
            have hD9 := hD.sub (ws' := [(h_a0, .inr (8, [.int a0_primes, w_a0_prime, w_a0_isNone, .int a0_hasSpan, .long a0_spanFrom, .int a0_spanMany, .ref q_a0_least, w_a0_greatest, .ref q_a0_isSquared, .int a0_hasPart, .long a0_parted, .int a0_partMany, w_a0_partPrime, w_a0_partPower, .int a0_rows, w_a0_row, .long a0_foundLeast, .long a0_foundGreatest, .int a0_foundSquare])), (q_a0_least, .inl (cJ, 5000, .inr (.inl a0_least))), (q_a0_isSquared, .inl (cZ, 5000, .inl a0_isSquared))]) [0, 1, 2] (by decide) rfl
            exact W.iret (v := l4_34_1) hx hb hr (fun t ht hW => ⟨⟨_, (), rfl, h, by rw [ht]; exact hP9, hD9⟩, hS.F ht⟩) hS.2.2 dX9_spanned_168
          by_cases c_6 : p1 = (2 : Int32)
          · refine lv_tableIn (off := 39) (tgt := 169) hx hb dX9_spanned_130 (by rw [c_6]; decide) (by rw [c_6]; decide) (by rw [c_6]; rfl) (by decide) ?_
            replace h := h.2.2.1 c_6
            refine lv_iload hx hb dX9_spanned_169 (lv_at hl 2 rfl) ?_
            have hP9 := hP.sub (ws' := [(h_a0, .inr (8, [.int a0_primes, w_a0_prime, w_a0_isNone, .int a0_hasSpan, .long a0_spanFrom, .int a0_spanMany, .ref q_a0_least, w_a0_greatest, .ref q_a0_isSquared, .int a0_hasPart, .long a0_parted, .int a0_partMany, w_a0_partPrime, w_a0_partPower, .int a0_rows, w_a0_row, .long a0_foundLeast, .long a0_foundGreatest, .int a0_foundSquare])), (q_a0_least, .inl (cJ, 5000, .inr (.inl a0_least))), (q_a0_isSquared, .inl (cZ, 5000, .inl a0_isSquared))]) [0, 1, 2] rfl
            have hD9 := hD.sub (ws' := [(h_a0, .inr (8, [.int a0_primes, w_a0_prime, w_a0_isNone, .int a0_hasSpan, .long a0_spanFrom, .int a0_spanMany, .ref q_a0_least, w_a0_greatest, .ref q_a0_isSquared, .int a0_hasPart, .long a0_parted, .int a0_partMany, w_a0_partPrime, w_a0_partPower, .int a0_rows, w_a0_row, .long a0_foundLeast, .long a0_foundGreatest, .int a0_foundSquare])), (q_a0_least, .inl (cJ, 5000, .inr (.inl a0_least))), (q_a0_isSquared, .inl (cZ, 5000, .inl a0_isSquared))]) [0, 1, 2] (by decide) rfl
            exact W.iret (v := l5_34_1) hx hb hr (fun t ht hW => ⟨⟨_, (), rfl, h, by rw [ht]; exact hP9, hD9⟩, hS.F ht⟩) hS.2.2 dX9_spanned_171
          by_cases c_7 : p1 = (3 : Int32)
          · refine lv_tableIn (off := 42) (tgt := 172) hx hb dX9_spanned_130 (by rw [c_7]; decide) (by rw [c_7]; decide) (by rw [c_7]; rfl) (by decide) ?_
            replace h := h.2.2.2.1 c_7
            refine lv_iload hx hb dX9_spanned_172 (lv_at hl 1 rfl) ?_
            have hP9 := hP.sub (ws' := [(h_a0, .inr (8, [.int a0_primes, w_a0_prime, w_a0_isNone, .int a0_hasSpan, .long a0_spanFrom, .int a0_spanMany, .ref q_a0_least, w_a0_greatest, .ref q_a0_isSquared, .int a0_hasPart, .long a0_parted, .int a0_partMany, w_a0_partPrime, w_a0_partPower, .int a0_rows, w_a0_row, .long a0_foundLeast, .long a0_foundGreatest, .int a0_foundSquare])), (q_a0_least, .inl (cJ, 5000, .inr (.inl a0_least))), (q_a0_isSquared, .inl (cZ, 5000, .inl a0_isSquared))]) [0, 1, 2] rfl
            have hD9 := hD.sub (ws' := [(h_a0, .inr (8, [.int a0_primes, w_a0_prime, w_a0_isNone, .int a0_hasSpan, .long a0_spanFrom, .int a0_spanMany, .ref q_a0_least, w_a0_greatest, .ref q_a0_isSquared, .int a0_hasPart, .long a0_parted, .int a0_partMany, w_a0_partPrime, w_a0_partPower, .int a0_rows, w_a0_row, .long a0_foundLeast, .long a0_foundGreatest, .int a0_foundSquare])), (q_a0_least, .inl (cJ, 5000, .inr (.inl a0_least))), (q_a0_isSquared, .inl (cZ, 5000, .inl a0_isSquared))]) [0, 1, 2] (by decide) rfl
            exact W.iret (v := l6_34_1) hx hb hr (fun t ht hW => ⟨⟨_, (), rfl, h, by rw [ht]; exact hP9, hD9⟩, hS.F ht⟩) hS.2.2 dX9_spanned_174
          by_cases c_8 : p1 = (4 : Int32)
          · refine lv_tableIn (off := 45) (tgt := 175) hx hb dX9_spanned_130 (by rw [c_8]; decide) (by rw [c_8]; decide) (by rw [c_8]; rfl) (by decide) ?_
            replace h := h.2.2.2.2.1 c_8
            refine lv_aload_n hx hb dX9_spanned_175 rfl (lv_at hl 6 rfl) ?_
            refine va_get (D := (dC, dI)) (ci := 8) (v := .int a0_spanMany) (C := RX9) (T := TX9) (N := 19) hx hb hts hin_X9 hown hK hP 0 rfl rfl 5 (by decide) hw_2 (fun _ h9 => h9) rfl dX9_spanned_176 ?_
            have hP9 := hP.sub (ws' := [(h_a0, .inr (8, [.int a0_primes, w_a0_prime, w_a0_isNone, .int a0_hasSpan, .long a0_spanFrom, .int a0_spanMany, .ref q_a0_least, w_a0_greatest, .ref q_a0_isSquared, .int a0_hasPart, .long a0_parted, .int a0_partMany, w_a0_partPrime, w_a0_partPower, .int a0_rows, w_a0_row, .long a0_foundLeast, .long a0_foundGreatest, .int a0_foundSquare])), (q_a0_least, .inl (cJ, 5000, .inr (.inl a0_least))), (q_a0_isSquared, .inl (cZ, 5000, .inl a0_isSquared))]) [0, 1, 2] rfl
            have hD9 := hD.sub (ws' := [(h_a0, .inr (8, [.int a0_primes, w_a0_prime, w_a0_isNone, .int a0_hasSpan, .long a0_spanFrom, .int a0_spanMany, .ref q_a0_least, w_a0_greatest, .ref q_a0_isSquared, .int a0_hasPart, .long a0_parted, .int a0_partMany, w_a0_partPrime, w_a0_partPower, .int a0_rows, w_a0_row, .long a0_foundLeast, .long a0_foundGreatest, .int a0_foundSquare])), (q_a0_least, .inl (cJ, 5000, .inr (.inl a0_least))), (q_a0_isSquared, .inl (cZ, 5000, .inl a0_isSquared))]) [0, 1, 2] (by decide) rfl
            exact W.iret (v := a0_spanMany) hx hb hr (fun t ht hW => ⟨⟨_, (), rfl, h, by rw [ht]; exact hP9, hD9⟩, hS.F ht⟩) hS.2.2 dX9_spanned_179
          have t0 : p1.toInt ≠ 0 := fun q => c_4 (Int32.toInt_inj.mp (q.trans (by decide)))
          have t1 : p1.toInt ≠ 1 := fun q => c_5 (Int32.toInt_inj.mp (q.trans (by decide)))
          have t2 : p1.toInt ≠ 2 := fun q => c_6 (Int32.toInt_inj.mp (q.trans (by decide)))
          have t3 : p1.toInt ≠ 3 := fun q => c_7 (Int32.toInt_inj.mp (q.trans (by decide)))
          have t4 : p1.toInt ≠ 4 := fun q => c_8 (Int32.toInt_inj.mp (q.trans (by decide)))
          refine lv_tableOut (tgt := 180) hx hb dX9_spanned_130 (by omega) (by decide) ?_
          replace h := h.2.2.2.2.2 c_4 c_5 c_6 c_7 c_8
          refine lv_iconst (v := (-1 : Int32)) hx hb dX9_spanned_180 (by decide) ?_
          have hP9 := hP.sub (ws' := [(h_a0, .inr (8, [.int a0_primes, w_a0_prime, w_a0_isNone, .int a0_hasSpan, .long a0_spanFrom, .int a0_spanMany, .ref q_a0_least, w_a0_greatest, .ref q_a0_isSquared, .int a0_hasPart, .long a0_parted, .int a0_partMany, w_a0_partPrime, w_a0_partPower, .int a0_rows, w_a0_row, .long a0_foundLeast, .long a0_foundGreatest, .int a0_foundSquare])), (q_a0_least, .inl (cJ, 5000, .inr (.inl a0_least))), (q_a0_isSquared, .inl (cZ, 5000, .inl a0_isSquared))]) [0, 1, 2] rfl
          have hD9 := hD.sub (ws' := [(h_a0, .inr (8, [.int a0_primes, w_a0_prime, w_a0_isNone, .int a0_hasSpan, .long a0_spanFrom, .int a0_spanMany, .ref q_a0_least, w_a0_greatest, .ref q_a0_isSquared, .int a0_hasPart, .long a0_parted, .int a0_partMany, w_a0_partPrime, w_a0_partPower, .int a0_rows, w_a0_row, .long a0_foundLeast, .long a0_foundGreatest, .int a0_foundSquare])), (q_a0_least, .inl (cJ, 5000, .inr (.inl a0_least))), (q_a0_isSquared, .inl (cZ, 5000, .inl a0_isSquared))]) [0, 1, 2] (by decide) rfl
          exact W.iret (v := (-1 : Int32)) hx hb hr (fun t ht hW => ⟨⟨_, (), rfl, h, by rw [ht]; exact hP9, hD9⟩, hS.F ht⟩) hS.2.2 dX9_spanned_181
        · replace h := h.2 c_3
          refine lv_iload hx hb dX9_spanned_43 (lv_at hl 1 rfl) ?_
          refine lv_aload_n hx hb dX9_spanned_45 rfl (lv_at hl 6 rfl) ?_
          refine va_get (D := (dC, dI)) (ci := 8) (v := .ref q_a0_isSquared) (C := RX9) (T := TX9) (N := 19) hx hb hts hin_X9 hown hK hP 0 rfl rfl 8 (by decide) hw_3 (fun _ h9 => h9) rfl dX9_spanned_46 ?_
          refine lv_iload hx hb dX9_spanned_49 (lv_at hl 0 rfl) ?_
          obtain ⟨hin_9, h⟩ := h
          refine va_zald hx hb hK hP 2 2 rfl rfl hin_9 dX9_spanned_51 ?_
          refine lv_if_eq (tgt := 59) hx hb dX9_spanned_52 (by decide) (fun c_10 => ?_) (fun c_10 => ?_)
          · replace h := h.1 c_10
            refine lv_iconst (v := (1 : Int32)) hx hb dX9_spanned_59 (by decide) ?_
            refine lv_iadd hx hb dX9_spanned_60 ?_
            refine lv_topi (fun x6_11 e_x6_11 => ?_)
            replace h := h x6_11 e_x6_11
            refine lv_istore (lv' := [(6, .int x6_11), (7, .int l7_34_1), (5, .int l5_34_1), (4, .int l4_34_1), (3, .int l3_34_1), (2, .int l2_34_1), (0, .ref h_a0), (1, .int p1)]) hx hb dX9_spanned_61 hl (by decide) rfl (fun ls hl => ?_)
            refine lv_aload_n hx hb dX9_spanned_63 rfl (lv_at hl 6 rfl) ?_
            refine lv_iload hx hb dX9_spanned_64 (lv_at hl 1 rfl) ?_
            have hPc := hP.sub (ws' := [(h_a0, .inr (8, [.int a0_primes, w_a0_prime, w_a0_isNone, .int a0_hasSpan, .long a0_spanFrom, .int a0_spanMany, .ref q_a0_least, w_a0_greatest, .ref q_a0_isSquared, .int a0_hasPart, .long a0_parted, .int a0_partMany, w_a0_partPrime, w_a0_partPower, .int a0_rows, w_a0_row, .long a0_foundLeast, .long a0_foundGreatest, .int a0_foundSquare])), (q_a0_least, .inl (cJ, 5000, .inr (.inl a0_least)))]) [0, 1] rfl
            have hDc := hD.sub (ws' := [(h_a0, .inr (8, [.int a0_primes, w_a0_prime, w_a0_isNone, .int a0_hasSpan, .long a0_spanFrom, .int a0_spanMany, .ref q_a0_least, w_a0_greatest, .ref q_a0_isSquared, .int a0_hasPart, .long a0_parted, .int a0_partMany, w_a0_partPrime, w_a0_partPower, .int a0_rows, w_a0_row, .long a0_foundLeast, .long a0_foundGreatest, .int a0_foundSquare])), (q_a0_least, .inl (cJ, 5000, .inr (.inl a0_least)))]) [0, 1] (by decide) rfl
            have hFc := va_free (wc := [(h_a0, .inr (8, [.int a0_primes, w_a0_prime, w_a0_isNone, .int a0_hasSpan, .long a0_spanFrom, .int a0_spanMany, .ref q_a0_least, w_a0_greatest, .ref q_a0_isSquared, .int a0_hasPart, .long a0_parted, .int a0_partMany, w_a0_partPrime, w_a0_partPower, .int a0_rows, w_a0_row, .long a0_foundLeast, .long a0_foundGreatest, .int a0_foundSquare])), (q_a0_least, .inl (cJ, 5000, .inr (.inl a0_least)))]) hD hS hA [0, 1] rfl
            refine va_calli (va_runV (As := [.int l7_34_1]) (rest := []) ⟨hx, hb, hml, hown, hts⟩ (c_X9_isPrimeAt l dC dI cI cJ cZ _ h_a0 a0_primes (w_a0_prime) (w_a0_isNone) a0_hasSpan a0_spanFrom a0_spanMany a0_least q_a0_least (w_a0_greatest) (.ref q_a0_isSquared) a0_hasPart a0_parted a0_partMany (w_a0_partPrime) (w_a0_partPower) a0_rows (w_a0_row) a0_foundLeast a0_foundGreatest a0_foundSquare l7_34_1 _ h) (cwV 1 hts gX9_spanned_X9_isPrimeAt rfl rfl rfl (by decide +kernel) ⟨Nat.le_of_ble_eq_true rfl, Nat.le_of_ble_eq_true rfl⟩) ⟨pre_fb, va_recv hK hPc (ci := 8) (q0 := 0) rfl rfl, pre_of hPc hDc hK hN⟩ rfl rfl hl.1 rfl (lv_room (Nat.le_of_ble_eq_true rfl)) dX9_spanned_66 ⟨by first | exact Nat.le_of_ble_eq_true rfl | exact Nat.le_refl _, by first | exact Nat.le_of_ble_eq_true rfl | exact Nat.le_refl _⟩) hS (fun q _ h => hFc q h) hFc (fun r_12 u t H1 locs ht hvm h hB hz1 hk1 hS => ?_)
            obtain ⟨hP1, hD1⟩ := hB
            rw [ht] at hP1
            try dsimp only at h
            obtain ⟨hP, hD⟩ := va_join (wr := [(q_a0_isSquared, .inl (cZ, 5000, .inl a0_isSquared))]) (w1 := [(h_a0, .inr (8, [.int a0_primes, w_a0_prime, w_a0_isNone, .int a0_hasSpan, .long a0_spanFrom, .int a0_spanMany, .ref q_a0_least, w_a0_greatest, .ref q_a0_isSquared, .int a0_hasPart, .long a0_parted, .int a0_partMany, w_a0_partPrime, w_a0_partPower, .int a0_rows, w_a0_row, .long a0_foundLeast, .long a0_foundGreatest, .int a0_foundSquare])), (q_a0_least, .inl (cJ, 5000, .inr (.inl a0_least)))]) hP hD [0, 1] [2] rfl rfl (by decide) (by decide) hk1 hFc hP1 hD1
            generalize H1 = H at hP hS ⊢
            have hP : va_P (dC, dI) vwCl [(q_a0_isSquared, .inl (cZ, 5000, .inl a0_isSquared)), (h_a0, .inr (8, [.int a0_primes, w_a0_prime, w_a0_isNone, .int a0_hasSpan, .long a0_spanFrom, .int a0_spanMany, .ref q_a0_least, w_a0_greatest, .ref q_a0_isSquared, .int a0_hasPart, .long a0_parted, .int a0_partMany, w_a0_partPrime, w_a0_partPower, .int a0_rows, w_a0_row, .long a0_foundLeast, .long a0_foundGreatest, .int a0_foundSquare])), (q_a0_least, .inl (cJ, 5000, .inr (.inl a0_least)))] H := hP
            have hD : va_D A [(q_a0_isSquared, .inl (cZ, 5000, .inl a0_isSquared)), (h_a0, .inr (8, [.int a0_primes, w_a0_prime, w_a0_isNone, .int a0_hasSpan, .long a0_spanFrom, .int a0_spanMany, .ref q_a0_least, w_a0_greatest, .ref q_a0_isSquared, .int a0_hasPart, .long a0_parted, .int a0_partMany, w_a0_partPrime, w_a0_partPower, .int a0_rows, w_a0_row, .long a0_foundLeast, .long a0_foundGreatest, .int a0_foundSquare])), (q_a0_least, .inl (cJ, 5000, .inr (.inl a0_least)))] := hD
            refine lv_if_eq (tgt := 123) hx hb dX9_spanned_69 (by decide) (fun c_13 => ?_) (fun c_13 => ?_)
            · replace h := h.1 c_13
              obtain ⟨x7_14, e_x7_14⟩ : ∃ y : Int32, y = l7_34_1 + (1 : Int32) := ⟨_, rfl⟩
              replace h := h x7_14 e_x7_14
              refine lv_iinc (v := x7_14) (lv' := [(7, .int x7_14), (6, .int x6_11), (5, .int l5_34_1), (4, .int l4_34_1), (3, .int l3_34_1), (2, .int l2_34_1), (0, .ref h_a0), (1, .int p1)]) hx hb dX9_spanned_123 hl (k := 1) rfl (by rw [e_x7_14]; rfl) (by decide) rfl (fun ls hl => ?_)
              refine lv_goto (tgt := 34) hx hb dX9_spanned_126 (by decide) ?_
              exact ih_34_1 x7_14 x6_11 l5_34_1 l4_34_1 l3_34_1 l2_34_1 (Nat.lt_of_lt_of_le h.2 (Nat.le_of_lt_succ hm_34_1)) h.1 _ _ _ (lv_sub hl [0, 1, 2, 3, 4, 5, 6, 7] rfl) (hP.sub [1, 2, 0] rfl) (hD.sub [1, 2, 0] (by decide) rfl) hS
            · replace h := h.2 c_13
              obtain ⟨x2_15, e_x2_15⟩ : ∃ y : Int32, y = l2_34_1 + (1 : Int32) := ⟨_, rfl⟩
              replace h := h x2_15 e_x2_15
              refine lv_iinc (v := x2_15) (lv' := [(2, .int x2_15), (6, .int x6_11), (7, .int l7_34_1), (5, .int l5_34_1), (4, .int l4_34_1), (3, .int l3_34_1), (0, .ref h_a0), (1, .int p1)]) hx hb dX9_spanned_72 hl (k := 5) rfl (by rw [e_x2_15]; rfl) (by decide) rfl (fun ls hl => ?_)
              refine lv_iload_n hx hb dX9_spanned_75 rfl (lv_at hl 5 rfl) ?_
              refine lv_if_lt (tgt := 95) hx hb dX9_spanned_76 (by decide) (fun c_16 => ?_) (fun c_16 => ?_)
              · replace h := h.1 c_16
                refine lv_iload hx hb dX9_spanned_95 (lv_at hl 4 rfl) ?_
                refine lv_istore (lv' := [(4, .int l4_34_1), (2, .int x2_15), (6, .int x6_11), (7, .int l7_34_1), (5, .int l5_34_1), (3, .int l3_34_1), (0, .ref h_a0), (1, .int p1)]) hx hb dX9_spanned_97 hl (by decide) rfl (fun ls hl => ?_)
                refine lv_iload hx hb dX9_spanned_99 (lv_at hl 3 rfl) ?_
                refine lv_istore_n (lv' := [(3, .int l7_34_1), (4, .int l4_34_1), (2, .int x2_15), (6, .int x6_11), (7, .int l7_34_1), (5, .int l5_34_1), (0, .ref h_a0), (1, .int p1)]) hx hb dX9_spanned_101 rfl hl (by decide) rfl (fun ls hl => ?_)
                refine lv_iload hx hb dX9_spanned_102 (lv_at hl 5 rfl) ?_
                refine lv_aload_n hx hb dX9_spanned_104 rfl (lv_at hl 6 rfl) ?_
                refine lv_iload hx hb dX9_spanned_105 (lv_at hl 4 rfl) ?_
                refine lv_iconst (v := (2 : Int32)) hx hb dX9_spanned_107 (by decide) ?_
                refine lv_iadd hx hb dX9_spanned_108 ?_
                have hPc := hP.sub (ws' := [(h_a0, .inr (8, [.int a0_primes, w_a0_prime, w_a0_isNone, .int a0_hasSpan, .long a0_spanFrom, .int a0_spanMany, .ref q_a0_least, w_a0_greatest, .ref q_a0_isSquared, .int a0_hasPart, .long a0_parted, .int a0_partMany, w_a0_partPrime, w_a0_partPower, .int a0_rows, w_a0_row, .long a0_foundLeast, .long a0_foundGreatest, .int a0_foundSquare])), (q_a0_least, .inl (cJ, 5000, .inr (.inl a0_least)))]) [1, 2] rfl
                have hDc := hD.sub (ws' := [(h_a0, .inr (8, [.int a0_primes, w_a0_prime, w_a0_isNone, .int a0_hasSpan, .long a0_spanFrom, .int a0_spanMany, .ref q_a0_least, w_a0_greatest, .ref q_a0_isSquared, .int a0_hasPart, .long a0_parted, .int a0_partMany, w_a0_partPrime, w_a0_partPower, .int a0_rows, w_a0_row, .long a0_foundLeast, .long a0_foundGreatest, .int a0_foundSquare])), (q_a0_least, .inl (cJ, 5000, .inr (.inl a0_least)))]) [1, 2] (by decide) rfl
                have hFc := va_free (wc := [(h_a0, .inr (8, [.int a0_primes, w_a0_prime, w_a0_isNone, .int a0_hasSpan, .long a0_spanFrom, .int a0_spanMany, .ref q_a0_least, w_a0_greatest, .ref q_a0_isSquared, .int a0_hasPart, .long a0_parted, .int a0_partMany, w_a0_partPrime, w_a0_partPower, .int a0_rows, w_a0_row, .long a0_foundLeast, .long a0_foundGreatest, .int a0_foundSquare])), (q_a0_least, .inl (cJ, 5000, .inr (.inl a0_least)))]) hD hS hA [1, 2] rfl
                refine va_calli (va_runV (As := [.int (l7_34_1 + (2 : Int32))]) (rest := [.int l5_34_1]) ⟨hx, hb, hml, hown, hts⟩ (c_X9_isPrimeAt l dC dI cI cJ cZ _ h_a0 a0_primes (w_a0_prime) (w_a0_isNone) a0_hasSpan a0_spanFrom a0_spanMany a0_least q_a0_least (w_a0_greatest) (.ref q_a0_isSquared) a0_hasPart a0_parted a0_partMany (w_a0_partPrime) (w_a0_partPower) a0_rows (w_a0_row) a0_foundLeast a0_foundGreatest a0_foundSquare (l7_34_1 + (2 : Int32)) _ h) (cwV 1 hts gX9_spanned_X9_isPrimeAt rfl rfl rfl (by decide +kernel) ⟨Nat.le_of_ble_eq_true rfl, Nat.le_of_ble_eq_true rfl⟩) ⟨pre_fb, va_recv hK hPc (ci := 8) (q0 := 0) rfl rfl, pre_of hPc hDc hK hN⟩ rfl rfl hl.1 rfl (lv_room (Nat.le_of_ble_eq_true rfl)) dX9_spanned_109 ⟨by first | exact Nat.le_of_ble_eq_true rfl | exact Nat.le_refl _, by first | exact Nat.le_of_ble_eq_true rfl | exact Nat.le_refl _⟩) hS (fun q _ h => hFc q h) hFc (fun r_17 u t H1 locs ht hvm h hB hz1 hk1 hS => ?_)
                obtain ⟨hP1, hD1⟩ := hB
                rw [ht] at hP1
                try dsimp only at h
                obtain ⟨hP, hD⟩ := va_join (wr := [(q_a0_isSquared, .inl (cZ, 5000, .inl a0_isSquared))]) (w1 := [(h_a0, .inr (8, [.int a0_primes, w_a0_prime, w_a0_isNone, .int a0_hasSpan, .long a0_spanFrom, .int a0_spanMany, .ref q_a0_least, w_a0_greatest, .ref q_a0_isSquared, .int a0_hasPart, .long a0_parted, .int a0_partMany, w_a0_partPrime, w_a0_partPower, .int a0_rows, w_a0_row, .long a0_foundLeast, .long a0_foundGreatest, .int a0_foundSquare])), (q_a0_least, .inl (cJ, 5000, .inr (.inl a0_least)))]) hP hD [1, 2] [0] rfl rfl (by decide) (by decide) hk1 hFc hP1 hD1
                generalize H1 = H at hP hS ⊢
                have hP : va_P (dC, dI) vwCl [(q_a0_isSquared, .inl (cZ, 5000, .inl a0_isSquared)), (h_a0, .inr (8, [.int a0_primes, w_a0_prime, w_a0_isNone, .int a0_hasSpan, .long a0_spanFrom, .int a0_spanMany, .ref q_a0_least, w_a0_greatest, .ref q_a0_isSquared, .int a0_hasPart, .long a0_parted, .int a0_partMany, w_a0_partPrime, w_a0_partPower, .int a0_rows, w_a0_row, .long a0_foundLeast, .long a0_foundGreatest, .int a0_foundSquare])), (q_a0_least, .inl (cJ, 5000, .inr (.inl a0_least)))] H := hP
                have hD : va_D A [(q_a0_isSquared, .inl (cZ, 5000, .inl a0_isSquared)), (h_a0, .inr (8, [.int a0_primes, w_a0_prime, w_a0_isNone, .int a0_hasSpan, .long a0_spanFrom, .int a0_spanMany, .ref q_a0_least, w_a0_greatest, .ref q_a0_isSquared, .int a0_hasPart, .long a0_parted, .int a0_partMany, w_a0_partPrime, w_a0_partPower, .int a0_rows, w_a0_row, .long a0_foundLeast, .long a0_foundGreatest, .int a0_foundSquare])), (q_a0_least, .inl (cJ, 5000, .inr (.inl a0_least)))] := hD
                refine lv_if_eq (tgt := 119) hx hb dX9_spanned_112 (by decide) (fun c_18 => ?_) (fun c_18 => ?_)
                · replace h := h.1 c_18
                  refine lv_iconst (v := (0 : Int32)) hx hb dX9_spanned_119 (by decide) ?_
                  refine lv_iadd hx hb dX9_spanned_120 ?_
                  refine lv_topi (fun x5_19 e_x5_19 => ?_)
                  replace h := h x5_19 e_x5_19
                  refine lv_istore (lv' := [(5, .int x5_19), (3, .int l7_34_1), (4, .int l4_34_1), (2, .int x2_15), (6, .int x6_11), (7, .int l7_34_1), (0, .ref h_a0), (1, .int p1)]) hx hb dX9_spanned_121 hl (by decide) rfl (fun ls hl => ?_)
                  obtain ⟨x7_20, e_x7_20⟩ : ∃ y : Int32, y = l7_34_1 + (1 : Int32) := ⟨_, rfl⟩
                  replace h := h x7_20 e_x7_20
                  refine lv_iinc (v := x7_20) (lv' := [(7, .int x7_20), (5, .int x5_19), (3, .int l7_34_1), (4, .int l4_34_1), (2, .int x2_15), (6, .int x6_11), (0, .ref h_a0), (1, .int p1)]) hx hb dX9_spanned_123 hl (k := 5) rfl (by rw [e_x7_20]; rfl) (by decide) rfl (fun ls hl => ?_)
                  refine lv_goto (tgt := 34) hx hb dX9_spanned_126 (by decide) ?_
                  exact ih_34_1 x7_20 x6_11 x5_19 l4_34_1 l7_34_1 x2_15 (Nat.lt_of_lt_of_le h.2 (Nat.le_of_lt_succ hm_34_1)) h.1 _ _ _ (lv_sub hl [0, 5, 1, 3, 2, 4, 6, 7] rfl) (hP.sub [1, 2, 0] rfl) (hD.sub [1, 2, 0] (by decide) rfl) hS
                · replace h := h.2 c_18
                  refine lv_iconst (v := (1 : Int32)) hx hb dX9_spanned_115 (by decide) ?_
                  refine lv_goto (tgt := 120) hx hb dX9_spanned_116 (by decide) ?_
                  refine lv_iadd hx hb dX9_spanned_120 ?_
                  refine lv_topi (fun x5_21 e_x5_21 => ?_)
                  replace h := h x5_21 e_x5_21
                  refine lv_istore (lv' := [(5, .int x5_21), (3, .int l7_34_1), (4, .int l4_34_1), (2, .int x2_15), (6, .int x6_11), (7, .int l7_34_1), (0, .ref h_a0), (1, .int p1)]) hx hb dX9_spanned_121 hl (by decide) rfl (fun ls hl => ?_)
                  obtain ⟨x7_22, e_x7_22⟩ : ∃ y : Int32, y = l7_34_1 + (1 : Int32) := ⟨_, rfl⟩
                  replace h := h x7_22 e_x7_22
                  refine lv_iinc (v := x7_22) (lv' := [(7, .int x7_22), (5, .int x5_21), (3, .int l7_34_1), (4, .int l4_34_1), (2, .int x2_15), (6, .int x6_11), (0, .ref h_a0), (1, .int p1)]) hx hb dX9_spanned_123 hl (k := 5) rfl (by rw [e_x7_22]; rfl) (by decide) rfl (fun ls hl => ?_)
                  refine lv_goto (tgt := 34) hx hb dX9_spanned_126 (by decide) ?_
                  exact ih_34_1 x7_22 x6_11 x5_21 l4_34_1 l7_34_1 x2_15 (Nat.lt_of_lt_of_le h.2 (Nat.le_of_lt_succ hm_34_1)) h.1 _ _ _ (lv_sub hl [0, 5, 1, 3, 2, 4, 6, 7] rfl) (hP.sub [1, 2, 0] rfl) (hD.sub [1, 2, 0] (by decide) rfl) hS
              · replace h := h.2 c_16
                refine lv_iload hx hb dX9_spanned_79 (lv_at hl 2 rfl) ?_
                refine lv_iload_n hx hb dX9_spanned_81 rfl (lv_at hl 5 rfl) ?_
                refine lv_isub hx hb dX9_spanned_82 ?_
                refine lv_iload hx hb dX9_spanned_83 (lv_at hl 4 rfl) ?_
                refine lv_icmp_le (tgt := 95) hx hb dX9_spanned_85 (by decide) (fun c_23 => ?_) (fun c_23 => ?_)
                · replace h := h.1 c_23
                  refine lv_iload hx hb dX9_spanned_95 (lv_at hl 4 rfl) ?_
                  refine lv_istore (lv' := [(4, .int l4_34_1), (2, .int x2_15), (6, .int x6_11), (7, .int l7_34_1), (5, .int l5_34_1), (3, .int l3_34_1), (0, .ref h_a0), (1, .int p1)]) hx hb dX9_spanned_97 hl (by decide) rfl (fun ls hl => ?_)
                  refine lv_iload hx hb dX9_spanned_99 (lv_at hl 3 rfl) ?_
                  refine lv_istore_n (lv' := [(3, .int l7_34_1), (4, .int l4_34_1), (2, .int x2_15), (6, .int x6_11), (7, .int l7_34_1), (5, .int l5_34_1), (0, .ref h_a0), (1, .int p1)]) hx hb dX9_spanned_101 rfl hl (by decide) rfl (fun ls hl => ?_)
                  refine lv_iload hx hb dX9_spanned_102 (lv_at hl 5 rfl) ?_
                  refine lv_aload_n hx hb dX9_spanned_104 rfl (lv_at hl 6 rfl) ?_
                  refine lv_iload hx hb dX9_spanned_105 (lv_at hl 4 rfl) ?_
                  refine lv_iconst (v := (2 : Int32)) hx hb dX9_spanned_107 (by decide) ?_
                  refine lv_iadd hx hb dX9_spanned_108 ?_
                  have hPc := hP.sub (ws' := [(h_a0, .inr (8, [.int a0_primes, w_a0_prime, w_a0_isNone, .int a0_hasSpan, .long a0_spanFrom, .int a0_spanMany, .ref q_a0_least, w_a0_greatest, .ref q_a0_isSquared, .int a0_hasPart, .long a0_parted, .int a0_partMany, w_a0_partPrime, w_a0_partPower, .int a0_rows, w_a0_row, .long a0_foundLeast, .long a0_foundGreatest, .int a0_foundSquare])), (q_a0_least, .inl (cJ, 5000, .inr (.inl a0_least)))]) [1, 2] rfl
                  have hDc := hD.sub (ws' := [(h_a0, .inr (8, [.int a0_primes, w_a0_prime, w_a0_isNone, .int a0_hasSpan, .long a0_spanFrom, .int a0_spanMany, .ref q_a0_least, w_a0_greatest, .ref q_a0_isSquared, .int a0_hasPart, .long a0_parted, .int a0_partMany, w_a0_partPrime, w_a0_partPower, .int a0_rows, w_a0_row, .long a0_foundLeast, .long a0_foundGreatest, .int a0_foundSquare])), (q_a0_least, .inl (cJ, 5000, .inr (.inl a0_least)))]) [1, 2] (by decide) rfl
                  have hFc := va_free (wc := [(h_a0, .inr (8, [.int a0_primes, w_a0_prime, w_a0_isNone, .int a0_hasSpan, .long a0_spanFrom, .int a0_spanMany, .ref q_a0_least, w_a0_greatest, .ref q_a0_isSquared, .int a0_hasPart, .long a0_parted, .int a0_partMany, w_a0_partPrime, w_a0_partPower, .int a0_rows, w_a0_row, .long a0_foundLeast, .long a0_foundGreatest, .int a0_foundSquare])), (q_a0_least, .inl (cJ, 5000, .inr (.inl a0_least)))]) hD hS hA [1, 2] rfl
                  refine va_calli (va_runV (As := [.int (l7_34_1 + (2 : Int32))]) (rest := [.int l5_34_1]) ⟨hx, hb, hml, hown, hts⟩ (c_X9_isPrimeAt l dC dI cI cJ cZ _ h_a0 a0_primes (w_a0_prime) (w_a0_isNone) a0_hasSpan a0_spanFrom a0_spanMany a0_least q_a0_least (w_a0_greatest) (.ref q_a0_isSquared) a0_hasPart a0_parted a0_partMany (w_a0_partPrime) (w_a0_partPower) a0_rows (w_a0_row) a0_foundLeast a0_foundGreatest a0_foundSquare (l7_34_1 + (2 : Int32)) _ h) (cwV 1 hts gX9_spanned_X9_isPrimeAt rfl rfl rfl (by decide +kernel) ⟨Nat.le_of_ble_eq_true rfl, Nat.le_of_ble_eq_true rfl⟩) ⟨pre_fb, va_recv hK hPc (ci := 8) (q0 := 0) rfl rfl, pre_of hPc hDc hK hN⟩ rfl rfl hl.1 rfl (lv_room (Nat.le_of_ble_eq_true rfl)) dX9_spanned_109 ⟨by first | exact Nat.le_of_ble_eq_true rfl | exact Nat.le_refl _, by first | exact Nat.le_of_ble_eq_true rfl | exact Nat.le_refl _⟩) hS (fun q _ h => hFc q h) hFc (fun r_24 u t H1 locs ht hvm h hB hz1 hk1 hS => ?_)
                  obtain ⟨hP1, hD1⟩ := hB
                  rw [ht] at hP1
                  try dsimp only at h
                  obtain ⟨hP, hD⟩ := va_join (wr := [(q_a0_isSquared, .inl (cZ, 5000, .inl a0_isSquared))]) (w1 := [(h_a0, .inr (8, [.int a0_primes, w_a0_prime, w_a0_isNone, .int a0_hasSpan, .long a0_spanFrom, .int a0_spanMany, .ref q_a0_least, w_a0_greatest, .ref q_a0_isSquared, .int a0_hasPart, .long a0_parted, .int a0_partMany, w_a0_partPrime, w_a0_partPower, .int a0_rows, w_a0_row, .long a0_foundLeast, .long a0_foundGreatest, .int a0_foundSquare])), (q_a0_least, .inl (cJ, 5000, .inr (.inl a0_least)))]) hP hD [1, 2] [0] rfl rfl (by decide) (by decide) hk1 hFc hP1 hD1
                  generalize H1 = H at hP hS ⊢
                  have hP : va_P (dC, dI) vwCl [(q_a0_isSquared, .inl (cZ, 5000, .inl a0_isSquared)), (h_a0, .inr (8, [.int a0_primes, w_a0_prime, w_a0_isNone, .int a0_hasSpan, .long a0_spanFrom, .int a0_spanMany, .ref q_a0_least, w_a0_greatest, .ref q_a0_isSquared, .int a0_hasPart, .long a0_parted, .int a0_partMany, w_a0_partPrime, w_a0_partPower, .int a0_rows, w_a0_row, .long a0_foundLeast, .long a0_foundGreatest, .int a0_foundSquare])), (q_a0_least, .inl (cJ, 5000, .inr (.inl a0_least)))] H := hP
                  have hD : va_D A [(q_a0_isSquared, .inl (cZ, 5000, .inl a0_isSquared)), (h_a0, .inr (8, [.int a0_primes, w_a0_prime, w_a0_isNone, .int a0_hasSpan, .long a0_spanFrom, .int a0_spanMany, .ref q_a0_least, w_a0_greatest, .ref q_a0_isSquared, .int a0_hasPart, .long a0_parted, .int a0_partMany, w_a0_partPrime, w_a0_partPower, .int a0_rows, w_a0_row, .long a0_foundLeast, .long a0_foundGreatest, .int a0_foundSquare])), (q_a0_least, .inl (cJ, 5000, .inr (.inl a0_least)))] := hD
                  refine lv_if_eq (tgt := 119) hx hb dX9_spanned_112 (by decide) (fun c_25 => ?_) (fun c_25 => ?_)
                  · replace h := h.1 c_25
                    refine lv_iconst (v := (0 : Int32)) hx hb dX9_spanned_119 (by decide) ?_
                    refine lv_iadd hx hb dX9_spanned_120 ?_
                    refine lv_topi (fun x5_26 e_x5_26 => ?_)
                    replace h := h x5_26 e_x5_26
                    refine lv_istore (lv' := [(5, .int x5_26), (3, .int l7_34_1), (4, .int l4_34_1), (2, .int x2_15), (6, .int x6_11), (7, .int l7_34_1), (0, .ref h_a0), (1, .int p1)]) hx hb dX9_spanned_121 hl (by decide) rfl (fun ls hl => ?_)
                    obtain ⟨x7_27, e_x7_27⟩ : ∃ y : Int32, y = l7_34_1 + (1 : Int32) := ⟨_, rfl⟩
                    replace h := h x7_27 e_x7_27
                    refine lv_iinc (v := x7_27) (lv' := [(7, .int x7_27), (5, .int x5_26), (3, .int l7_34_1), (4, .int l4_34_1), (2, .int x2_15), (6, .int x6_11), (0, .ref h_a0), (1, .int p1)]) hx hb dX9_spanned_123 hl (k := 5) rfl (by rw [e_x7_27]; rfl) (by decide) rfl (fun ls hl => ?_)
                    refine lv_goto (tgt := 34) hx hb dX9_spanned_126 (by decide) ?_
                    exact ih_34_1 x7_27 x6_11 x5_26 l4_34_1 l7_34_1 x2_15 (Nat.lt_of_lt_of_le h.2 (Nat.le_of_lt_succ hm_34_1)) h.1 _ _ _ (lv_sub hl [0, 5, 1, 3, 2, 4, 6, 7] rfl) (hP.sub [1, 2, 0] rfl) (hD.sub [1, 2, 0] (by decide) rfl) hS
                  · replace h := h.2 c_25
                    refine lv_iconst (v := (1 : Int32)) hx hb dX9_spanned_115 (by decide) ?_
                    refine lv_goto (tgt := 120) hx hb dX9_spanned_116 (by decide) ?_
                    refine lv_iadd hx hb dX9_spanned_120 ?_
                    refine lv_topi (fun x5_28 e_x5_28 => ?_)
                    replace h := h x5_28 e_x5_28
                    refine lv_istore (lv' := [(5, .int x5_28), (3, .int l7_34_1), (4, .int l4_34_1), (2, .int x2_15), (6, .int x6_11), (7, .int l7_34_1), (0, .ref h_a0), (1, .int p1)]) hx hb dX9_spanned_121 hl (by decide) rfl (fun ls hl => ?_)
                    obtain ⟨x7_29, e_x7_29⟩ : ∃ y : Int32, y = l7_34_1 + (1 : Int32) := ⟨_, rfl⟩
                    replace h := h x7_29 e_x7_29
                    refine lv_iinc (v := x7_29) (lv' := [(7, .int x7_29), (5, .int x5_28), (3, .int l7_34_1), (4, .int l4_34_1), (2, .int x2_15), (6, .int x6_11), (0, .ref h_a0), (1, .int p1)]) hx hb dX9_spanned_123 hl (k := 5) rfl (by rw [e_x7_29]; rfl) (by decide) rfl (fun ls hl => ?_)
                    refine lv_goto (tgt := 34) hx hb dX9_spanned_126 (by decide) ?_
                    exact ih_34_1 x7_29 x6_11 x5_28 l4_34_1 l7_34_1 x2_15 (Nat.lt_of_lt_of_le h.2 (Nat.le_of_lt_succ hm_34_1)) h.1 _ _ _ (lv_sub hl [0, 5, 1, 3, 2, 4, 6, 7] rfl) (hP.sub [1, 2, 0] rfl) (hD.sub [1, 2, 0] (by decide) rfl) hS
                · replace h := h.2 c_23
                  refine lv_iload hx hb dX9_spanned_88 (lv_at hl 2 rfl) ?_
                  refine lv_iload_n hx hb dX9_spanned_90 rfl (lv_at hl 5 rfl) ?_
                  refine lv_isub hx hb dX9_spanned_91 ?_
                  refine lv_goto (tgt := 97) hx hb dX9_spanned_92 (by decide) ?_
                  refine lv_topi (fun x4_30 e_x4_30 => ?_)
                  replace h := h x4_30 e_x4_30
                  refine lv_istore (lv' := [(4, .int x4_30), (2, .int x2_15), (6, .int x6_11), (7, .int l7_34_1), (5, .int l5_34_1), (3, .int l3_34_1), (0, .ref h_a0), (1, .int p1)]) hx hb dX9_spanned_97 hl (by decide) rfl (fun ls hl => ?_)
                  refine lv_iload hx hb dX9_spanned_99 (lv_at hl 3 rfl) ?_
                  refine lv_istore_n (lv' := [(3, .int l7_34_1), (4, .int x4_30), (2, .int x2_15), (6, .int x6_11), (7, .int l7_34_1), (5, .int l5_34_1), (0, .ref h_a0), (1, .int p1)]) hx hb dX9_spanned_101 rfl hl (by decide) rfl (fun ls hl => ?_)
                  refine lv_iload hx hb dX9_spanned_102 (lv_at hl 5 rfl) ?_
                  refine lv_aload_n hx hb dX9_spanned_104 rfl (lv_at hl 6 rfl) ?_
                  refine lv_iload hx hb dX9_spanned_105 (lv_at hl 4 rfl) ?_
                  refine lv_iconst (v := (2 : Int32)) hx hb dX9_spanned_107 (by decide) ?_
                  refine lv_iadd hx hb dX9_spanned_108 ?_
                  have hPc := hP.sub (ws' := [(h_a0, .inr (8, [.int a0_primes, w_a0_prime, w_a0_isNone, .int a0_hasSpan, .long a0_spanFrom, .int a0_spanMany, .ref q_a0_least, w_a0_greatest, .ref q_a0_isSquared, .int a0_hasPart, .long a0_parted, .int a0_partMany, w_a0_partPrime, w_a0_partPower, .int a0_rows, w_a0_row, .long a0_foundLeast, .long a0_foundGreatest, .int a0_foundSquare])), (q_a0_least, .inl (cJ, 5000, .inr (.inl a0_least)))]) [1, 2] rfl
                  have hDc := hD.sub (ws' := [(h_a0, .inr (8, [.int a0_primes, w_a0_prime, w_a0_isNone, .int a0_hasSpan, .long a0_spanFrom, .int a0_spanMany, .ref q_a0_least, w_a0_greatest, .ref q_a0_isSquared, .int a0_hasPart, .long a0_parted, .int a0_partMany, w_a0_partPrime, w_a0_partPower, .int a0_rows, w_a0_row, .long a0_foundLeast, .long a0_foundGreatest, .int a0_foundSquare])), (q_a0_least, .inl (cJ, 5000, .inr (.inl a0_least)))]) [1, 2] (by decide) rfl
                  have hFc := va_free (wc := [(h_a0, .inr (8, [.int a0_primes, w_a0_prime, w_a0_isNone, .int a0_hasSpan, .long a0_spanFrom, .int a0_spanMany, .ref q_a0_least, w_a0_greatest, .ref q_a0_isSquared, .int a0_hasPart, .long a0_parted, .int a0_partMany, w_a0_partPrime, w_a0_partPower, .int a0_rows, w_a0_row, .long a0_foundLeast, .long a0_foundGreatest, .int a0_foundSquare])), (q_a0_least, .inl (cJ, 5000, .inr (.inl a0_least)))]) hD hS hA [1, 2] rfl
                  refine va_calli (va_runV (As := [.int (l7_34_1 + (2 : Int32))]) (rest := [.int l5_34_1]) ⟨hx, hb, hml, hown, hts⟩ (c_X9_isPrimeAt l dC dI cI cJ cZ _ h_a0 a0_primes (w_a0_prime) (w_a0_isNone) a0_hasSpan a0_spanFrom a0_spanMany a0_least q_a0_least (w_a0_greatest) (.ref q_a0_isSquared) a0_hasPart a0_parted a0_partMany (w_a0_partPrime) (w_a0_partPower) a0_rows (w_a0_row) a0_foundLeast a0_foundGreatest a0_foundSquare (l7_34_1 + (2 : Int32)) _ h) (cwV 1 hts gX9_spanned_X9_isPrimeAt rfl rfl rfl (by decide +kernel) ⟨Nat.le_of_ble_eq_true rfl, Nat.le_of_ble_eq_true rfl⟩) ⟨pre_fb, va_recv hK hPc (ci := 8) (q0 := 0) rfl rfl, pre_of hPc hDc hK hN⟩ rfl rfl hl.1 rfl (lv_room (Nat.le_of_ble_eq_true rfl)) dX9_spanned_109 ⟨by first | exact Nat.le_of_ble_eq_true rfl | exact Nat.le_refl _, by first | exact Nat.le_of_ble_eq_true rfl | exact Nat.le_refl _⟩) hS (fun q _ h => hFc q h) hFc (fun r_31 u t H1 locs ht hvm h hB hz1 hk1 hS => ?_)
                  obtain ⟨hP1, hD1⟩ := hB
                  rw [ht] at hP1
                  try dsimp only at h
                  obtain ⟨hP, hD⟩ := va_join (wr := [(q_a0_isSquared, .inl (cZ, 5000, .inl a0_isSquared))]) (w1 := [(h_a0, .inr (8, [.int a0_primes, w_a0_prime, w_a0_isNone, .int a0_hasSpan, .long a0_spanFrom, .int a0_spanMany, .ref q_a0_least, w_a0_greatest, .ref q_a0_isSquared, .int a0_hasPart, .long a0_parted, .int a0_partMany, w_a0_partPrime, w_a0_partPower, .int a0_rows, w_a0_row, .long a0_foundLeast, .long a0_foundGreatest, .int a0_foundSquare])), (q_a0_least, .inl (cJ, 5000, .inr (.inl a0_least)))]) hP hD [1, 2] [0] rfl rfl (by decide) (by decide) hk1 hFc hP1 hD1
                  generalize H1 = H at hP hS ⊢
                  have hP : va_P (dC, dI) vwCl [(q_a0_isSquared, .inl (cZ, 5000, .inl a0_isSquared)), (h_a0, .inr (8, [.int a0_primes, w_a0_prime, w_a0_isNone, .int a0_hasSpan, .long a0_spanFrom, .int a0_spanMany, .ref q_a0_least, w_a0_greatest, .ref q_a0_isSquared, .int a0_hasPart, .long a0_parted, .int a0_partMany, w_a0_partPrime, w_a0_partPower, .int a0_rows, w_a0_row, .long a0_foundLeast, .long a0_foundGreatest, .int a0_foundSquare])), (q_a0_least, .inl (cJ, 5000, .inr (.inl a0_least)))] H := hP
                  have hD : va_D A [(q_a0_isSquared, .inl (cZ, 5000, .inl a0_isSquared)), (h_a0, .inr (8, [.int a0_primes, w_a0_prime, w_a0_isNone, .int a0_hasSpan, .long a0_spanFrom, .int a0_spanMany, .ref q_a0_least, w_a0_greatest, .ref q_a0_isSquared, .int a0_hasPart, .long a0_parted, .int a0_partMany, w_a0_partPrime, w_a0_partPower, .int a0_rows, w_a0_row, .long a0_foundLeast, .long a0_foundGreatest, .int a0_foundSquare])), (q_a0_least, .inl (cJ, 5000, .inr (.inl a0_least)))] := hD
                  refine lv_if_eq (tgt := 119) hx hb dX9_spanned_112 (by decide) (fun c_32 => ?_) (fun c_32 => ?_)
                  · replace h := h.1 c_32
                    refine lv_iconst (v := (0 : Int32)) hx hb dX9_spanned_119 (by decide) ?_
                    refine lv_iadd hx hb dX9_spanned_120 ?_
                    refine lv_topi (fun x5_33 e_x5_33 => ?_)
                    replace h := h x5_33 e_x5_33
                    refine lv_istore (lv' := [(5, .int x5_33), (3, .int l7_34_1), (4, .int x4_30), (2, .int x2_15), (6, .int x6_11), (7, .int l7_34_1), (0, .ref h_a0), (1, .int p1)]) hx hb dX9_spanned_121 hl (by decide) rfl (fun ls hl => ?_)
                    obtain ⟨x7_34, e_x7_34⟩ : ∃ y : Int32, y = l7_34_1 + (1 : Int32) := ⟨_, rfl⟩
                    replace h := h x7_34 e_x7_34
                    refine lv_iinc (v := x7_34) (lv' := [(7, .int x7_34), (5, .int x5_33), (3, .int l7_34_1), (4, .int x4_30), (2, .int x2_15), (6, .int x6_11), (0, .ref h_a0), (1, .int p1)]) hx hb dX9_spanned_123 hl (k := 5) rfl (by rw [e_x7_34]; rfl) (by decide) rfl (fun ls hl => ?_)
                    refine lv_goto (tgt := 34) hx hb dX9_spanned_126 (by decide) ?_
                    exact ih_34_1 x7_34 x6_11 x5_33 x4_30 l7_34_1 x2_15 (Nat.lt_of_lt_of_le h.2 (Nat.le_of_lt_succ hm_34_1)) h.1 _ _ _ (lv_sub hl [0, 5, 1, 3, 2, 4, 6, 7] rfl) (hP.sub [1, 2, 0] rfl) (hD.sub [1, 2, 0] (by decide) rfl) hS
                  · replace h := h.2 c_32
                    refine lv_iconst (v := (1 : Int32)) hx hb dX9_spanned_115 (by decide) ?_
                    refine lv_goto (tgt := 120) hx hb dX9_spanned_116 (by decide) ?_
                    refine lv_iadd hx hb dX9_spanned_120 ?_
                    refine lv_topi (fun x5_35 e_x5_35 => ?_)
                    replace h := h x5_35 e_x5_35
                    refine lv_istore (lv' := [(5, .int x5_35), (3, .int l7_34_1), (4, .int x4_30), (2, .int x2_15), (6, .int x6_11), (7, .int l7_34_1), (0, .ref h_a0), (1, .int p1)]) hx hb dX9_spanned_121 hl (by decide) rfl (fun ls hl => ?_)
                    obtain ⟨x7_36, e_x7_36⟩ : ∃ y : Int32, y = l7_34_1 + (1 : Int32) := ⟨_, rfl⟩
                    replace h := h x7_36 e_x7_36
                    refine lv_iinc (v := x7_36) (lv' := [(7, .int x7_36), (5, .int x5_35), (3, .int l7_34_1), (4, .int x4_30), (2, .int x2_15), (6, .int x6_11), (0, .ref h_a0), (1, .int p1)]) hx hb dX9_spanned_123 hl (k := 5) rfl (by rw [e_x7_36]; rfl) (by decide) rfl (fun ls hl => ?_)
                    refine lv_goto (tgt := 34) hx hb dX9_spanned_126 (by decide) ?_
                    exact ih_34_1 x7_36 x6_11 x5_35 x4_30 l7_34_1 x2_15 (Nat.lt_of_lt_of_le h.2 (Nat.le_of_lt_succ hm_34_1)) h.1 _ _ _ (lv_sub hl [0, 5, 1, 3, 2, 4, 6, 7] rfl) (hP.sub [1, 2, 0] rfl) (hD.sub [1, 2, 0] (by decide) rfl) hS
          · replace h := h.2 c_10
            refine lv_iconst (v := (0 : Int32)) hx hb dX9_spanned_55 (by decide) ?_
            refine lv_goto (tgt := 60) hx hb dX9_spanned_56 (by decide) ?_
            refine lv_iadd hx hb dX9_spanned_60 ?_
            refine lv_topi (fun x6_37 e_x6_37 => ?_)
            replace h := h x6_37 e_x6_37
            refine lv_istore (lv' := [(6, .int x6_37), (7, .int l7_34_1), (5, .int l5_34_1), (4, .int l4_34_1), (3, .int l3_34_1), (2, .int l2_34_1), (0, .ref h_a0), (1, .int p1)]) hx hb dX9_spanned_61 hl (by decide) rfl (fun ls hl => ?_)
            refine lv_aload_n hx hb dX9_spanned_63 rfl (lv_at hl 6 rfl) ?_
            refine lv_iload hx hb dX9_spanned_64 (lv_at hl 1 rfl) ?_
            have hPc := hP.sub (ws' := [(h_a0, .inr (8, [.int a0_primes, w_a0_prime, w_a0_isNone, .int a0_hasSpan, .long a0_spanFrom, .int a0_spanMany, .ref q_a0_least, w_a0_greatest, .ref q_a0_isSquared, .int a0_hasPart, .long a0_parted, .int a0_partMany, w_a0_partPrime, w_a0_partPower, .int a0_rows, w_a0_row, .long a0_foundLeast, .long a0_foundGreatest, .int a0_foundSquare])), (q_a0_least, .inl (cJ, 5000, .inr (.inl a0_least)))]) [0, 1] rfl
            have hDc := hD.sub (ws' := [(h_a0, .inr (8, [.int a0_primes, w_a0_prime, w_a0_isNone, .int a0_hasSpan, .long a0_spanFrom, .int a0_spanMany, .ref q_a0_least, w_a0_greatest, .ref q_a0_isSquared, .int a0_hasPart, .long a0_parted, .int a0_partMany, w_a0_partPrime, w_a0_partPower, .int a0_rows, w_a0_row, .long a0_foundLeast, .long a0_foundGreatest, .int a0_foundSquare])), (q_a0_least, .inl (cJ, 5000, .inr (.inl a0_least)))]) [0, 1] (by decide) rfl
            have hFc := va_free (wc := [(h_a0, .inr (8, [.int a0_primes, w_a0_prime, w_a0_isNone, .int a0_hasSpan, .long a0_spanFrom, .int a0_spanMany, .ref q_a0_least, w_a0_greatest, .ref q_a0_isSquared, .int a0_hasPart, .long a0_parted, .int a0_partMany, w_a0_partPrime, w_a0_partPower, .int a0_rows, w_a0_row, .long a0_foundLeast, .long a0_foundGreatest, .int a0_foundSquare])), (q_a0_least, .inl (cJ, 5000, .inr (.inl a0_least)))]) hD hS hA [0, 1] rfl
            refine va_calli (va_runV (As := [.int l7_34_1]) (rest := []) ⟨hx, hb, hml, hown, hts⟩ (c_X9_isPrimeAt l dC dI cI cJ cZ _ h_a0 a0_primes (w_a0_prime) (w_a0_isNone) a0_hasSpan a0_spanFrom a0_spanMany a0_least q_a0_least (w_a0_greatest) (.ref q_a0_isSquared) a0_hasPart a0_parted a0_partMany (w_a0_partPrime) (w_a0_partPower) a0_rows (w_a0_row) a0_foundLeast a0_foundGreatest a0_foundSquare l7_34_1 _ h) (cwV 1 hts gX9_spanned_X9_isPrimeAt rfl rfl rfl (by decide +kernel) ⟨Nat.le_of_ble_eq_true rfl, Nat.le_of_ble_eq_true rfl⟩) ⟨pre_fb, va_recv hK hPc (ci := 8) (q0 := 0) rfl rfl, pre_of hPc hDc hK hN⟩ rfl rfl hl.1 rfl (lv_room (Nat.le_of_ble_eq_true rfl)) dX9_spanned_66 ⟨by first | exact Nat.le_of_ble_eq_true rfl | exact Nat.le_refl _, by first | exact Nat.le_of_ble_eq_true rfl | exact Nat.le_refl _⟩) hS (fun q _ h => hFc q h) hFc (fun r_38 u t H1 locs ht hvm h hB hz1 hk1 hS => ?_)
            obtain ⟨hP1, hD1⟩ := hB
            rw [ht] at hP1
            try dsimp only at h
            obtain ⟨hP, hD⟩ := va_join (wr := [(q_a0_isSquared, .inl (cZ, 5000, .inl a0_isSquared))]) (w1 := [(h_a0, .inr (8, [.int a0_primes, w_a0_prime, w_a0_isNone, .int a0_hasSpan, .long a0_spanFrom, .int a0_spanMany, .ref q_a0_least, w_a0_greatest, .ref q_a0_isSquared, .int a0_hasPart, .long a0_parted, .int a0_partMany, w_a0_partPrime, w_a0_partPower, .int a0_rows, w_a0_row, .long a0_foundLeast, .long a0_foundGreatest, .int a0_foundSquare])), (q_a0_least, .inl (cJ, 5000, .inr (.inl a0_least)))]) hP hD [0, 1] [2] rfl rfl (by decide) (by decide) hk1 hFc hP1 hD1
            generalize H1 = H at hP hS ⊢
            have hP : va_P (dC, dI) vwCl [(q_a0_isSquared, .inl (cZ, 5000, .inl a0_isSquared)), (h_a0, .inr (8, [.int a0_primes, w_a0_prime, w_a0_isNone, .int a0_hasSpan, .long a0_spanFrom, .int a0_spanMany, .ref q_a0_least, w_a0_greatest, .ref q_a0_isSquared, .int a0_hasPart, .long a0_parted, .int a0_partMany, w_a0_partPrime, w_a0_partPower, .int a0_rows, w_a0_row, .long a0_foundLeast, .long a0_foundGreatest, .int a0_foundSquare])), (q_a0_least, .inl (cJ, 5000, .inr (.inl a0_least)))] H := hP
            have hD : va_D A [(q_a0_isSquared, .inl (cZ, 5000, .inl a0_isSquared)), (h_a0, .inr (8, [.int a0_primes, w_a0_prime, w_a0_isNone, .int a0_hasSpan, .long a0_spanFrom, .int a0_spanMany, .ref q_a0_least, w_a0_greatest, .ref q_a0_isSquared, .int a0_hasPart, .long a0_parted, .int a0_partMany, w_a0_partPrime, w_a0_partPower, .int a0_rows, w_a0_row, .long a0_foundLeast, .long a0_foundGreatest, .int a0_foundSquare])), (q_a0_least, .inl (cJ, 5000, .inr (.inl a0_least)))] := hD
            refine lv_if_eq (tgt := 123) hx hb dX9_spanned_69 (by decide) (fun c_39 => ?_) (fun c_39 => ?_)
            · replace h := h.1 c_39
              obtain ⟨x7_40, e_x7_40⟩ : ∃ y : Int32, y = l7_34_1 + (1 : Int32) := ⟨_, rfl⟩
              replace h := h x7_40 e_x7_40
              refine lv_iinc (v := x7_40) (lv' := [(7, .int x7_40), (6, .int x6_37), (5, .int l5_34_1), (4, .int l4_34_1), (3, .int l3_34_1), (2, .int l2_34_1), (0, .ref h_a0), (1, .int p1)]) hx hb dX9_spanned_123 hl (k := 1) rfl (by rw [e_x7_40]; rfl) (by decide) rfl (fun ls hl => ?_)
              refine lv_goto (tgt := 34) hx hb dX9_spanned_126 (by decide) ?_
              exact ih_34_1 x7_40 x6_37 l5_34_1 l4_34_1 l3_34_1 l2_34_1 (Nat.lt_of_lt_of_le h.2 (Nat.le_of_lt_succ hm_34_1)) h.1 _ _ _ (lv_sub hl [0, 1, 2, 3, 4, 5, 6, 7] rfl) (hP.sub [1, 2, 0] rfl) (hD.sub [1, 2, 0] (by decide) rfl) hS
            · replace h := h.2 c_39
              obtain ⟨x2_41, e_x2_41⟩ : ∃ y : Int32, y = l2_34_1 + (1 : Int32) := ⟨_, rfl⟩
              replace h := h x2_41 e_x2_41
              refine lv_iinc (v := x2_41) (lv' := [(2, .int x2_41), (6, .int x6_37), (7, .int l7_34_1), (5, .int l5_34_1), (4, .int l4_34_1), (3, .int l3_34_1), (0, .ref h_a0), (1, .int p1)]) hx hb dX9_spanned_72 hl (k := 5) rfl (by rw [e_x2_41]; rfl) (by decide) rfl (fun ls hl => ?_)
              refine lv_iload_n hx hb dX9_spanned_75 rfl (lv_at hl 5 rfl) ?_
              refine lv_if_lt (tgt := 95) hx hb dX9_spanned_76 (by decide) (fun c_42 => ?_) (fun c_42 => ?_)
              · replace h := h.1 c_42
                refine lv_iload hx hb dX9_spanned_95 (lv_at hl 4 rfl) ?_
                refine lv_istore (lv' := [(4, .int l4_34_1), (2, .int x2_41), (6, .int x6_37), (7, .int l7_34_1), (5, .int l5_34_1), (3, .int l3_34_1), (0, .ref h_a0), (1, .int p1)]) hx hb dX9_spanned_97 hl (by decide) rfl (fun ls hl => ?_)
                refine lv_iload hx hb dX9_spanned_99 (lv_at hl 3 rfl) ?_
                refine lv_istore_n (lv' := [(3, .int l7_34_1), (4, .int l4_34_1), (2, .int x2_41), (6, .int x6_37), (7, .int l7_34_1), (5, .int l5_34_1), (0, .ref h_a0), (1, .int p1)]) hx hb dX9_spanned_101 rfl hl (by decide) rfl (fun ls hl => ?_)
                refine lv_iload hx hb dX9_spanned_102 (lv_at hl 5 rfl) ?_
                refine lv_aload_n hx hb dX9_spanned_104 rfl (lv_at hl 6 rfl) ?_
                refine lv_iload hx hb dX9_spanned_105 (lv_at hl 4 rfl) ?_
                refine lv_iconst (v := (2 : Int32)) hx hb dX9_spanned_107 (by decide) ?_
                refine lv_iadd hx hb dX9_spanned_108 ?_
                have hPc := hP.sub (ws' := [(h_a0, .inr (8, [.int a0_primes, w_a0_prime, w_a0_isNone, .int a0_hasSpan, .long a0_spanFrom, .int a0_spanMany, .ref q_a0_least, w_a0_greatest, .ref q_a0_isSquared, .int a0_hasPart, .long a0_parted, .int a0_partMany, w_a0_partPrime, w_a0_partPower, .int a0_rows, w_a0_row, .long a0_foundLeast, .long a0_foundGreatest, .int a0_foundSquare])), (q_a0_least, .inl (cJ, 5000, .inr (.inl a0_least)))]) [1, 2] rfl
                have hDc := hD.sub (ws' := [(h_a0, .inr (8, [.int a0_primes, w_a0_prime, w_a0_isNone, .int a0_hasSpan, .long a0_spanFrom, .int a0_spanMany, .ref q_a0_least, w_a0_greatest, .ref q_a0_isSquared, .int a0_hasPart, .long a0_parted, .int a0_partMany, w_a0_partPrime, w_a0_partPower, .int a0_rows, w_a0_row, .long a0_foundLeast, .long a0_foundGreatest, .int a0_foundSquare])), (q_a0_least, .inl (cJ, 5000, .inr (.inl a0_least)))]) [1, 2] (by decide) rfl
                have hFc := va_free (wc := [(h_a0, .inr (8, [.int a0_primes, w_a0_prime, w_a0_isNone, .int a0_hasSpan, .long a0_spanFrom, .int a0_spanMany, .ref q_a0_least, w_a0_greatest, .ref q_a0_isSquared, .int a0_hasPart, .long a0_parted, .int a0_partMany, w_a0_partPrime, w_a0_partPower, .int a0_rows, w_a0_row, .long a0_foundLeast, .long a0_foundGreatest, .int a0_foundSquare])), (q_a0_least, .inl (cJ, 5000, .inr (.inl a0_least)))]) hD hS hA [1, 2] rfl
                refine va_calli (va_runV (As := [.int (l7_34_1 + (2 : Int32))]) (rest := [.int l5_34_1]) ⟨hx, hb, hml, hown, hts⟩ (c_X9_isPrimeAt l dC dI cI cJ cZ _ h_a0 a0_primes (w_a0_prime) (w_a0_isNone) a0_hasSpan a0_spanFrom a0_spanMany a0_least q_a0_least (w_a0_greatest) (.ref q_a0_isSquared) a0_hasPart a0_parted a0_partMany (w_a0_partPrime) (w_a0_partPower) a0_rows (w_a0_row) a0_foundLeast a0_foundGreatest a0_foundSquare (l7_34_1 + (2 : Int32)) _ h) (cwV 1 hts gX9_spanned_X9_isPrimeAt rfl rfl rfl (by decide +kernel) ⟨Nat.le_of_ble_eq_true rfl, Nat.le_of_ble_eq_true rfl⟩) ⟨pre_fb, va_recv hK hPc (ci := 8) (q0 := 0) rfl rfl, pre_of hPc hDc hK hN⟩ rfl rfl hl.1 rfl (lv_room (Nat.le_of_ble_eq_true rfl)) dX9_spanned_109 ⟨by first | exact Nat.le_of_ble_eq_true rfl | exact Nat.le_refl _, by first | exact Nat.le_of_ble_eq_true rfl | exact Nat.le_refl _⟩) hS (fun q _ h => hFc q h) hFc (fun r_43 u t H1 locs ht hvm h hB hz1 hk1 hS => ?_)
                obtain ⟨hP1, hD1⟩ := hB
                rw [ht] at hP1
                try dsimp only at h
                obtain ⟨hP, hD⟩ := va_join (wr := [(q_a0_isSquared, .inl (cZ, 5000, .inl a0_isSquared))]) (w1 := [(h_a0, .inr (8, [.int a0_primes, w_a0_prime, w_a0_isNone, .int a0_hasSpan, .long a0_spanFrom, .int a0_spanMany, .ref q_a0_least, w_a0_greatest, .ref q_a0_isSquared, .int a0_hasPart, .long a0_parted, .int a0_partMany, w_a0_partPrime, w_a0_partPower, .int a0_rows, w_a0_row, .long a0_foundLeast, .long a0_foundGreatest, .int a0_foundSquare])), (q_a0_least, .inl (cJ, 5000, .inr (.inl a0_least)))]) hP hD [1, 2] [0] rfl rfl (by decide) (by decide) hk1 hFc hP1 hD1
                generalize H1 = H at hP hS ⊢
                have hP : va_P (dC, dI) vwCl [(q_a0_isSquared, .inl (cZ, 5000, .inl a0_isSquared)), (h_a0, .inr (8, [.int a0_primes, w_a0_prime, w_a0_isNone, .int a0_hasSpan, .long a0_spanFrom, .int a0_spanMany, .ref q_a0_least, w_a0_greatest, .ref q_a0_isSquared, .int a0_hasPart, .long a0_parted, .int a0_partMany, w_a0_partPrime, w_a0_partPower, .int a0_rows, w_a0_row, .long a0_foundLeast, .long a0_foundGreatest, .int a0_foundSquare])), (q_a0_least, .inl (cJ, 5000, .inr (.inl a0_least)))] H := hP
                have hD : va_D A [(q_a0_isSquared, .inl (cZ, 5000, .inl a0_isSquared)), (h_a0, .inr (8, [.int a0_primes, w_a0_prime, w_a0_isNone, .int a0_hasSpan, .long a0_spanFrom, .int a0_spanMany, .ref q_a0_least, w_a0_greatest, .ref q_a0_isSquared, .int a0_hasPart, .long a0_parted, .int a0_partMany, w_a0_partPrime, w_a0_partPower, .int a0_rows, w_a0_row, .long a0_foundLeast, .long a0_foundGreatest, .int a0_foundSquare])), (q_a0_least, .inl (cJ, 5000, .inr (.inl a0_least)))] := hD
                refine lv_if_eq (tgt := 119) hx hb dX9_spanned_112 (by decide) (fun c_44 => ?_) (fun c_44 => ?_)
                · replace h := h.1 c_44
                  refine lv_iconst (v := (0 : Int32)) hx hb dX9_spanned_119 (by decide) ?_
                  refine lv_iadd hx hb dX9_spanned_120 ?_
                  refine lv_topi (fun x5_45 e_x5_45 => ?_)
                  replace h := h x5_45 e_x5_45
                  refine lv_istore (lv' := [(5, .int x5_45), (3, .int l7_34_1), (4, .int l4_34_1), (2, .int x2_41), (6, .int x6_37), (7, .int l7_34_1), (0, .ref h_a0), (1, .int p1)]) hx hb dX9_spanned_121 hl (by decide) rfl (fun ls hl => ?_)
                  obtain ⟨x7_46, e_x7_46⟩ : ∃ y : Int32, y = l7_34_1 + (1 : Int32) := ⟨_, rfl⟩
                  replace h := h x7_46 e_x7_46
                  refine lv_iinc (v := x7_46) (lv' := [(7, .int x7_46), (5, .int x5_45), (3, .int l7_34_1), (4, .int l4_34_1), (2, .int x2_41), (6, .int x6_37), (0, .ref h_a0), (1, .int p1)]) hx hb dX9_spanned_123 hl (k := 5) rfl (by rw [e_x7_46]; rfl) (by decide) rfl (fun ls hl => ?_)
                  refine lv_goto (tgt := 34) hx hb dX9_spanned_126 (by decide) ?_
                  exact ih_34_1 x7_46 x6_37 x5_45 l4_34_1 l7_34_1 x2_41 (Nat.lt_of_lt_of_le h.2 (Nat.le_of_lt_succ hm_34_1)) h.1 _ _ _ (lv_sub hl [0, 5, 1, 3, 2, 4, 6, 7] rfl) (hP.sub [1, 2, 0] rfl) (hD.sub [1, 2, 0] (by decide) rfl) hS
                · replace h := h.2 c_44
                  refine lv_iconst (v := (1 : Int32)) hx hb dX9_spanned_115 (by decide) ?_
                  refine lv_goto (tgt := 120) hx hb dX9_spanned_116 (by decide) ?_
                  refine lv_iadd hx hb dX9_spanned_120 ?_
                  refine lv_topi (fun x5_47 e_x5_47 => ?_)
                  replace h := h x5_47 e_x5_47
                  refine lv_istore (lv' := [(5, .int x5_47), (3, .int l7_34_1), (4, .int l4_34_1), (2, .int x2_41), (6, .int x6_37), (7, .int l7_34_1), (0, .ref h_a0), (1, .int p1)]) hx hb dX9_spanned_121 hl (by decide) rfl (fun ls hl => ?_)
                  obtain ⟨x7_48, e_x7_48⟩ : ∃ y : Int32, y = l7_34_1 + (1 : Int32) := ⟨_, rfl⟩
                  replace h := h x7_48 e_x7_48
                  refine lv_iinc (v := x7_48) (lv' := [(7, .int x7_48), (5, .int x5_47), (3, .int l7_34_1), (4, .int l4_34_1), (2, .int x2_41), (6, .int x6_37), (0, .ref h_a0), (1, .int p1)]) hx hb dX9_spanned_123 hl (k := 5) rfl (by rw [e_x7_48]; rfl) (by decide) rfl (fun ls hl => ?_)
                  refine lv_goto (tgt := 34) hx hb dX9_spanned_126 (by decide) ?_
                  exact ih_34_1 x7_48 x6_37 x5_47 l4_34_1 l7_34_1 x2_41 (Nat.lt_of_lt_of_le h.2 (Nat.le_of_lt_succ hm_34_1)) h.1 _ _ _ (lv_sub hl [0, 5, 1, 3, 2, 4, 6, 7] rfl) (hP.sub [1, 2, 0] rfl) (hD.sub [1, 2, 0] (by decide) rfl) hS
              · replace h := h.2 c_42
                refine lv_iload hx hb dX9_spanned_79 (lv_at hl 2 rfl) ?_
                refine lv_iload_n hx hb dX9_spanned_81 rfl (lv_at hl 5 rfl) ?_
                refine lv_isub hx hb dX9_spanned_82 ?_
                refine lv_iload hx hb dX9_spanned_83 (lv_at hl 4 rfl) ?_
                refine lv_icmp_le (tgt := 95) hx hb dX9_spanned_85 (by decide) (fun c_49 => ?_) (fun c_49 => ?_)
                · replace h := h.1 c_49
                  refine lv_iload hx hb dX9_spanned_95 (lv_at hl 4 rfl) ?_
                  refine lv_istore (lv' := [(4, .int l4_34_1), (2, .int x2_41), (6, .int x6_37), (7, .int l7_34_1), (5, .int l5_34_1), (3, .int l3_34_1), (0, .ref h_a0), (1, .int p1)]) hx hb dX9_spanned_97 hl (by decide) rfl (fun ls hl => ?_)
                  refine lv_iload hx hb dX9_spanned_99 (lv_at hl 3 rfl) ?_
                  refine lv_istore_n (lv' := [(3, .int l7_34_1), (4, .int l4_34_1), (2, .int x2_41), (6, .int x6_37), (7, .int l7_34_1), (5, .int l5_34_1), (0, .ref h_a0), (1, .int p1)]) hx hb dX9_spanned_101 rfl hl (by decide) rfl (fun ls hl => ?_)
                  refine lv_iload hx hb dX9_spanned_102 (lv_at hl 5 rfl) ?_
                  refine lv_aload_n hx hb dX9_spanned_104 rfl (lv_at hl 6 rfl) ?_
                  refine lv_iload hx hb dX9_spanned_105 (lv_at hl 4 rfl) ?_
                  refine lv_iconst (v := (2 : Int32)) hx hb dX9_spanned_107 (by decide) ?_
                  refine lv_iadd hx hb dX9_spanned_108 ?_
                  have hPc := hP.sub (ws' := [(h_a0, .inr (8, [.int a0_primes, w_a0_prime, w_a0_isNone, .int a0_hasSpan, .long a0_spanFrom, .int a0_spanMany, .ref q_a0_least, w_a0_greatest, .ref q_a0_isSquared, .int a0_hasPart, .long a0_parted, .int a0_partMany, w_a0_partPrime, w_a0_partPower, .int a0_rows, w_a0_row, .long a0_foundLeast, .long a0_foundGreatest, .int a0_foundSquare])), (q_a0_least, .inl (cJ, 5000, .inr (.inl a0_least)))]) [1, 2] rfl
                  have hDc := hD.sub (ws' := [(h_a0, .inr (8, [.int a0_primes, w_a0_prime, w_a0_isNone, .int a0_hasSpan, .long a0_spanFrom, .int a0_spanMany, .ref q_a0_least, w_a0_greatest, .ref q_a0_isSquared, .int a0_hasPart, .long a0_parted, .int a0_partMany, w_a0_partPrime, w_a0_partPower, .int a0_rows, w_a0_row, .long a0_foundLeast, .long a0_foundGreatest, .int a0_foundSquare])), (q_a0_least, .inl (cJ, 5000, .inr (.inl a0_least)))]) [1, 2] (by decide) rfl
                  have hFc := va_free (wc := [(h_a0, .inr (8, [.int a0_primes, w_a0_prime, w_a0_isNone, .int a0_hasSpan, .long a0_spanFrom, .int a0_spanMany, .ref q_a0_least, w_a0_greatest, .ref q_a0_isSquared, .int a0_hasPart, .long a0_parted, .int a0_partMany, w_a0_partPrime, w_a0_partPower, .int a0_rows, w_a0_row, .long a0_foundLeast, .long a0_foundGreatest, .int a0_foundSquare])), (q_a0_least, .inl (cJ, 5000, .inr (.inl a0_least)))]) hD hS hA [1, 2] rfl
                  refine va_calli (va_runV (As := [.int (l7_34_1 + (2 : Int32))]) (rest := [.int l5_34_1]) ⟨hx, hb, hml, hown, hts⟩ (c_X9_isPrimeAt l dC dI cI cJ cZ _ h_a0 a0_primes (w_a0_prime) (w_a0_isNone) a0_hasSpan a0_spanFrom a0_spanMany a0_least q_a0_least (w_a0_greatest) (.ref q_a0_isSquared) a0_hasPart a0_parted a0_partMany (w_a0_partPrime) (w_a0_partPower) a0_rows (w_a0_row) a0_foundLeast a0_foundGreatest a0_foundSquare (l7_34_1 + (2 : Int32)) _ h) (cwV 1 hts gX9_spanned_X9_isPrimeAt rfl rfl rfl (by decide +kernel) ⟨Nat.le_of_ble_eq_true rfl, Nat.le_of_ble_eq_true rfl⟩) ⟨pre_fb, va_recv hK hPc (ci := 8) (q0 := 0) rfl rfl, pre_of hPc hDc hK hN⟩ rfl rfl hl.1 rfl (lv_room (Nat.le_of_ble_eq_true rfl)) dX9_spanned_109 ⟨by first | exact Nat.le_of_ble_eq_true rfl | exact Nat.le_refl _, by first | exact Nat.le_of_ble_eq_true rfl | exact Nat.le_refl _⟩) hS (fun q _ h => hFc q h) hFc (fun r_50 u t H1 locs ht hvm h hB hz1 hk1 hS => ?_)
                  obtain ⟨hP1, hD1⟩ := hB
                  rw [ht] at hP1
                  try dsimp only at h
                  obtain ⟨hP, hD⟩ := va_join (wr := [(q_a0_isSquared, .inl (cZ, 5000, .inl a0_isSquared))]) (w1 := [(h_a0, .inr (8, [.int a0_primes, w_a0_prime, w_a0_isNone, .int a0_hasSpan, .long a0_spanFrom, .int a0_spanMany, .ref q_a0_least, w_a0_greatest, .ref q_a0_isSquared, .int a0_hasPart, .long a0_parted, .int a0_partMany, w_a0_partPrime, w_a0_partPower, .int a0_rows, w_a0_row, .long a0_foundLeast, .long a0_foundGreatest, .int a0_foundSquare])), (q_a0_least, .inl (cJ, 5000, .inr (.inl a0_least)))]) hP hD [1, 2] [0] rfl rfl (by decide) (by decide) hk1 hFc hP1 hD1
                  generalize H1 = H at hP hS ⊢
                  have hP : va_P (dC, dI) vwCl [(q_a0_isSquared, .inl (cZ, 5000, .inl a0_isSquared)), (h_a0, .inr (8, [.int a0_primes, w_a0_prime, w_a0_isNone, .int a0_hasSpan, .long a0_spanFrom, .int a0_spanMany, .ref q_a0_least, w_a0_greatest, .ref q_a0_isSquared, .int a0_hasPart, .long a0_parted, .int a0_partMany, w_a0_partPrime, w_a0_partPower, .int a0_rows, w_a0_row, .long a0_foundLeast, .long a0_foundGreatest, .int a0_foundSquare])), (q_a0_least, .inl (cJ, 5000, .inr (.inl a0_least)))] H := hP
                  have hD : va_D A [(q_a0_isSquared, .inl (cZ, 5000, .inl a0_isSquared)), (h_a0, .inr (8, [.int a0_primes, w_a0_prime, w_a0_isNone, .int a0_hasSpan, .long a0_spanFrom, .int a0_spanMany, .ref q_a0_least, w_a0_greatest, .ref q_a0_isSquared, .int a0_hasPart, .long a0_parted, .int a0_partMany, w_a0_partPrime, w_a0_partPower, .int a0_rows, w_a0_row, .long a0_foundLeast, .long a0_foundGreatest, .int a0_foundSquare])), (q_a0_least, .inl (cJ, 5000, .inr (.inl a0_least)))] := hD
                  refine lv_if_eq (tgt := 119) hx hb dX9_spanned_112 (by decide) (fun c_51 => ?_) (fun c_51 => ?_)
                  · replace h := h.1 c_51
                    refine lv_iconst (v := (0 : Int32)) hx hb dX9_spanned_119 (by decide) ?_
                    refine lv_iadd hx hb dX9_spanned_120 ?_
                    refine lv_topi (fun x5_52 e_x5_52 => ?_)
                    replace h := h x5_52 e_x5_52
                    refine lv_istore (lv' := [(5, .int x5_52), (3, .int l7_34_1), (4, .int l4_34_1), (2, .int x2_41), (6, .int x6_37), (7, .int l7_34_1), (0, .ref h_a0), (1, .int p1)]) hx hb dX9_spanned_121 hl (by decide) rfl (fun ls hl => ?_)
                    obtain ⟨x7_53, e_x7_53⟩ : ∃ y : Int32, y = l7_34_1 + (1 : Int32) := ⟨_, rfl⟩
                    replace h := h x7_53 e_x7_53
                    refine lv_iinc (v := x7_53) (lv' := [(7, .int x7_53), (5, .int x5_52), (3, .int l7_34_1), (4, .int l4_34_1), (2, .int x2_41), (6, .int x6_37), (0, .ref h_a0), (1, .int p1)]) hx hb dX9_spanned_123 hl (k := 5) rfl (by rw [e_x7_53]; rfl) (by decide) rfl (fun ls hl => ?_)
                    refine lv_goto (tgt := 34) hx hb dX9_spanned_126 (by decide) ?_
                    exact ih_34_1 x7_53 x6_37 x5_52 l4_34_1 l7_34_1 x2_41 (Nat.lt_of_lt_of_le h.2 (Nat.le_of_lt_succ hm_34_1)) h.1 _ _ _ (lv_sub hl [0, 5, 1, 3, 2, 4, 6, 7] rfl) (hP.sub [1, 2, 0] rfl) (hD.sub [1, 2, 0] (by decide) rfl) hS
                  · replace h := h.2 c_51
                    refine lv_iconst (v := (1 : Int32)) hx hb dX9_spanned_115 (by decide) ?_
                    refine lv_goto (tgt := 120) hx hb dX9_spanned_116 (by decide) ?_
                    refine lv_iadd hx hb dX9_spanned_120 ?_
                    refine lv_topi (fun x5_54 e_x5_54 => ?_)
                    replace h := h x5_54 e_x5_54
                    refine lv_istore (lv' := [(5, .int x5_54), (3, .int l7_34_1), (4, .int l4_34_1), (2, .int x2_41), (6, .int x6_37), (7, .int l7_34_1), (0, .ref h_a0), (1, .int p1)]) hx hb dX9_spanned_121 hl (by decide) rfl (fun ls hl => ?_)
                    obtain ⟨x7_55, e_x7_55⟩ : ∃ y : Int32, y = l7_34_1 + (1 : Int32) := ⟨_, rfl⟩
                    replace h := h x7_55 e_x7_55
                    refine lv_iinc (v := x7_55) (lv' := [(7, .int x7_55), (5, .int x5_54), (3, .int l7_34_1), (4, .int l4_34_1), (2, .int x2_41), (6, .int x6_37), (0, .ref h_a0), (1, .int p1)]) hx hb dX9_spanned_123 hl (k := 5) rfl (by rw [e_x7_55]; rfl) (by decide) rfl (fun ls hl => ?_)
                    refine lv_goto (tgt := 34) hx hb dX9_spanned_126 (by decide) ?_
                    exact ih_34_1 x7_55 x6_37 x5_54 l4_34_1 l7_34_1 x2_41 (Nat.lt_of_lt_of_le h.2 (Nat.le_of_lt_succ hm_34_1)) h.1 _ _ _ (lv_sub hl [0, 5, 1, 3, 2, 4, 6, 7] rfl) (hP.sub [1, 2, 0] rfl) (hD.sub [1, 2, 0] (by decide) rfl) hS
                · replace h := h.2 c_49
                  refine lv_iload hx hb dX9_spanned_88 (lv_at hl 2 rfl) ?_
                  refine lv_iload_n hx hb dX9_spanned_90 rfl (lv_at hl 5 rfl) ?_
                  refine lv_isub hx hb dX9_spanned_91 ?_
                  refine lv_goto (tgt := 97) hx hb dX9_spanned_92 (by decide) ?_
                  refine lv_topi (fun x4_56 e_x4_56 => ?_)
                  replace h := h x4_56 e_x4_56
                  refine lv_istore (lv' := [(4, .int x4_56), (2, .int x2_41), (6, .int x6_37), (7, .int l7_34_1), (5, .int l5_34_1), (3, .int l3_34_1), (0, .ref h_a0), (1, .int p1)]) hx hb dX9_spanned_97 hl (by decide) rfl (fun ls hl => ?_)
                  refine lv_iload hx hb dX9_spanned_99 (lv_at hl 3 rfl) ?_
                  refine lv_istore_n (lv' := [(3, .int l7_34_1), (4, .int x4_56), (2, .int x2_41), (6, .int x6_37), (7, .int l7_34_1), (5, .int l5_34_1), (0, .ref h_a0), (1, .int p1)]) hx hb dX9_spanned_101 rfl hl (by decide) rfl (fun ls hl => ?_)
                  refine lv_iload hx hb dX9_spanned_102 (lv_at hl 5 rfl) ?_
                  refine lv_aload_n hx hb dX9_spanned_104 rfl (lv_at hl 6 rfl) ?_
                  refine lv_iload hx hb dX9_spanned_105 (lv_at hl 4 rfl) ?_
                  refine lv_iconst (v := (2 : Int32)) hx hb dX9_spanned_107 (by decide) ?_
                  refine lv_iadd hx hb dX9_spanned_108 ?_
                  have hPc := hP.sub (ws' := [(h_a0, .inr (8, [.int a0_primes, w_a0_prime, w_a0_isNone, .int a0_hasSpan, .long a0_spanFrom, .int a0_spanMany, .ref q_a0_least, w_a0_greatest, .ref q_a0_isSquared, .int a0_hasPart, .long a0_parted, .int a0_partMany, w_a0_partPrime, w_a0_partPower, .int a0_rows, w_a0_row, .long a0_foundLeast, .long a0_foundGreatest, .int a0_foundSquare])), (q_a0_least, .inl (cJ, 5000, .inr (.inl a0_least)))]) [1, 2] rfl
                  have hDc := hD.sub (ws' := [(h_a0, .inr (8, [.int a0_primes, w_a0_prime, w_a0_isNone, .int a0_hasSpan, .long a0_spanFrom, .int a0_spanMany, .ref q_a0_least, w_a0_greatest, .ref q_a0_isSquared, .int a0_hasPart, .long a0_parted, .int a0_partMany, w_a0_partPrime, w_a0_partPower, .int a0_rows, w_a0_row, .long a0_foundLeast, .long a0_foundGreatest, .int a0_foundSquare])), (q_a0_least, .inl (cJ, 5000, .inr (.inl a0_least)))]) [1, 2] (by decide) rfl
                  have hFc := va_free (wc := [(h_a0, .inr (8, [.int a0_primes, w_a0_prime, w_a0_isNone, .int a0_hasSpan, .long a0_spanFrom, .int a0_spanMany, .ref q_a0_least, w_a0_greatest, .ref q_a0_isSquared, .int a0_hasPart, .long a0_parted, .int a0_partMany, w_a0_partPrime, w_a0_partPower, .int a0_rows, w_a0_row, .long a0_foundLeast, .long a0_foundGreatest, .int a0_foundSquare])), (q_a0_least, .inl (cJ, 5000, .inr (.inl a0_least)))]) hD hS hA [1, 2] rfl
                  refine va_calli (va_runV (As := [.int (l7_34_1 + (2 : Int32))]) (rest := [.int l5_34_1]) ⟨hx, hb, hml, hown, hts⟩ (c_X9_isPrimeAt l dC dI cI cJ cZ _ h_a0 a0_primes (w_a0_prime) (w_a0_isNone) a0_hasSpan a0_spanFrom a0_spanMany a0_least q_a0_least (w_a0_greatest) (.ref q_a0_isSquared) a0_hasPart a0_parted a0_partMany (w_a0_partPrime) (w_a0_partPower) a0_rows (w_a0_row) a0_foundLeast a0_foundGreatest a0_foundSquare (l7_34_1 + (2 : Int32)) _ h) (cwV 1 hts gX9_spanned_X9_isPrimeAt rfl rfl rfl (by decide +kernel) ⟨Nat.le_of_ble_eq_true rfl, Nat.le_of_ble_eq_true rfl⟩) ⟨pre_fb, va_recv hK hPc (ci := 8) (q0 := 0) rfl rfl, pre_of hPc hDc hK hN⟩ rfl rfl hl.1 rfl (lv_room (Nat.le_of_ble_eq_true rfl)) dX9_spanned_109 ⟨by first | exact Nat.le_of_ble_eq_true rfl | exact Nat.le_refl _, by first | exact Nat.le_of_ble_eq_true rfl | exact Nat.le_refl _⟩) hS (fun q _ h => hFc q h) hFc (fun r_57 u t H1 locs ht hvm h hB hz1 hk1 hS => ?_)
                  obtain ⟨hP1, hD1⟩ := hB
                  rw [ht] at hP1
                  try dsimp only at h
                  obtain ⟨hP, hD⟩ := va_join (wr := [(q_a0_isSquared, .inl (cZ, 5000, .inl a0_isSquared))]) (w1 := [(h_a0, .inr (8, [.int a0_primes, w_a0_prime, w_a0_isNone, .int a0_hasSpan, .long a0_spanFrom, .int a0_spanMany, .ref q_a0_least, w_a0_greatest, .ref q_a0_isSquared, .int a0_hasPart, .long a0_parted, .int a0_partMany, w_a0_partPrime, w_a0_partPower, .int a0_rows, w_a0_row, .long a0_foundLeast, .long a0_foundGreatest, .int a0_foundSquare])), (q_a0_least, .inl (cJ, 5000, .inr (.inl a0_least)))]) hP hD [1, 2] [0] rfl rfl (by decide) (by decide) hk1 hFc hP1 hD1
                  generalize H1 = H at hP hS ⊢
                  have hP : va_P (dC, dI) vwCl [(q_a0_isSquared, .inl (cZ, 5000, .inl a0_isSquared)), (h_a0, .inr (8, [.int a0_primes, w_a0_prime, w_a0_isNone, .int a0_hasSpan, .long a0_spanFrom, .int a0_spanMany, .ref q_a0_least, w_a0_greatest, .ref q_a0_isSquared, .int a0_hasPart, .long a0_parted, .int a0_partMany, w_a0_partPrime, w_a0_partPower, .int a0_rows, w_a0_row, .long a0_foundLeast, .long a0_foundGreatest, .int a0_foundSquare])), (q_a0_least, .inl (cJ, 5000, .inr (.inl a0_least)))] H := hP
                  have hD : va_D A [(q_a0_isSquared, .inl (cZ, 5000, .inl a0_isSquared)), (h_a0, .inr (8, [.int a0_primes, w_a0_prime, w_a0_isNone, .int a0_hasSpan, .long a0_spanFrom, .int a0_spanMany, .ref q_a0_least, w_a0_greatest, .ref q_a0_isSquared, .int a0_hasPart, .long a0_parted, .int a0_partMany, w_a0_partPrime, w_a0_partPower, .int a0_rows, w_a0_row, .long a0_foundLeast, .long a0_foundGreatest, .int a0_foundSquare])), (q_a0_least, .inl (cJ, 5000, .inr (.inl a0_least)))] := hD
                  refine lv_if_eq (tgt := 119) hx hb dX9_spanned_112 (by decide) (fun c_58 => ?_) (fun c_58 => ?_)
                  · replace h := h.1 c_58
                    refine lv_iconst (v := (0 : Int32)) hx hb dX9_spanned_119 (by decide) ?_
                    refine lv_iadd hx hb dX9_spanned_120 ?_
                    refine lv_topi (fun x5_59 e_x5_59 => ?_)
                    replace h := h x5_59 e_x5_59
                    refine lv_istore (lv' := [(5, .int x5_59), (3, .int l7_34_1), (4, .int x4_56), (2, .int x2_41), (6, .int x6_37), (7, .int l7_34_1), (0, .ref h_a0), (1, .int p1)]) hx hb dX9_spanned_121 hl (by decide) rfl (fun ls hl => ?_)
                    obtain ⟨x7_60, e_x7_60⟩ : ∃ y : Int32, y = l7_34_1 + (1 : Int32) := ⟨_, rfl⟩
                    replace h := h x7_60 e_x7_60
                    refine lv_iinc (v := x7_60) (lv' := [(7, .int x7_60), (5, .int x5_59), (3, .int l7_34_1), (4, .int x4_56), (2, .int x2_41), (6, .int x6_37), (0, .ref h_a0), (1, .int p1)]) hx hb dX9_spanned_123 hl (k := 5) rfl (by rw [e_x7_60]; rfl) (by decide) rfl (fun ls hl => ?_)
                    refine lv_goto (tgt := 34) hx hb dX9_spanned_126 (by decide) ?_
                    exact ih_34_1 x7_60 x6_37 x5_59 x4_56 l7_34_1 x2_41 (Nat.lt_of_lt_of_le h.2 (Nat.le_of_lt_succ hm_34_1)) h.1 _ _ _ (lv_sub hl [0, 5, 1, 3, 2, 4, 6, 7] rfl) (hP.sub [1, 2, 0] rfl) (hD.sub [1, 2, 0] (by decide) rfl) hS
                  · replace h := h.2 c_58
                    refine lv_iconst (v := (1 : Int32)) hx hb dX9_spanned_115 (by decide) ?_
                    refine lv_goto (tgt := 120) hx hb dX9_spanned_116 (by decide) ?_
                    refine lv_iadd hx hb dX9_spanned_120 ?_
                    refine lv_topi (fun x5_61 e_x5_61 => ?_)
                    replace h := h x5_61 e_x5_61
                    refine lv_istore (lv' := [(5, .int x5_61), (3, .int l7_34_1), (4, .int x4_56), (2, .int x2_41), (6, .int x6_37), (7, .int l7_34_1), (0, .ref h_a0), (1, .int p1)]) hx hb dX9_spanned_121 hl (by decide) rfl (fun ls hl => ?_)
                    obtain ⟨x7_62, e_x7_62⟩ : ∃ y : Int32, y = l7_34_1 + (1 : Int32) := ⟨_, rfl⟩
                    replace h := h x7_62 e_x7_62
                    refine lv_iinc (v := x7_62) (lv' := [(7, .int x7_62), (5, .int x5_61), (3, .int l7_34_1), (4, .int x4_56), (2, .int x2_41), (6, .int x6_37), (0, .ref h_a0), (1, .int p1)]) hx hb dX9_spanned_123 hl (k := 5) rfl (by rw [e_x7_62]; rfl) (by decide) rfl (fun ls hl => ?_)
                    refine lv_goto (tgt := 34) hx hb dX9_spanned_126 (by decide) ?_
                    exact ih_34_1 x7_62 x6_37 x5_61 x4_56 l7_34_1 x2_41 (Nat.lt_of_lt_of_le h.2 (Nat.le_of_lt_succ hm_34_1)) h.1 _ _ _ (lv_sub hl [0, 5, 1, 3, 2, 4, 6, 7] rfl) (hP.sub [1, 2, 0] rfl) (hD.sub [1, 2, 0] (by decide) rfl) hS
    exact key_34_1 _ (0 : Int32) (0 : Int32) (0 : Int32) (0 : Int32) (-1 : Int32) (0 : Int32) (Nat.lt_succ_self _) h0_34_1 _ _ _ (lv_sub hl [0, 1, 2, 3, 4, 5, 6, 7] rfl) (hP.sub [0, 1, 2] rfl) (hD.sub [0, 1, 2] (by decide) rfl) hS
  · replace h := h.1 c_1
    refine lv_iload_n hx hb dX9_spanned_7 rfl (lv_at hl 1 rfl) ?_
    refine lv_iconst (v := (4 : Int32)) hx hb dX9_spanned_8 (by decide) ?_
    refine lv_icmp_ne (tgt := 16) hx hb dX9_spanned_9 (by decide) (fun c_63 => ?_) (fun c_63 => ?_)
    · replace h := h.2 c_63
      refine lv_iconst (v := (-1 : Int32)) hx hb dX9_spanned_16 (by decide) ?_
      have hP9 := hP.sub (ws' := [(h_a0, .inr (8, [.int a0_primes, w_a0_prime, w_a0_isNone, .int a0_hasSpan, .long a0_spanFrom, .int a0_spanMany, .ref q_a0_least, w_a0_greatest, .ref q_a0_isSquared, .int a0_hasPart, .long a0_parted, .int a0_partMany, w_a0_partPrime, w_a0_partPower, .int a0_rows, w_a0_row, .long a0_foundLeast, .long a0_foundGreatest, .int a0_foundSquare])), (q_a0_least, .inl (cJ, 5000, .inr (.inl a0_least))), (q_a0_isSquared, .inl (cZ, 5000, .inl a0_isSquared))]) [0, 1, 2] rfl
      have hD9 := hD.sub (ws' := [(h_a0, .inr (8, [.int a0_primes, w_a0_prime, w_a0_isNone, .int a0_hasSpan, .long a0_spanFrom, .int a0_spanMany, .ref q_a0_least, w_a0_greatest, .ref q_a0_isSquared, .int a0_hasPart, .long a0_parted, .int a0_partMany, w_a0_partPrime, w_a0_partPower, .int a0_rows, w_a0_row, .long a0_foundLeast, .long a0_foundGreatest, .int a0_foundSquare])), (q_a0_least, .inl (cJ, 5000, .inr (.inl a0_least))), (q_a0_isSquared, .inl (cZ, 5000, .inl a0_isSquared))]) [0, 1, 2] (by decide) rfl
      exact W.iret (v := (-1 : Int32)) hx hb hr (fun t ht hW => ⟨⟨_, (), rfl, h, by rw [ht]; exact hP9, hD9⟩, hS.F ht⟩) hS.2.2 dX9_spanned_17
    · replace h := h.1 c_63
      refine lv_iconst (v := (0 : Int32)) hx hb dX9_spanned_12 (by decide) ?_
      refine lv_goto (tgt := 17) hx hb dX9_spanned_13 (by decide) ?_
      have hP9 := hP.sub (ws' := [(h_a0, .inr (8, [.int a0_primes, w_a0_prime, w_a0_isNone, .int a0_hasSpan, .long a0_spanFrom, .int a0_spanMany, .ref q_a0_least, w_a0_greatest, .ref q_a0_isSquared, .int a0_hasPart, .long a0_parted, .int a0_partMany, w_a0_partPrime, w_a0_partPower, .int a0_rows, w_a0_row, .long a0_foundLeast, .long a0_foundGreatest, .int a0_foundSquare])), (q_a0_least, .inl (cJ, 5000, .inr (.inl a0_least))), (q_a0_isSquared, .inl (cZ, 5000, .inl a0_isSquared))]) [0, 1, 2] rfl
      have hD9 := hD.sub (ws' := [(h_a0, .inr (8, [.int a0_primes, w_a0_prime, w_a0_isNone, .int a0_hasSpan, .long a0_spanFrom, .int a0_spanMany, .ref q_a0_least, w_a0_greatest, .ref q_a0_isSquared, .int a0_hasPart, .long a0_parted, .int a0_partMany, w_a0_partPrime, w_a0_partPower, .int a0_rows, w_a0_row, .long a0_foundLeast, .long a0_foundGreatest, .int a0_foundSquare])), (q_a0_least, .inl (cJ, 5000, .inr (.inl a0_least))), (q_a0_isSquared, .inl (cZ, 5000, .inl a0_isSquared))]) [0, 1, 2] (by decide) rfl
      exact W.iret (v := (0 : Int32)) hx hb hr (fun t ht hW => ⟨⟨_, (), rfl, h, by rw [ht]; exact hP9, hD9⟩, hS.F ht⟩) hS.2.2 dX9_spanned_17
def wp_X9_span (a0_primes : Int32) (a0_prime : Nat → Int32) (a0_hasSpan : Int32) (a0_spanFrom : Int64) (a0_spanMany : Int32) (a0_least : Nat → Int64) (a0_greatest : Nat → Int64) (a0_isSquared : Nat → Int32) (a0_partMany : Int32) (a0_partPrime : Nat → Int64) (a0_partPower : Nat → Int32) (a0_foundLeast : Int64) (a0_foundGreatest : Int64) (a0_foundSquare : Int32) (p1 : Int64) (p2 : Int32) (Q : Int32 → Int32 → Int64 → Int32 → Int32 → Int64 → Int64 → Int32 → (Nat → Int64) → (Nat → Int64) → (Nat → Int32) → (Nat → Int64) → (Nat → Int32) → Prop) : Prop :=
  wp_X9_in (p2.toInt64) (1 : Int64) (5000 : Int64) (fun r_1 => ((r_1 = (0 : Int32) → Q (-1 : Int32) a0_hasSpan a0_spanFrom a0_spanMany a0_partMany a0_foundLeast a0_foundGreatest a0_foundSquare a0_least a0_greatest a0_isSquared a0_partPrime a0_partPower) ∧ (¬ r_1 = (0 : Int32) → wp_X9_in p1 (1 : Int64) (10000000000 : Int64) (fun r_3 => ((r_3 = (0 : Int32) → Q (-1 : Int32) a0_hasSpan a0_spanFrom a0_spanMany a0_partMany a0_foundLeast a0_foundGreatest a0_foundSquare a0_least a0_greatest a0_isSquared a0_partPrime a0_partPower) ∧ (¬ r_3 = (0 : Int32) → ((((p1 + p2.toInt64) - (1 : Int64)) ≤ (10000000000 : Int64) → (∃ (I_56_5 : Int32 → Int32 → Int64 → Int64 → Int32 → (Nat → Int64) → (Nat → Int64) → (Nat → Int32) → (Nat → Int64) → (Nat → Int32) → Prop) (m_56_5 : Int32 → Int32 → Int64 → Int64 → Int32 → (Nat → Int64) → (Nat → Int64) → (Nat → Int32) → (Nat → Int64) → (Nat → Int32) → Nat), I_56_5 (0 : Int32) a0_partMany a0_foundLeast a0_foundGreatest a0_foundSquare a0_least a0_greatest a0_isSquared a0_partPrime a0_partPower ∧ ∀ (l4_56_5 : Int32) (a0_partMany_56_5 : Int32) (a0_foundLeast_56_5 : Int64) (a0_foundGreatest_56_5 : Int64) (a0_foundSquare_56_5 : Int32) (a0_least_56_5 : Nat → Int64) (a0_greatest_56_5 : Nat → Int64) (a0_isSquared_56_5 : Nat → Int32) (a0_partPrime_56_5 : Nat → Int64) (a0_partPower_56_5 : Nat → Int32), I_56_5 l4_56_5 a0_partMany_56_5 a0_foundLeast_56_5 a0_foundGreatest_56_5 a0_foundSquare_56_5 a0_least_56_5 a0_greatest_56_5 a0_isSquared_56_5 a0_partPrime_56_5 a0_partPower_56_5 → ((p2 ≤ l4_56_5 → wp_X9_spanned (1 : Int32) p1 p2 a0_least_56_5 a0_isSquared_56_5 (0 : Int32) (fun r_8 => Q r_8 (1 : Int32) p1 p2 a0_partMany_56_5 a0_foundLeast_56_5 a0_foundGreatest_56_5 a0_foundSquare_56_5 a0_least_56_5 a0_greatest_56_5 a0_isSquared_56_5 a0_partPrime_56_5 a0_partPower_56_5)) ∧ (¬ p2 ≤ l4_56_5 → wp_X9_parts a0_primes a0_prime a0_partMany_56_5 a0_partPrime_56_5 a0_partPower_56_5 a0_foundLeast_56_5 a0_foundGreatest_56_5 a0_foundSquare_56_5 (p1 + l4_56_5.toInt64) (0 : Int32) (fun o_9 o_10 o_11 o_12 o_13 o_14 => (vp_in l4_56_5 5000 ∧ (vp_in l4_56_5 5000 ∧ (vp_in l4_56_5 5000 ∧ (∀ x4_18 : Int32, x4_18 = l4_56_5 + (1 : Int32) → (I_56_5 x4_18 o_9 o_10 o_11 o_12 (vp_updL a0_least_56_5 l4_56_5.toNatClampNeg o_10) (vp_updL a0_greatest_56_5 l4_56_5.toNatClampNeg o_11) (upd a0_isSquared_56_5 l4_56_5.toNatClampNeg (vp_nar .boolean o_12)) o_13 o_14 ∧ m_56_5 x4_18 o_9 o_10 o_11 o_12 (vp_updL a0_least_56_5 l4_56_5.toNatClampNeg o_10) (vp_updL a0_greatest_56_5 l4_56_5.toNatClampNeg o_11) (upd a0_isSquared_56_5 l4_56_5.toNatClampNeg (vp_nar .boolean o_12)) o_13 o_14 < m_56_5 l4_56_5 a0_partMany_56_5 a0_foundLeast_56_5 a0_foundGreatest_56_5 a0_foundSquare_56_5 a0_least_56_5 a0_greatest_56_5 a0_isSquared_56_5 a0_partPrime_56_5 a0_partPower_56_5)))))))))) ∧ (¬ ((p1 + p2.toInt64) - (1 : Int64)) ≤ (10000000000 : Int64) → Q (-1 : Int32) a0_hasSpan a0_spanFrom a0_spanMany a0_partMany a0_foundLeast a0_foundGreatest a0_foundSquare a0_least a0_greatest a0_isSquared a0_partPrime a0_partPower))))))))
abbrev rm_X9_span : Room := { frames := 3, cells := 0, slots := 0, locals := 73 }
abbrev qc_X9_span (dC : Nat → ClassId) (dI : Nat → Nat → Nat) (cI cJ cZ : ClassId) (h_a0 : Nat) (a0_primes : Int32) (a0_prime : Nat → Int32) (q_a0_prime : Nat) (w_a0_isNone : Value) (a0_hasSpan : Int32) (a0_spanFrom : Int64) (a0_spanMany : Int32) (a0_least : Nat → Int64) (q_a0_least : Nat) (a0_greatest : Nat → Int64) (q_a0_greatest : Nat) (a0_isSquared : Nat → Int32) (q_a0_isSquared : Nat) (a0_hasPart : Int32) (a0_parted : Int64) (a0_partMany : Int32) (a0_partPrime : Nat → Int64) (q_a0_partPrime : Nat) (a0_partPower : Nat → Int32) (q_a0_partPower : Nat) (a0_rows : Int32) (w_a0_row : Value) (a0_foundLeast : Int64) (a0_foundGreatest : Int64) (a0_foundSquare : Int32) (Q : Int32 → Int32 → Int64 → Int32 → Int32 → Int64 → Int64 → Int32 → (Nat → Int64) → (Nat → Int64) → (Nat → Int32) → (Nat → Int64) → (Nat → Int32) → Prop) (A : Nat → Prop) : Array Value → State → Outcome → State → Prop := va_Qi (fun (r : Int32) (u : Int32 × Int64 × Int32 × Int32 × Int64 × Int64 × Int32 × (Nat → Int64) × (Nat → Int64) × (Nat → Int32) × (Nat → Int64) × (Nat → Int32)) => Q r u.1 u.2.1 u.2.2.1 u.2.2.2.1 u.2.2.2.2.1 u.2.2.2.2.2.1 u.2.2.2.2.2.2.1 u.2.2.2.2.2.2.2.1 u.2.2.2.2.2.2.2.2.1 u.2.2.2.2.2.2.2.2.2.1 u.2.2.2.2.2.2.2.2.2.2.1 u.2.2.2.2.2.2.2.2.2.2.2) (post_ dC dI A (fun (u : Int32 × Int64 × Int32 × Int32 × Int64 × Int64 × Int32 × (Nat → Int64) × (Nat → Int64) × (Nat → Int32) × (Nat → Int64) × (Nat → Int32)) => [(h_a0, .inr (8, [.int a0_primes, .ref q_a0_prime, w_a0_isNone, .int u.1, .long u.2.1, .int u.2.2.1, .ref q_a0_least, .ref q_a0_greatest, .ref q_a0_isSquared, .int a0_hasPart, .long a0_parted, .int u.2.2.2.1, .ref q_a0_partPrime, .ref q_a0_partPower, .int a0_rows, w_a0_row, .long u.2.2.2.2.1, .long u.2.2.2.2.2.1, .int u.2.2.2.2.2.2.1])), (q_a0_prime, .inl (cI, 9592, .inl a0_prime)), (q_a0_least, .inl (cJ, 5000, .inr (.inl (u.2.2.2.2.2.2.2.1)))), (q_a0_greatest, .inl (cJ, 5000, .inr (.inl (u.2.2.2.2.2.2.2.2.1)))), (q_a0_isSquared, .inl (cZ, 5000, .inl (u.2.2.2.2.2.2.2.2.2.1))), (q_a0_partPrime, .inl (cJ, 16, .inr (.inl (u.2.2.2.2.2.2.2.2.2.2.1)))), (q_a0_partPower, .inl (cI, 16, .inl (u.2.2.2.2.2.2.2.2.2.2.2)))])) A
set_option maxHeartbeats 4000000 in
set_option maxRecDepth 100000 in
theorem c_X9_span (l : Launch) (dC : Nat → ClassId) (dI : Nat → Nat → Nat) (cI cJ cZ : ClassId) (sz : Nat) (h_a0 : Nat) (a0_primes : Int32) (a0_prime : Nat → Int32) (q_a0_prime : Nat) (w_a0_isNone : Value) (a0_hasSpan : Int32) (a0_spanFrom : Int64) (a0_spanMany : Int32) (a0_least : Nat → Int64) (q_a0_least : Nat) (a0_greatest : Nat → Int64) (q_a0_greatest : Nat) (a0_isSquared : Nat → Int32) (q_a0_isSquared : Nat) (a0_hasPart : Int32) (a0_parted : Int64) (a0_partMany : Int32) (a0_partPrime : Nat → Int64) (q_a0_partPrime : Nat) (a0_partPower : Nat → Int32) (q_a0_partPower : Nat) (a0_rows : Int32) (w_a0_row : Value) (a0_foundLeast : Int64) (a0_foundGreatest : Int64) (a0_foundSquare : Int32) (p1 : Int64) (p2 : Int32) (Q : Int32 → Int32 → Int64 → Int32 → Int32 → Int64 → Int64 → Int32 → (Nat → Int64) → (Nat → Int64) → (Nat → Int32) → (Nat → Int64) → (Nat → Int32) → Prop) (hQ : wp_X9_span a0_primes a0_prime a0_hasSpan a0_spanFrom a0_spanMany a0_least a0_greatest a0_isSquared a0_partMany a0_partPrime a0_partPower a0_foundLeast a0_foundGreatest a0_foundSquare p1 p2 Q) : Met l yX9_span wsX9_span rm_X9_span (pre_ dC dI cI cJ cZ [.ref h_a0, .long p1, .int p2] [(h_a0, .inr (8, [.int a0_primes, .ref q_a0_prime, w_a0_isNone, .int a0_hasSpan, .long a0_spanFrom, .int a0_spanMany, .ref q_a0_least, .ref q_a0_greatest, .ref q_a0_isSquared, .int a0_hasPart, .long a0_parted, .int a0_partMany, .ref q_a0_partPrime, .ref q_a0_partPower, .int a0_rows, w_a0_row, .long a0_foundLeast, .long a0_foundGreatest, .int a0_foundSquare])), (q_a0_prime, .inl (cI, 9592, .inl a0_prime)), (q_a0_least, .inl (cJ, 5000, .inr (.inl a0_least))), (q_a0_greatest, .inl (cJ, 5000, .inr (.inl a0_greatest))), (q_a0_isSquared, .inl (cZ, 5000, .inl a0_isSquared)), (q_a0_partPrime, .inl (cJ, 16, .inr (.inl a0_partPrime))), (q_a0_partPower, .inl (cI, 16, .inl a0_partPower))] sz) (qc_X9_span dC dI cI cJ cZ h_a0 a0_primes a0_prime q_a0_prime w_a0_isNone a0_hasSpan a0_spanFrom a0_spanMany a0_least q_a0_least a0_greatest q_a0_greatest a0_isSquared q_a0_isSquared a0_hasPart a0_parted a0_partMany a0_partPrime q_a0_partPrime a0_partPower q_a0_partPower a0_rows w_a0_row a0_foundLeast a0_foundGreatest a0_foundSquare Q (va_A [(h_a0, .inr (8, [.int a0_primes, .ref q_a0_prime, w_a0_isNone, .int a0_hasSpan, .long a0_spanFrom, .int a0_spanMany, .ref q_a0_least, .ref q_a0_greatest, .ref q_a0_isSquared, .int a0_hasPart, .long a0_parted, .int a0_partMany, .ref q_a0_partPrime, .ref q_a0_partPower, .int a0_rows, w_a0_row, .long a0_foundLeast, .long a0_foundGreatest, .int a0_foundSquare])), (q_a0_prime, .inl (cI, 9592, .inl a0_prime)), (q_a0_least, .inl (cJ, 5000, .inr (.inl a0_least))), (q_a0_greatest, .inl (cJ, 5000, .inr (.inl a0_greatest))), (q_a0_isSquared, .inl (cZ, 5000, .inl a0_isSquared)), (q_a0_partPrime, .inl (cJ, 16, .inr (.inl a0_partPrime))), (q_a0_partPower, .inl (cI, 16, .inl a0_partPower))] sz)) 0 0 (va_A [(h_a0, .inr (8, [.int a0_primes, .ref q_a0_prime, w_a0_isNone, .int a0_hasSpan, .long a0_spanFrom, .int a0_spanMany, .ref q_a0_least, .ref q_a0_greatest, .ref q_a0_isSquared, .int a0_hasPart, .long a0_parted, .int a0_partMany, .ref q_a0_partPrime, .ref q_a0_partPower, .int a0_rows, w_a0_row, .long a0_foundLeast, .long a0_foundGreatest, .int a0_foundSquare])), (q_a0_prime, .inl (cI, 9592, .inl a0_prime)), (q_a0_least, .inl (cJ, 5000, .inr (.inl a0_least))), (q_a0_greatest, .inl (cJ, 5000, .inr (.inl a0_greatest))), (q_a0_isSquared, .inl (cZ, 5000, .inl a0_isSquared)), (q_a0_partPrime, .inl (cJ, 16, .inr (.inl a0_partPrime))), (q_a0_partPower, .inl (cI, 16, .inl a0_partPower))] sz) := by
  refine Met.ofW (cc := cX9_span) (maxL := 5) (ret := (some .int)) (by decide) rfl ?_
  intro p e s m args below meth c s₁ B hml hv
  obtain ⟨rfl, hsz, hP, hK, hN, hD0⟩ := hv
  have hx := B.exec
  have hb := B.bytes
  have hr := B.returns
  have hts := atoms_spec (ws := wsX9_span) B.pre
  have hown : s.vm.findClass RX9 = some m.cls := findClass_of_methodNamed B.named
  subst hsz
  have hD := hD0.self (sz := s.heap.size)
  generalize hAe : va_A [(h_a0, .inr (8, [.int a0_primes, .ref q_a0_prime, w_a0_isNone, .int a0_hasSpan, .long a0_spanFrom, .int a0_spanMany, .ref q_a0_least, .ref q_a0_greatest, .ref q_a0_isSquared, .int a0_hasPart, .long a0_parted, .int a0_partMany, .ref q_a0_partPrime, .ref q_a0_partPower, .int a0_rows, w_a0_row, .long a0_foundLeast, .long a0_foundGreatest, .int a0_foundSquare])), (q_a0_prime, .inl (cI, 9592, .inl a0_prime)), (q_a0_least, .inl (cJ, 5000, .inr (.inl a0_least))), (q_a0_greatest, .inl (cJ, 5000, .inr (.inl a0_greatest))), (q_a0_isSquared, .inl (cZ, 5000, .inl a0_isSquared)), (q_a0_partPrime, .inl (cJ, 16, .inr (.inl a0_partPrime))), (q_a0_partPower, .inl (cI, 16, .inl a0_partPower))] s.heap.size = A at hD ⊢
  have hA : ∀ q : Nat, s.heap.size ≤ q → A q := fun q h => by rw [← hAe]; exact Or.inr h
  have hS : va_S A s.heap s.heap [] := va_S.rf
  have hl := lv_entry ([.ref h_a0, .long p1, .int p2]) (n := 5) (Nat.le_of_ble_eq_true rfl)
  rw [lg_entry_eq]
  generalize (lg_sl ([.ref h_a0, .long p1, .int p2]) ++ List.replicate (5 - (lg_sl ([.ref h_a0, .long p1, .int p2])).length) Slot.unset).toArray = ls at hl ⊢
  have hl : lv_has ls 5 [(0, .ref h_a0), (1, .long p1), (3, .int p2)] := hl
  have h := hQ
  unfold wp_X9_span at h
  have hw_0 := hts (.constantLong RX9 59 (5000)) (by decide +kernel)
  have hw_1 := hts (.constantLong RX9 65 (10000000000)) (by decide +kernel)
  have hw_2 := hts (.fieldLink RX9 67 "NumberSievesModel" "hasSpan" "Z") (by decide +kernel)
  have hin_X9 : ∀ w ∈ wsX90, w ∈ wsX9_span := by decide +kernel
  have hw_4 := hts (.fieldLink RX9 70 "NumberSievesModel" "spanFrom" "J") (by decide +kernel)
  have hw_5 := hts (.fieldLink RX9 73 "NumberSievesModel" "spanMany" "I") (by decide +kernel)
  have hw_6 := hts (.fieldLink RX9 18 "NumberSievesModel" "least" "[J") (by decide +kernel)
  have hw_7 := hts (.fieldLink RX9 43 "NumberSievesModel" "foundLeast" "J") (by decide +kernel)
  have hw_8 := hts (.fieldLink RX9 22 "NumberSievesModel" "greatest" "[J") (by decide +kernel)
  have hw_9 := hts (.fieldLink RX9 47 "NumberSievesModel" "foundGreatest" "J") (by decide +kernel)
  have hw_10 := hts (.fieldLink RX9 25 "NumberSievesModel" "isSquared" "[Z") (by decide +kernel)
  have hw_11 := hts (.fieldLink RX9 50 "NumberSievesModel" "foundSquare" "Z") (by decide +kernel)
  refine lv_iload_n hx hb dX9_span_0 rfl (lv_at hl 2 rfl) ?_
  refine lv_i2l hx hb dX9_span_1 rfl ?_
  refine lv_lconst (v := (1 : Int64)) hx hb dX9_span_2 (by decide) ?_
  refine lv_ldc2 hx hb hown hw_0 dX9_span_3 ?_
  have hPc := hP.sub (ws' := []) [] rfl
  have hDc := hD.sub (ws' := []) [] (by decide) rfl
  have hFc := va_free (wc := []) hD hS hA [] rfl
  refine va_calli (va_runS (As := [.long p2.toInt64, .long (1 : Int64), .long (5000 : Int64)]) (rest := []) ⟨hx, hb, hml, hown, hts⟩ (c_X9_in l dC dI cI cJ cZ _ (p2.toInt64) (1 : Int64) (5000 : Int64) _ h) (va_cwS 3 hts gX9_span_X9_in rfl rfl rfl (by decide +kernel) ⟨Nat.le_of_ble_eq_true rfl, Nat.le_of_ble_eq_true rfl⟩) ⟨pre_fb, pre_of hPc hDc hK hN⟩ rfl rfl hl.1 rfl (lv_room (Nat.le_of_ble_eq_true rfl)) dX9_span_6 ⟨by first | exact Nat.le_of_ble_eq_true rfl | exact Nat.le_refl _, by first | exact Nat.le_of_ble_eq_true rfl | exact Nat.le_refl _⟩) hS (fun q _ h => hFc q h) hFc (fun r_1 u t H1 locs ht hvm h hB hz1 hk1 hS => ?_)
  obtain ⟨hP1, hD1⟩ := hB
  rw [ht] at hP1
  try dsimp only at h
  obtain ⟨hP, hD⟩ := va_join (wr := [(h_a0, .inr (8, [.int a0_primes, .ref q_a0_prime, w_a0_isNone, .int a0_hasSpan, .long a0_spanFrom, .int a0_spanMany, .ref q_a0_least, .ref q_a0_greatest, .ref q_a0_isSquared, .int a0_hasPart, .long a0_parted, .int a0_partMany, .ref q_a0_partPrime, .ref q_a0_partPower, .int a0_rows, w_a0_row, .long a0_foundLeast, .long a0_foundGreatest, .int a0_foundSquare])), (q_a0_prime, .inl (cI, 9592, .inl a0_prime)), (q_a0_least, .inl (cJ, 5000, .inr (.inl a0_least))), (q_a0_greatest, .inl (cJ, 5000, .inr (.inl a0_greatest))), (q_a0_isSquared, .inl (cZ, 5000, .inl a0_isSquared)), (q_a0_partPrime, .inl (cJ, 16, .inr (.inl a0_partPrime))), (q_a0_partPower, .inl (cI, 16, .inl a0_partPower))]) (w1 := []) hP hD [] [0, 1, 2, 3, 4, 5, 6] rfl rfl (by decide) (by decide) hk1 hFc hP1 hD1
  generalize H1 = H at hP hS ⊢
  have hP : va_P (dC, dI) vwCl [(h_a0, .inr (8, [.int a0_primes, .ref q_a0_prime, w_a0_isNone, .int a0_hasSpan, .long a0_spanFrom, .int a0_spanMany, .ref q_a0_least, .ref q_a0_greatest, .ref q_a0_isSquared, .int a0_hasPart, .long a0_parted, .int a0_partMany, .ref q_a0_partPrime, .ref q_a0_partPower, .int a0_rows, w_a0_row, .long a0_foundLeast, .long a0_foundGreatest, .int a0_foundSquare])), (q_a0_prime, .inl (cI, 9592, .inl a0_prime)), (q_a0_least, .inl (cJ, 5000, .inr (.inl a0_least))), (q_a0_greatest, .inl (cJ, 5000, .inr (.inl a0_greatest))), (q_a0_isSquared, .inl (cZ, 5000, .inl a0_isSquared)), (q_a0_partPrime, .inl (cJ, 16, .inr (.inl a0_partPrime))), (q_a0_partPower, .inl (cI, 16, .inl a0_partPower))] H := hP
  have hD : va_D A [(h_a0, .inr (8, [.int a0_primes, .ref q_a0_prime, w_a0_isNone, .int a0_hasSpan, .long a0_spanFrom, .int a0_spanMany, .ref q_a0_least, .ref q_a0_greatest, .ref q_a0_isSquared, .int a0_hasPart, .long a0_parted, .int a0_partMany, .ref q_a0_partPrime, .ref q_a0_partPower, .int a0_rows, w_a0_row, .long a0_foundLeast, .long a0_foundGreatest, .int a0_foundSquare])), (q_a0_prime, .inl (cI, 9592, .inl a0_prime)), (q_a0_least, .inl (cJ, 5000, .inr (.inl a0_least))), (q_a0_greatest, .inl (cJ, 5000, .inr (.inl a0_greatest))), (q_a0_isSquared, .inl (cZ, 5000, .inl a0_isSquared)), (q_a0_partPrime, .inl (cJ, 16, .inr (.inl a0_partPrime))), (q_a0_partPower, .inl (cI, 16, .inl a0_partPower))] := hD
  refine lv_if_eq (tgt := 36) hx hb dX9_span_9 (by decide) (fun c_2 => ?_) (fun c_2 => ?_)
  · replace h := h.1 c_2
    refine lv_iconst (v := (-1 : Int32)) hx hb dX9_span_36 (by decide) ?_
    have hP9 := hP.sub (ws' := [(h_a0, .inr (8, [.int a0_primes, .ref q_a0_prime, w_a0_isNone, .int a0_hasSpan, .long a0_spanFrom, .int a0_spanMany, .ref q_a0_least, .ref q_a0_greatest, .ref q_a0_isSquared, .int a0_hasPart, .long a0_parted, .int a0_partMany, .ref q_a0_partPrime, .ref q_a0_partPower, .int a0_rows, w_a0_row, .long a0_foundLeast, .long a0_foundGreatest, .int a0_foundSquare])), (q_a0_prime, .inl (cI, 9592, .inl a0_prime)), (q_a0_least, .inl (cJ, 5000, .inr (.inl a0_least))), (q_a0_greatest, .inl (cJ, 5000, .inr (.inl a0_greatest))), (q_a0_isSquared, .inl (cZ, 5000, .inl a0_isSquared)), (q_a0_partPrime, .inl (cJ, 16, .inr (.inl a0_partPrime))), (q_a0_partPower, .inl (cI, 16, .inl a0_partPower))]) [0, 1, 2, 3, 4, 5, 6] rfl
    have hD9 := hD.sub (ws' := [(h_a0, .inr (8, [.int a0_primes, .ref q_a0_prime, w_a0_isNone, .int a0_hasSpan, .long a0_spanFrom, .int a0_spanMany, .ref q_a0_least, .ref q_a0_greatest, .ref q_a0_isSquared, .int a0_hasPart, .long a0_parted, .int a0_partMany, .ref q_a0_partPrime, .ref q_a0_partPower, .int a0_rows, w_a0_row, .long a0_foundLeast, .long a0_foundGreatest, .int a0_foundSquare])), (q_a0_prime, .inl (cI, 9592, .inl a0_prime)), (q_a0_least, .inl (cJ, 5000, .inr (.inl a0_least))), (q_a0_greatest, .inl (cJ, 5000, .inr (.inl a0_greatest))), (q_a0_isSquared, .inl (cZ, 5000, .inl a0_isSquared)), (q_a0_partPrime, .inl (cJ, 16, .inr (.inl a0_partPrime))), (q_a0_partPower, .inl (cI, 16, .inl a0_partPower))]) [0, 1, 2, 3, 4, 5, 6] (by decide) rfl
    exact W.iret (v := (-1 : Int32)) hx hb hr (fun t ht hW => ⟨⟨_, (a0_hasSpan, a0_spanFrom, a0_spanMany, a0_partMany, a0_foundLeast, a0_foundGreatest, a0_foundSquare, a0_least, a0_greatest, a0_isSquared, a0_partPrime, a0_partPower), rfl, h, by rw [ht]; exact hP9, hD9⟩, hS.F ht⟩) hS.2.2 dX9_span_37
  · replace h := h.2 c_2
    refine lv_lload_n hx hb dX9_span_12 rfl (lv_at hl 1 rfl) ?_
    refine lv_lconst (v := (1 : Int64)) hx hb dX9_span_13 (by decide) ?_
    refine lv_ldc2 hx hb hown hw_1 dX9_span_14 ?_
    have hPc := hP.sub (ws' := []) [] rfl
    have hDc := hD.sub (ws' := []) [] (by decide) rfl
    have hFc := va_free (wc := []) hD hS hA [] rfl
    refine va_calli (va_runS (As := [.long p1, .long (1 : Int64), .long (10000000000 : Int64)]) (rest := []) ⟨hx, hb, hml, hown, hts⟩ (c_X9_in l dC dI cI cJ cZ _ p1 (1 : Int64) (10000000000 : Int64) _ h) (va_cwS 3 hts gX9_span_X9_in rfl rfl rfl (by decide +kernel) ⟨Nat.le_of_ble_eq_true rfl, Nat.le_of_ble_eq_true rfl⟩) ⟨pre_fb, pre_of hPc hDc hK hN⟩ rfl rfl hl.1 rfl (lv_room (Nat.le_of_ble_eq_true rfl)) dX9_span_17 ⟨by first | exact Nat.le_of_ble_eq_true rfl | exact Nat.le_refl _, by first | exact Nat.le_of_ble_eq_true rfl | exact Nat.le_refl _⟩) hS (fun q _ h => hFc q h) hFc (fun r_3 u t H1 locs ht hvm h hB hz1 hk1 hS => ?_)
    obtain ⟨hP1, hD1⟩ := hB
    rw [ht] at hP1
    try dsimp only at h
    obtain ⟨hP, hD⟩ := va_join (wr := [(h_a0, .inr (8, [.int a0_primes, .ref q_a0_prime, w_a0_isNone, .int a0_hasSpan, .long a0_spanFrom, .int a0_spanMany, .ref q_a0_least, .ref q_a0_greatest, .ref q_a0_isSquared, .int a0_hasPart, .long a0_parted, .int a0_partMany, .ref q_a0_partPrime, .ref q_a0_partPower, .int a0_rows, w_a0_row, .long a0_foundLeast, .long a0_foundGreatest, .int a0_foundSquare])), (q_a0_prime, .inl (cI, 9592, .inl a0_prime)), (q_a0_least, .inl (cJ, 5000, .inr (.inl a0_least))), (q_a0_greatest, .inl (cJ, 5000, .inr (.inl a0_greatest))), (q_a0_isSquared, .inl (cZ, 5000, .inl a0_isSquared)), (q_a0_partPrime, .inl (cJ, 16, .inr (.inl a0_partPrime))), (q_a0_partPower, .inl (cI, 16, .inl a0_partPower))]) (w1 := []) hP hD [] [0, 1, 2, 3, 4, 5, 6] rfl rfl (by decide) (by decide) hk1 hFc hP1 hD1
    generalize H1 = H at hP hS ⊢
    have hP : va_P (dC, dI) vwCl [(h_a0, .inr (8, [.int a0_primes, .ref q_a0_prime, w_a0_isNone, .int a0_hasSpan, .long a0_spanFrom, .int a0_spanMany, .ref q_a0_least, .ref q_a0_greatest, .ref q_a0_isSquared, .int a0_hasPart, .long a0_parted, .int a0_partMany, .ref q_a0_partPrime, .ref q_a0_partPower, .int a0_rows, w_a0_row, .long a0_foundLeast, .long a0_foundGreatest, .int a0_foundSquare])), (q_a0_prime, .inl (cI, 9592, .inl a0_prime)), (q_a0_least, .inl (cJ, 5000, .inr (.inl a0_least))), (q_a0_greatest, .inl (cJ, 5000, .inr (.inl a0_greatest))), (q_a0_isSquared, .inl (cZ, 5000, .inl a0_isSquared)), (q_a0_partPrime, .inl (cJ, 16, .inr (.inl a0_partPrime))), (q_a0_partPower, .inl (cI, 16, .inl a0_partPower))] H := hP
    have hD : va_D A [(h_a0, .inr (8, [.int a0_primes, .ref q_a0_prime, w_a0_isNone, .int a0_hasSpan, .long a0_spanFrom, .int a0_spanMany, .ref q_a0_least, .ref q_a0_greatest, .ref q_a0_isSquared, .int a0_hasPart, .long a0_parted, .int a0_partMany, .ref q_a0_partPrime, .ref q_a0_partPower, .int a0_rows, w_a0_row, .long a0_foundLeast, .long a0_foundGreatest, .int a0_foundSquare])), (q_a0_prime, .inl (cI, 9592, .inl a0_prime)), (q_a0_least, .inl (cJ, 5000, .inr (.inl a0_least))), (q_a0_greatest, .inl (cJ, 5000, .inr (.inl a0_greatest))), (q_a0_isSquared, .inl (cZ, 5000, .inl a0_isSquared)), (q_a0_partPrime, .inl (cJ, 16, .inr (.inl a0_partPrime))), (q_a0_partPower, .inl (cI, 16, .inl a0_partPower))] := hD
    refine lv_if_eq (tgt := 36) hx hb dX9_span_20 (by decide) (fun c_4 => ?_) (fun c_4 => ?_)
    · replace h := h.1 c_4
      refine lv_iconst (v := (-1 : Int32)) hx hb dX9_span_36 (by decide) ?_
      have hP9 := hP.sub (ws' := [(h_a0, .inr (8, [.int a0_primes, .ref q_a0_prime, w_a0_isNone, .int a0_hasSpan, .long a0_spanFrom, .int a0_spanMany, .ref q_a0_least, .ref q_a0_greatest, .ref q_a0_isSquared, .int a0_hasPart, .long a0_parted, .int a0_partMany, .ref q_a0_partPrime, .ref q_a0_partPower, .int a0_rows, w_a0_row, .long a0_foundLeast, .long a0_foundGreatest, .int a0_foundSquare])), (q_a0_prime, .inl (cI, 9592, .inl a0_prime)), (q_a0_least, .inl (cJ, 5000, .inr (.inl a0_least))), (q_a0_greatest, .inl (cJ, 5000, .inr (.inl a0_greatest))), (q_a0_isSquared, .inl (cZ, 5000, .inl a0_isSquared)), (q_a0_partPrime, .inl (cJ, 16, .inr (.inl a0_partPrime))), (q_a0_partPower, .inl (cI, 16, .inl a0_partPower))]) [0, 1, 2, 3, 4, 5, 6] rfl
      have hD9 := hD.sub (ws' := [(h_a0, .inr (8, [.int a0_primes, .ref q_a0_prime, w_a0_isNone, .int a0_hasSpan, .long a0_spanFrom, .int a0_spanMany, .ref q_a0_least, .ref q_a0_greatest, .ref q_a0_isSquared, .int a0_hasPart, .long a0_parted, .int a0_partMany, .ref q_a0_partPrime, .ref q_a0_partPower, .int a0_rows, w_a0_row, .long a0_foundLeast, .long a0_foundGreatest, .int a0_foundSquare])), (q_a0_prime, .inl (cI, 9592, .inl a0_prime)), (q_a0_least, .inl (cJ, 5000, .inr (.inl a0_least))), (q_a0_greatest, .inl (cJ, 5000, .inr (.inl a0_greatest))), (q_a0_isSquared, .inl (cZ, 5000, .inl a0_isSquared)), (q_a0_partPrime, .inl (cJ, 16, .inr (.inl a0_partPrime))), (q_a0_partPower, .inl (cI, 16, .inl a0_partPower))]) [0, 1, 2, 3, 4, 5, 6] (by decide) rfl
      exact W.iret (v := (-1 : Int32)) hx hb hr (fun t ht hW => ⟨⟨_, (a0_hasSpan, a0_spanFrom, a0_spanMany, a0_partMany, a0_foundLeast, a0_foundGreatest, a0_foundSquare, a0_least, a0_greatest, a0_isSquared, a0_partPrime, a0_partPower), rfl, h, by rw [ht]; exact hP9, hD9⟩, hS.F ht⟩) hS.2.2 dX9_span_37
    · replace h := h.2 c_4
      refine lv_lload_n hx hb dX9_span_23 rfl (lv_at hl 1 rfl) ?_
      refine lv_iload_n hx hb dX9_span_24 rfl (lv_at hl 2 rfl) ?_
      refine lv_i2l hx hb dX9_span_25 rfl ?_
      refine lv_ladd hx hb dX9_span_26 ?_
      refine lv_lconst (v := (1 : Int64)) hx hb dX9_span_27 (by decide) ?_
      refine lv_lsub hx hb dX9_span_28 ?_
      refine lv_ldc2 hx hb hown hw_1 dX9_span_29 ?_
      refine W.lcmp hx hb dX9_span_32 ?_
      refine lv_if_le (tgt := 38) hx hb dX9_span_33 (by decide) (fun c_5 => ?_) (fun c_5 => ?_)
      · replace c_5 := (lg_cmp_le _ _).mp c_5
        replace h := h.1 c_5
        refine lv_aload_n hx hb dX9_span_38 rfl (lv_at hl 0 rfl) ?_
        refine lv_iconst (v := (1 : Int32)) hx hb dX9_span_39 (by decide) ?_
        refine va_put (D := (dC, dI)) (ci := 8) (v := .int (1 : Int32)) (ty := .boolean) (C := RX9) (T := TX9) (N := 19) hx hb hts hin_X9 tyX9 tyX9_ok nmX9 hown hK hP hD hS 0 rfl rfl 3 (by decide) hw_2 (fun _ h9 => h9) rfl (by decide +kernel) rfl rfl (Nat.le_of_ble_eq_true rfl) dX9_span_40 (fun H locs hP hD hS => ?_)
        have hP : va_P (dC, dI) vwCl [(h_a0, .inr (8, [.int a0_primes, .ref q_a0_prime, w_a0_isNone, .int (1 : Int32), .long a0_spanFrom, .int a0_spanMany, .ref q_a0_least, .ref q_a0_greatest, .ref q_a0_isSquared, .int a0_hasPart, .long a0_parted, .int a0_partMany, .ref q_a0_partPrime, .ref q_a0_partPower, .int a0_rows, w_a0_row, .long a0_foundLeast, .long a0_foundGreatest, .int a0_foundSquare])), (q_a0_prime, .inl (cI, 9592, .inl a0_prime)), (q_a0_least, .inl (cJ, 5000, .inr (.inl a0_least))), (q_a0_greatest, .inl (cJ, 5000, .inr (.inl a0_greatest))), (q_a0_isSquared, .inl (cZ, 5000, .inl a0_isSquared)), (q_a0_partPrime, .inl (cJ, 16, .inr (.inl a0_partPrime))), (q_a0_partPower, .inl (cI, 16, .inl a0_partPower))] H := hP
        have hD : va_D A [(h_a0, .inr (8, [.int a0_primes, .ref q_a0_prime, w_a0_isNone, .int (1 : Int32), .long a0_spanFrom, .int a0_spanMany, .ref q_a0_least, .ref q_a0_greatest, .ref q_a0_isSquared, .int a0_hasPart, .long a0_parted, .int a0_partMany, .ref q_a0_partPrime, .ref q_a0_partPower, .int a0_rows, w_a0_row, .long a0_foundLeast, .long a0_foundGreatest, .int a0_foundSquare])), (q_a0_prime, .inl (cI, 9592, .inl a0_prime)), (q_a0_least, .inl (cJ, 5000, .inr (.inl a0_least))), (q_a0_greatest, .inl (cJ, 5000, .inr (.inl a0_greatest))), (q_a0_isSquared, .inl (cZ, 5000, .inl a0_isSquared)), (q_a0_partPrime, .inl (cJ, 16, .inr (.inl a0_partPrime))), (q_a0_partPower, .inl (cI, 16, .inl a0_partPower))] := hD
        refine lv_aload_n hx hb dX9_span_43 rfl (lv_at hl 0 rfl) ?_
        refine lv_lload_n hx hb dX9_span_44 rfl (lv_at hl 1 rfl) ?_
        refine va_put (D := (dC, dI)) (ci := 8) (v := .long p1) (ty := .long) (C := RX9) (T := TX9) (N := 19) hx hb hts hin_X9 tyX9 tyX9_ok nmX9 hown hK hP hD hS 0 rfl rfl 4 (by decide) hw_4 (fun _ h9 => h9) rfl (by decide +kernel) rfl rfl (Nat.le_of_ble_eq_true rfl) dX9_span_45 (fun H locs hP hD hS => ?_)
        have hP : va_P (dC, dI) vwCl [(h_a0, .inr (8, [.int a0_primes, .ref q_a0_prime, w_a0_isNone, .int (1 : Int32), .long p1, .int a0_spanMany, .ref q_a0_least, .ref q_a0_greatest, .ref q_a0_isSquared, .int a0_hasPart, .long a0_parted, .int a0_partMany, .ref q_a0_partPrime, .ref q_a0_partPower, .int a0_rows, w_a0_row, .long a0_foundLeast, .long a0_foundGreatest, .int a0_foundSquare])), (q_a0_prime, .inl (cI, 9592, .inl a0_prime)), (q_a0_least, .inl (cJ, 5000, .inr (.inl a0_least))), (q_a0_greatest, .inl (cJ, 5000, .inr (.inl a0_greatest))), (q_a0_isSquared, .inl (cZ, 5000, .inl a0_isSquared)), (q_a0_partPrime, .inl (cJ, 16, .inr (.inl a0_partPrime))), (q_a0_partPower, .inl (cI, 16, .inl a0_partPower))] H := hP
        have hD : va_D A [(h_a0, .inr (8, [.int a0_primes, .ref q_a0_prime, w_a0_isNone, .int (1 : Int32), .long p1, .int a0_spanMany, .ref q_a0_least, .ref q_a0_greatest, .ref q_a0_isSquared, .int a0_hasPart, .long a0_parted, .int a0_partMany, .ref q_a0_partPrime, .ref q_a0_partPower, .int a0_rows, w_a0_row, .long a0_foundLeast, .long a0_foundGreatest, .int a0_foundSquare])), (q_a0_prime, .inl (cI, 9592, .inl a0_prime)), (q_a0_least, .inl (cJ, 5000, .inr (.inl a0_least))), (q_a0_greatest, .inl (cJ, 5000, .inr (.inl a0_greatest))), (q_a0_isSquared, .inl (cZ, 5000, .inl a0_isSquared)), (q_a0_partPrime, .inl (cJ, 16, .inr (.inl a0_partPrime))), (q_a0_partPower, .inl (cI, 16, .inl a0_partPower))] := hD
        refine lv_aload_n hx hb dX9_span_48 rfl (lv_at hl 0 rfl) ?_
        refine lv_iload_n hx hb dX9_span_49 rfl (lv_at hl 2 rfl) ?_
        refine va_put (D := (dC, dI)) (ci := 8) (v := .int p2) (ty := .int) (C := RX9) (T := TX9) (N := 19) hx hb hts hin_X9 tyX9 tyX9_ok nmX9 hown hK hP hD hS 0 rfl rfl 5 (by decide) hw_5 (fun _ h9 => h9) rfl (by decide +kernel) rfl rfl (Nat.le_of_ble_eq_true rfl) dX9_span_50 (fun H locs hP hD hS => ?_)
        have hP : va_P (dC, dI) vwCl [(h_a0, .inr (8, [.int a0_primes, .ref q_a0_prime, w_a0_isNone, .int (1 : Int32), .long p1, .int p2, .ref q_a0_least, .ref q_a0_greatest, .ref q_a0_isSquared, .int a0_hasPart, .long a0_parted, .int a0_partMany, .ref q_a0_partPrime, .ref q_a0_partPower, .int a0_rows, w_a0_row, .long a0_foundLeast, .long a0_foundGreatest, .int a0_foundSquare])), (q_a0_prime, .inl (cI, 9592, .inl a0_prime)), (q_a0_least, .inl (cJ, 5000, .inr (.inl a0_least))), (q_a0_greatest, .inl (cJ, 5000, .inr (.inl a0_greatest))), (q_a0_isSquared, .inl (cZ, 5000, .inl a0_isSquared)), (q_a0_partPrime, .inl (cJ, 16, .inr (.inl a0_partPrime))), (q_a0_partPower, .inl (cI, 16, .inl a0_partPower))] H := hP
        have hD : va_D A [(h_a0, .inr (8, [.int a0_primes, .ref q_a0_prime, w_a0_isNone, .int (1 : Int32), .long p1, .int p2, .ref q_a0_least, .ref q_a0_greatest, .ref q_a0_isSquared, .int a0_hasPart, .long a0_parted, .int a0_partMany, .ref q_a0_partPrime, .ref q_a0_partPower, .int a0_rows, w_a0_row, .long a0_foundLeast, .long a0_foundGreatest, .int a0_foundSquare])), (q_a0_prime, .inl (cI, 9592, .inl a0_prime)), (q_a0_least, .inl (cJ, 5000, .inr (.inl a0_least))), (q_a0_greatest, .inl (cJ, 5000, .inr (.inl a0_greatest))), (q_a0_isSquared, .inl (cZ, 5000, .inl a0_isSquared)), (q_a0_partPrime, .inl (cJ, 16, .inr (.inl a0_partPrime))), (q_a0_partPower, .inl (cI, 16, .inl a0_partPower))] := hD
        refine lv_iconst (v := (0 : Int32)) hx hb dX9_span_53 (by decide) ?_
        refine lv_istore (lv' := [(4, .int (0 : Int32)), (0, .ref h_a0), (1, .long p1), (3, .int p2)]) hx hb dX9_span_54 hl (by decide) rfl (fun ls hl => ?_)
        obtain ⟨I_56_5, m_56_5, h0_56_5, hs_56_5⟩ := h
        have key_56_5 : ∀ (n : Nat) (l4_56_5 : Int32) (a0_partMany_56_5 : Int32) (a0_foundLeast_56_5 : Int64) (a0_foundGreatest_56_5 : Int64) (a0_foundSquare_56_5 : Int32) (a0_least_56_5 : Nat → Int64) (a0_greatest_56_5 : Nat → Int64) (a0_isSquared_56_5 : Nat → Int32) (a0_partPrime_56_5 : Nat → Int64) (a0_partPower_56_5 : Nat → Int32), m_56_5 l4_56_5 a0_partMany_56_5 a0_foundLeast_56_5 a0_foundGreatest_56_5 a0_foundSquare_56_5 a0_least_56_5 a0_greatest_56_5 a0_isSquared_56_5 a0_partPrime_56_5 a0_partPower_56_5 < n → I_56_5 l4_56_5 a0_partMany_56_5 a0_foundLeast_56_5 a0_foundGreatest_56_5 a0_foundSquare_56_5 a0_least_56_5 a0_greatest_56_5 a0_isSquared_56_5 a0_partPrime_56_5 a0_partPower_56_5 → ∀ (ls : Array Slot) (H : Heap) (locs : List Loc), lv_has ls 5 [(4, .int l4_56_5), (0, .ref h_a0), (1, .long p1), (3, .int p2)] → va_P (dC, dI) vwCl [(h_a0, .inr (8, [.int a0_primes, .ref q_a0_prime, w_a0_isNone, .int (1 : Int32), .long p1, .int p2, .ref q_a0_least, .ref q_a0_greatest, .ref q_a0_isSquared, .int a0_hasPart, .long a0_parted, .int a0_partMany_56_5, .ref q_a0_partPrime, .ref q_a0_partPower, .int a0_rows, w_a0_row, .long a0_foundLeast_56_5, .long a0_foundGreatest_56_5, .int a0_foundSquare_56_5])), (q_a0_prime, .inl (cI, 9592, .inl a0_prime)), (q_a0_least, .inl (cJ, 5000, .inr (.inl a0_least_56_5))), (q_a0_greatest, .inl (cJ, 5000, .inr (.inl a0_greatest_56_5))), (q_a0_isSquared, .inl (cZ, 5000, .inl a0_isSquared_56_5)), (q_a0_partPrime, .inl (cJ, 16, .inr (.inl a0_partPrime_56_5))), (q_a0_partPower, .inl (cI, 16, .inl a0_partPower_56_5))] H → va_D A [(h_a0, .inr (8, [.int a0_primes, .ref q_a0_prime, w_a0_isNone, .int (1 : Int32), .long p1, .int p2, .ref q_a0_least, .ref q_a0_greatest, .ref q_a0_isSquared, .int a0_hasPart, .long a0_parted, .int a0_partMany_56_5, .ref q_a0_partPrime, .ref q_a0_partPower, .int a0_rows, w_a0_row, .long a0_foundLeast_56_5, .long a0_foundGreatest_56_5, .int a0_foundSquare_56_5])), (q_a0_prime, .inl (cI, 9592, .inl a0_prime)), (q_a0_least, .inl (cJ, 5000, .inr (.inl a0_least_56_5))), (q_a0_greatest, .inl (cJ, 5000, .inr (.inl a0_greatest_56_5))), (q_a0_isSquared, .inl (cZ, 5000, .inl a0_isSquared_56_5)), (q_a0_partPrime, .inl (cJ, 16, .inr (.inl a0_partPrime_56_5))), (q_a0_partPower, .inl (cI, 16, .inl a0_partPower_56_5))] → va_S A s.heap H locs → W p l e (headSpec wsX9_span rm_X9_span).room s m ([.ref h_a0, .long p1, .int p2] : List Value).toArray below meth c H locs 0 0 (MQ below (qc_X9_span dC dI cI cJ cZ h_a0 a0_primes a0_prime q_a0_prime w_a0_isNone a0_hasSpan a0_spanFrom a0_spanMany a0_least q_a0_least a0_greatest q_a0_greatest a0_isSquared q_a0_isSquared a0_hasPart a0_parted a0_partMany a0_partPrime q_a0_partPrime a0_partPower q_a0_partPower a0_rows w_a0_row a0_foundLeast a0_foundGreatest a0_foundSquare Q A) ([.ref h_a0, .long p1, .int p2] : List Value).toArray s 0 0 A) (F0 m 56 ls []) := by
          intro n
          induction n with
          | zero =>
            intro l4_56_5 a0_partMany_56_5 a0_foundLeast_56_5 a0_foundGreatest_56_5 a0_foundSquare_56_5 a0_least_56_5 a0_greatest_56_5 a0_isSquared_56_5 a0_partPrime_56_5 a0_partPower_56_5 hm
            exact absurd hm (Nat.not_lt_zero _)
          | succ n ih_56_5 =>
            intro l4_56_5 a0_partMany_56_5 a0_foundLeast_56_5 a0_foundGreatest_56_5 a0_foundSquare_56_5 a0_least_56_5 a0_greatest_56_5 a0_isSquared_56_5 a0_partPrime_56_5 a0_partPower_56_5 hm_56_5 hI ls H locs hl hP hD hS
            have h := hs_56_5 l4_56_5 a0_partMany_56_5 a0_foundLeast_56_5 a0_foundGreatest_56_5 a0_foundSquare_56_5 a0_least_56_5 a0_greatest_56_5 a0_isSquared_56_5 a0_partPrime_56_5 a0_partPower_56_5 hI
            refine lv_iload hx hb dX9_span_56 (lv_at hl 0 rfl) ?_
            refine lv_iload_n hx hb dX9_span_58 rfl (lv_at hl 3 rfl) ?_
            refine lv_icmp_ge (tgt := 111) hx hb dX9_span_59 (by decide) (fun c_7 => ?_) (fun c_7 => ?_)
            · replace h := h.1 c_7
              refine lv_aload_n hx hb dX9_span_111 rfl (lv_at hl 1 rfl) ?_
              refine lv_iconst (v := (0 : Int32)) hx hb dX9_span_112 (by decide) ?_
              have hPc := hP.sub (ws' := [(h_a0, .inr (8, [.int a0_primes, .ref q_a0_prime, w_a0_isNone, .int (1 : Int32), .long p1, .int p2, .ref q_a0_least, .ref q_a0_greatest, .ref q_a0_isSquared, .int a0_hasPart, .long a0_parted, .int a0_partMany_56_5, .ref q_a0_partPrime, .ref q_a0_partPower, .int a0_rows, w_a0_row, .long a0_foundLeast_56_5, .long a0_foundGreatest_56_5, .int a0_foundSquare_56_5])), (q_a0_least, .inl (cJ, 5000, .inr (.inl a0_least_56_5))), (q_a0_isSquared, .inl (cZ, 5000, .inl a0_isSquared_56_5))]) [0, 2, 4] rfl
              have hDc := hD.sub (ws' := [(h_a0, .inr (8, [.int a0_primes, .ref q_a0_prime, w_a0_isNone, .int (1 : Int32), .long p1, .int p2, .ref q_a0_least, .ref q_a0_greatest, .ref q_a0_isSquared, .int a0_hasPart, .long a0_parted, .int a0_partMany_56_5, .ref q_a0_partPrime, .ref q_a0_partPower, .int a0_rows, w_a0_row, .long a0_foundLeast_56_5, .long a0_foundGreatest_56_5, .int a0_foundSquare_56_5])), (q_a0_least, .inl (cJ, 5000, .inr (.inl a0_least_56_5))), (q_a0_isSquared, .inl (cZ, 5000, .inl a0_isSquared_56_5))]) [0, 2, 4] (by decide) rfl
              have hFc := va_free (wc := [(h_a0, .inr (8, [.int a0_primes, .ref q_a0_prime, w_a0_isNone, .int (1 : Int32), .long p1, .int p2, .ref q_a0_least, .ref q_a0_greatest, .ref q_a0_isSquared, .int a0_hasPart, .long a0_parted, .int a0_partMany_56_5, .ref q_a0_partPrime, .ref q_a0_partPower, .int a0_rows, w_a0_row, .long a0_foundLeast_56_5, .long a0_foundGreatest_56_5, .int a0_foundSquare_56_5])), (q_a0_least, .inl (cJ, 5000, .inr (.inl a0_least_56_5))), (q_a0_isSquared, .inl (cZ, 5000, .inl a0_isSquared_56_5))]) hD hS hA [0, 2, 4] rfl
              refine va_calli (va_runV (As := [.int (0 : Int32)]) (rest := []) ⟨hx, hb, hml, hown, hts⟩ (c_X9_spanned l dC dI cI cJ cZ _ h_a0 a0_primes (.ref q_a0_prime) (w_a0_isNone) (1 : Int32) p1 p2 a0_least_56_5 q_a0_least (.ref q_a0_greatest) a0_isSquared_56_5 q_a0_isSquared a0_hasPart a0_parted a0_partMany_56_5 (.ref q_a0_partPrime) (.ref q_a0_partPower) a0_rows (w_a0_row) a0_foundLeast_56_5 a0_foundGreatest_56_5 a0_foundSquare_56_5 (0 : Int32) _ h) (cwV 1 hts gX9_span_X9_spanned rfl rfl rfl (by decide +kernel) ⟨Nat.le_of_ble_eq_true rfl, Nat.le_of_ble_eq_true rfl⟩) ⟨pre_fb, va_recv hK hPc (ci := 8) (q0 := 0) rfl rfl, pre_of hPc hDc hK hN⟩ rfl rfl hl.1 rfl (lv_room (Nat.le_of_ble_eq_true rfl)) dX9_span_113 ⟨by first | exact Nat.le_of_ble_eq_true rfl | exact Nat.le_refl _, by first | exact Nat.le_of_ble_eq_true rfl | exact Nat.le_refl _⟩) hS (fun q _ h => hFc q h) hFc (fun r_8 u t H1 locs ht hvm h hB hz1 hk1 hS => ?_)
              obtain ⟨hP1, hD1⟩ := hB
              rw [ht] at hP1
              try dsimp only at h
              obtain ⟨hP, hD⟩ := va_join (wr := [(q_a0_prime, .inl (cI, 9592, .inl a0_prime)), (q_a0_greatest, .inl (cJ, 5000, .inr (.inl a0_greatest_56_5))), (q_a0_partPrime, .inl (cJ, 16, .inr (.inl a0_partPrime_56_5))), (q_a0_partPower, .inl (cI, 16, .inl a0_partPower_56_5))]) (w1 := [(h_a0, .inr (8, [.int a0_primes, .ref q_a0_prime, w_a0_isNone, .int (1 : Int32), .long p1, .int p2, .ref q_a0_least, .ref q_a0_greatest, .ref q_a0_isSquared, .int a0_hasPart, .long a0_parted, .int a0_partMany_56_5, .ref q_a0_partPrime, .ref q_a0_partPower, .int a0_rows, w_a0_row, .long a0_foundLeast_56_5, .long a0_foundGreatest_56_5, .int a0_foundSquare_56_5])), (q_a0_least, .inl (cJ, 5000, .inr (.inl a0_least_56_5))), (q_a0_isSquared, .inl (cZ, 5000, .inl a0_isSquared_56_5))]) hP hD [0, 2, 4] [1, 3, 5, 6] rfl rfl (by decide) (by decide) hk1 hFc hP1 hD1
              generalize H1 = H at hP hS ⊢
              have hP : va_P (dC, dI) vwCl [(q_a0_prime, .inl (cI, 9592, .inl a0_prime)), (q_a0_greatest, .inl (cJ, 5000, .inr (.inl a0_greatest_56_5))), (q_a0_partPrime, .inl (cJ, 16, .inr (.inl a0_partPrime_56_5))), (q_a0_partPower, .inl (cI, 16, .inl a0_partPower_56_5)), (h_a0, .inr (8, [.int a0_primes, .ref q_a0_prime, w_a0_isNone, .int (1 : Int32), .long p1, .int p2, .ref q_a0_least, .ref q_a0_greatest, .ref q_a0_isSquared, .int a0_hasPart, .long a0_parted, .int a0_partMany_56_5, .ref q_a0_partPrime, .ref q_a0_partPower, .int a0_rows, w_a0_row, .long a0_foundLeast_56_5, .long a0_foundGreatest_56_5, .int a0_foundSquare_56_5])), (q_a0_least, .inl (cJ, 5000, .inr (.inl a0_least_56_5))), (q_a0_isSquared, .inl (cZ, 5000, .inl a0_isSquared_56_5))] H := hP
              have hD : va_D A [(q_a0_prime, .inl (cI, 9592, .inl a0_prime)), (q_a0_greatest, .inl (cJ, 5000, .inr (.inl a0_greatest_56_5))), (q_a0_partPrime, .inl (cJ, 16, .inr (.inl a0_partPrime_56_5))), (q_a0_partPower, .inl (cI, 16, .inl a0_partPower_56_5)), (h_a0, .inr (8, [.int a0_primes, .ref q_a0_prime, w_a0_isNone, .int (1 : Int32), .long p1, .int p2, .ref q_a0_least, .ref q_a0_greatest, .ref q_a0_isSquared, .int a0_hasPart, .long a0_parted, .int a0_partMany_56_5, .ref q_a0_partPrime, .ref q_a0_partPower, .int a0_rows, w_a0_row, .long a0_foundLeast_56_5, .long a0_foundGreatest_56_5, .int a0_foundSquare_56_5])), (q_a0_least, .inl (cJ, 5000, .inr (.inl a0_least_56_5))), (q_a0_isSquared, .inl (cZ, 5000, .inl a0_isSquared_56_5))] := hD
              have hP9 := hP.sub (ws' := [(h_a0, .inr (8, [.int a0_primes, .ref q_a0_prime, w_a0_isNone, .int (1 : Int32), .long p1, .int p2, .ref q_a0_least, .ref q_a0_greatest, .ref q_a0_isSquared, .int a0_hasPart, .long a0_parted, .int a0_partMany_56_5, .ref q_a0_partPrime, .ref q_a0_partPower, .int a0_rows, w_a0_row, .long a0_foundLeast_56_5, .long a0_foundGreatest_56_5, .int a0_foundSquare_56_5])), (q_a0_prime, .inl (cI, 9592, .inl a0_prime)), (q_a0_least, .inl (cJ, 5000, .inr (.inl a0_least_56_5))), (q_a0_greatest, .inl (cJ, 5000, .inr (.inl a0_greatest_56_5))), (q_a0_isSquared, .inl (cZ, 5000, .inl a0_isSquared_56_5)), (q_a0_partPrime, .inl (cJ, 16, .inr (.inl a0_partPrime_56_5))), (q_a0_partPower, .inl (cI, 16, .inl a0_partPower_56_5))]) [4, 0, 5, 1, 6, 2, 3] rfl
              have hD9 := hD.sub (ws' := [(h_a0, .inr (8, [.int a0_primes, .ref q_a0_prime, w_a0_isNone, .int (1 : Int32), .long p1, .int p2, .ref q_a0_least, .ref q_a0_greatest, .ref q_a0_isSquared, .int a0_hasPart, .long a0_parted, .int a0_partMany_56_5, .ref q_a0_partPrime, .ref q_a0_partPower, .int a0_rows, w_a0_row, .long a0_foundLeast_56_5, .long a0_foundGreatest_56_5, .int a0_foundSquare_56_5])), (q_a0_prime, .inl (cI, 9592, .inl a0_prime)), (q_a0_least, .inl (cJ, 5000, .inr (.inl a0_least_56_5))), (q_a0_greatest, .inl (cJ, 5000, .inr (.inl a0_greatest_56_5))), (q_a0_isSquared, .inl (cZ, 5000, .inl a0_isSquared_56_5)), (q_a0_partPrime, .inl (cJ, 16, .inr (.inl a0_partPrime_56_5))), (q_a0_partPower, .inl (cI, 16, .inl a0_partPower_56_5))]) [4, 0, 5, 1, 6, 2, 3] (by decide) rfl
              exact W.iret (v := r_8) hx hb hr (fun t ht hW => ⟨⟨_, ((1 : Int32), p1, p2, a0_partMany_56_5, a0_foundLeast_56_5, a0_foundGreatest_56_5, a0_foundSquare_56_5, a0_least_56_5, a0_greatest_56_5, a0_isSquared_56_5, a0_partPrime_56_5, a0_partPower_56_5), rfl, h, by rw [ht]; exact hP9, hD9⟩, hS.F ht⟩) hS.2.2 dX9_span_116
            · replace h := h.2 c_7
              refine lv_aload_n hx hb dX9_span_62 rfl (lv_at hl 1 rfl) ?_
              refine lv_lload_n hx hb dX9_span_63 rfl (lv_at hl 2 rfl) ?_
              refine lv_iload hx hb dX9_span_64 (lv_at hl 0 rfl) ?_
              refine lv_i2l hx hb dX9_span_66 rfl ?_
              refine lv_ladd hx hb dX9_span_67 ?_
              refine lv_iconst (v := (0 : Int32)) hx hb dX9_span_68 (by decide) ?_
              have hPc := hP.sub (ws' := [(h_a0, .inr (8, [.int a0_primes, .ref q_a0_prime, w_a0_isNone, .int (1 : Int32), .long p1, .int p2, .ref q_a0_least, .ref q_a0_greatest, .ref q_a0_isSquared, .int a0_hasPart, .long a0_parted, .int a0_partMany_56_5, .ref q_a0_partPrime, .ref q_a0_partPower, .int a0_rows, w_a0_row, .long a0_foundLeast_56_5, .long a0_foundGreatest_56_5, .int a0_foundSquare_56_5])), (q_a0_prime, .inl (cI, 9592, .inl a0_prime)), (q_a0_partPrime, .inl (cJ, 16, .inr (.inl a0_partPrime_56_5))), (q_a0_partPower, .inl (cI, 16, .inl a0_partPower_56_5))]) [0, 1, 5, 6] rfl
              have hDc := hD.sub (ws' := [(h_a0, .inr (8, [.int a0_primes, .ref q_a0_prime, w_a0_isNone, .int (1 : Int32), .long p1, .int p2, .ref q_a0_least, .ref q_a0_greatest, .ref q_a0_isSquared, .int a0_hasPart, .long a0_parted, .int a0_partMany_56_5, .ref q_a0_partPrime, .ref q_a0_partPower, .int a0_rows, w_a0_row, .long a0_foundLeast_56_5, .long a0_foundGreatest_56_5, .int a0_foundSquare_56_5])), (q_a0_prime, .inl (cI, 9592, .inl a0_prime)), (q_a0_partPrime, .inl (cJ, 16, .inr (.inl a0_partPrime_56_5))), (q_a0_partPower, .inl (cI, 16, .inl a0_partPower_56_5))]) [0, 1, 5, 6] (by decide) rfl
              have hFc := va_free (wc := [(h_a0, .inr (8, [.int a0_primes, .ref q_a0_prime, w_a0_isNone, .int (1 : Int32), .long p1, .int p2, .ref q_a0_least, .ref q_a0_greatest, .ref q_a0_isSquared, .int a0_hasPart, .long a0_parted, .int a0_partMany_56_5, .ref q_a0_partPrime, .ref q_a0_partPower, .int a0_rows, w_a0_row, .long a0_foundLeast_56_5, .long a0_foundGreatest_56_5, .int a0_foundSquare_56_5])), (q_a0_prime, .inl (cI, 9592, .inl a0_prime)), (q_a0_partPrime, .inl (cJ, 16, .inr (.inl a0_partPrime_56_5))), (q_a0_partPower, .inl (cI, 16, .inl a0_partPower_56_5))]) hD hS hA [0, 1, 5, 6] rfl
              refine va_callv (va_runV (As := [.long (p1 + l4_56_5.toInt64), .int (0 : Int32)]) (rest := []) ⟨hx, hb, hml, hown, hts⟩ (c_X9_parts l dC dI cI cJ cZ _ h_a0 a0_primes a0_prime q_a0_prime (w_a0_isNone) (1 : Int32) p1 p2 (.ref q_a0_least) (.ref q_a0_greatest) (.ref q_a0_isSquared) a0_hasPart a0_parted a0_partMany_56_5 a0_partPrime_56_5 q_a0_partPrime a0_partPower_56_5 q_a0_partPower a0_rows (w_a0_row) a0_foundLeast_56_5 a0_foundGreatest_56_5 a0_foundSquare_56_5 (p1 + l4_56_5.toInt64) (0 : Int32) _ h) (cwV 2 hts gX9_span_X9_parts rfl rfl rfl (by decide +kernel) ⟨Nat.le_of_ble_eq_true rfl, Nat.le_of_ble_eq_true rfl⟩) ⟨pre_fb, va_recv hK hPc (ci := 8) (q0 := 0) rfl rfl, pre_of hPc hDc hK hN⟩ rfl rfl hl.1 rfl (lv_room (Nat.le_of_ble_eq_true rfl)) dX9_span_69 ⟨by first | exact Nat.le_of_ble_eq_true rfl | exact Nat.le_refl _, by first | exact Nat.le_of_ble_eq_true rfl | exact Nat.le_refl _⟩) hS (fun q _ h => hFc q h) hFc (fun u t H1 locs ht hvm h hB hz1 hk1 hS => ?_)
              obtain ⟨o_9, o_10, o_11, o_12, o_13, o_14⟩ := u
              obtain ⟨hP1, hD1⟩ := hB
              rw [ht] at hP1
              try dsimp only at h
              obtain ⟨hP, hD⟩ := va_join (wr := [(q_a0_least, .inl (cJ, 5000, .inr (.inl a0_least_56_5))), (q_a0_greatest, .inl (cJ, 5000, .inr (.inl a0_greatest_56_5))), (q_a0_isSquared, .inl (cZ, 5000, .inl a0_isSquared_56_5))]) (w1 := [(h_a0, .inr (8, [.int a0_primes, .ref q_a0_prime, w_a0_isNone, .int (1 : Int32), .long p1, .int p2, .ref q_a0_least, .ref q_a0_greatest, .ref q_a0_isSquared, .int a0_hasPart, .long a0_parted, .int o_9, .ref q_a0_partPrime, .ref q_a0_partPower, .int a0_rows, w_a0_row, .long o_10, .long o_11, .int o_12])), (q_a0_prime, .inl (cI, 9592, .inl a0_prime)), (q_a0_partPrime, .inl (cJ, 16, .inr (.inl o_13))), (q_a0_partPower, .inl (cI, 16, .inl o_14))]) hP hD [0, 1, 5, 6] [2, 3, 4] rfl rfl (by decide) (by decide) hk1 hFc hP1 hD1
              generalize H1 = H at hP hS ⊢
              have hP : va_P (dC, dI) vwCl [(q_a0_least, .inl (cJ, 5000, .inr (.inl a0_least_56_5))), (q_a0_greatest, .inl (cJ, 5000, .inr (.inl a0_greatest_56_5))), (q_a0_isSquared, .inl (cZ, 5000, .inl a0_isSquared_56_5)), (h_a0, .inr (8, [.int a0_primes, .ref q_a0_prime, w_a0_isNone, .int (1 : Int32), .long p1, .int p2, .ref q_a0_least, .ref q_a0_greatest, .ref q_a0_isSquared, .int a0_hasPart, .long a0_parted, .int o_9, .ref q_a0_partPrime, .ref q_a0_partPower, .int a0_rows, w_a0_row, .long o_10, .long o_11, .int o_12])), (q_a0_prime, .inl (cI, 9592, .inl a0_prime)), (q_a0_partPrime, .inl (cJ, 16, .inr (.inl o_13))), (q_a0_partPower, .inl (cI, 16, .inl o_14))] H := hP
              have hD : va_D A [(q_a0_least, .inl (cJ, 5000, .inr (.inl a0_least_56_5))), (q_a0_greatest, .inl (cJ, 5000, .inr (.inl a0_greatest_56_5))), (q_a0_isSquared, .inl (cZ, 5000, .inl a0_isSquared_56_5)), (h_a0, .inr (8, [.int a0_primes, .ref q_a0_prime, w_a0_isNone, .int (1 : Int32), .long p1, .int p2, .ref q_a0_least, .ref q_a0_greatest, .ref q_a0_isSquared, .int a0_hasPart, .long a0_parted, .int o_9, .ref q_a0_partPrime, .ref q_a0_partPower, .int a0_rows, w_a0_row, .long o_10, .long o_11, .int o_12])), (q_a0_prime, .inl (cI, 9592, .inl a0_prime)), (q_a0_partPrime, .inl (cJ, 16, .inr (.inl o_13))), (q_a0_partPower, .inl (cI, 16, .inl o_14))] := hD
              refine lv_aload_n hx hb dX9_span_72 rfl (lv_at hl 1 rfl) ?_
              refine va_get (D := (dC, dI)) (ci := 8) (v := .ref q_a0_least) (C := RX9) (T := TX9) (N := 19) hx hb hts hin_X9 hown hK hP 3 rfl rfl 6 (by decide) hw_6 (fun _ h9 => h9) rfl dX9_span_73 ?_
              refine lv_iload hx hb dX9_span_76 (lv_at hl 0 rfl) ?_
              refine lv_aload_n hx hb dX9_span_78 rfl (lv_at hl 1 rfl) ?_
              refine va_get (D := (dC, dI)) (ci := 8) (v := .long o_10) (C := RX9) (T := TX9) (N := 19) hx hb hts hin_X9 hown hK hP 3 rfl rfl 16 (by decide) hw_7 (fun _ h9 => h9) rfl dX9_span_79 ?_
              obtain ⟨hin_15, h⟩ := h
              refine va_last hx hb hK hP hD hS 0 1 rfl rfl hin_15 dX9_span_82 (fun H locs hP hD hS => ?_)
              have hP : va_P (dC, dI) vwCl [(q_a0_least, .inl (cJ, 5000, .inr (.inl (vp_updL a0_least_56_5 l4_56_5.toNatClampNeg o_10)))), (q_a0_greatest, .inl (cJ, 5000, .inr (.inl a0_greatest_56_5))), (q_a0_isSquared, .inl (cZ, 5000, .inl a0_isSquared_56_5)), (h_a0, .inr (8, [.int a0_primes, .ref q_a0_prime, w_a0_isNone, .int (1 : Int32), .long p1, .int p2, .ref q_a0_least, .ref q_a0_greatest, .ref q_a0_isSquared, .int a0_hasPart, .long a0_parted, .int o_9, .ref q_a0_partPrime, .ref q_a0_partPower, .int a0_rows, w_a0_row, .long o_10, .long o_11, .int o_12])), (q_a0_prime, .inl (cI, 9592, .inl a0_prime)), (q_a0_partPrime, .inl (cJ, 16, .inr (.inl o_13))), (q_a0_partPower, .inl (cI, 16, .inl o_14))] H := hP
              have hD : va_D A [(q_a0_least, .inl (cJ, 5000, .inr (.inl (vp_updL a0_least_56_5 l4_56_5.toNatClampNeg o_10)))), (q_a0_greatest, .inl (cJ, 5000, .inr (.inl a0_greatest_56_5))), (q_a0_isSquared, .inl (cZ, 5000, .inl a0_isSquared_56_5)), (h_a0, .inr (8, [.int a0_primes, .ref q_a0_prime, w_a0_isNone, .int (1 : Int32), .long p1, .int p2, .ref q_a0_least, .ref q_a0_greatest, .ref q_a0_isSquared, .int a0_hasPart, .long a0_parted, .int o_9, .ref q_a0_partPrime, .ref q_a0_partPower, .int a0_rows, w_a0_row, .long o_10, .long o_11, .int o_12])), (q_a0_prime, .inl (cI, 9592, .inl a0_prime)), (q_a0_partPrime, .inl (cJ, 16, .inr (.inl o_13))), (q_a0_partPower, .inl (cI, 16, .inl o_14))] := hD
              refine lv_aload_n hx hb dX9_span_83 rfl (lv_at hl 1 rfl) ?_
              refine va_get (D := (dC, dI)) (ci := 8) (v := .ref q_a0_greatest) (C := RX9) (T := TX9) (N := 19) hx hb hts hin_X9 hown hK hP 3 rfl rfl 7 (by decide) hw_8 (fun _ h9 => h9) rfl dX9_span_84 ?_
              refine lv_iload hx hb dX9_span_87 (lv_at hl 0 rfl) ?_
              refine lv_aload_n hx hb dX9_span_89 rfl (lv_at hl 1 rfl) ?_
              refine va_get (D := (dC, dI)) (ci := 8) (v := .long o_11) (C := RX9) (T := TX9) (N := 19) hx hb hts hin_X9 hown hK hP 3 rfl rfl 17 (by decide) hw_9 (fun _ h9 => h9) rfl dX9_span_90 ?_
              obtain ⟨hin_16, h⟩ := h
              refine va_last hx hb hK hP hD hS 1 1 rfl rfl hin_16 dX9_span_93 (fun H locs hP hD hS => ?_)
              have hP : va_P (dC, dI) vwCl [(q_a0_least, .inl (cJ, 5000, .inr (.inl (vp_updL a0_least_56_5 l4_56_5.toNatClampNeg o_10)))), (q_a0_greatest, .inl (cJ, 5000, .inr (.inl (vp_updL a0_greatest_56_5 l4_56_5.toNatClampNeg o_11)))), (q_a0_isSquared, .inl (cZ, 5000, .inl a0_isSquared_56_5)), (h_a0, .inr (8, [.int a0_primes, .ref q_a0_prime, w_a0_isNone, .int (1 : Int32), .long p1, .int p2, .ref q_a0_least, .ref q_a0_greatest, .ref q_a0_isSquared, .int a0_hasPart, .long a0_parted, .int o_9, .ref q_a0_partPrime, .ref q_a0_partPower, .int a0_rows, w_a0_row, .long o_10, .long o_11, .int o_12])), (q_a0_prime, .inl (cI, 9592, .inl a0_prime)), (q_a0_partPrime, .inl (cJ, 16, .inr (.inl o_13))), (q_a0_partPower, .inl (cI, 16, .inl o_14))] H := hP
              have hD : va_D A [(q_a0_least, .inl (cJ, 5000, .inr (.inl (vp_updL a0_least_56_5 l4_56_5.toNatClampNeg o_10)))), (q_a0_greatest, .inl (cJ, 5000, .inr (.inl (vp_updL a0_greatest_56_5 l4_56_5.toNatClampNeg o_11)))), (q_a0_isSquared, .inl (cZ, 5000, .inl a0_isSquared_56_5)), (h_a0, .inr (8, [.int a0_primes, .ref q_a0_prime, w_a0_isNone, .int (1 : Int32), .long p1, .int p2, .ref q_a0_least, .ref q_a0_greatest, .ref q_a0_isSquared, .int a0_hasPart, .long a0_parted, .int o_9, .ref q_a0_partPrime, .ref q_a0_partPower, .int a0_rows, w_a0_row, .long o_10, .long o_11, .int o_12])), (q_a0_prime, .inl (cI, 9592, .inl a0_prime)), (q_a0_partPrime, .inl (cJ, 16, .inr (.inl o_13))), (q_a0_partPower, .inl (cI, 16, .inl o_14))] := hD
              refine lv_aload_n hx hb dX9_span_94 rfl (lv_at hl 1 rfl) ?_
              refine va_get (D := (dC, dI)) (ci := 8) (v := .ref q_a0_isSquared) (C := RX9) (T := TX9) (N := 19) hx hb hts hin_X9 hown hK hP 3 rfl rfl 8 (by decide) hw_10 (fun _ h9 => h9) rfl dX9_span_95 ?_
              refine lv_iload hx hb dX9_span_98 (lv_at hl 0 rfl) ?_
              refine lv_aload_n hx hb dX9_span_100 rfl (lv_at hl 1 rfl) ?_
              refine va_get (D := (dC, dI)) (ci := 8) (v := .int o_12) (C := RX9) (T := TX9) (N := 19) hx hb hts hin_X9 hown hK hP 3 rfl rfl 18 (by decide) hw_11 (fun _ h9 => h9) rfl dX9_span_101 ?_
              obtain ⟨hin_17, h⟩ := h
              refine va_zast hx hb hK hP hD hS 2 2 rfl rfl hin_17 dX9_span_104 (fun H locs hP hD hS => ?_)
              have hP : va_P (dC, dI) vwCl [(q_a0_least, .inl (cJ, 5000, .inr (.inl (vp_updL a0_least_56_5 l4_56_5.toNatClampNeg o_10)))), (q_a0_greatest, .inl (cJ, 5000, .inr (.inl (vp_updL a0_greatest_56_5 l4_56_5.toNatClampNeg o_11)))), (q_a0_isSquared, .inl (cZ, 5000, .inl (upd a0_isSquared_56_5 l4_56_5.toNatClampNeg (vp_nar .boolean o_12)))), (h_a0, .inr (8, [.int a0_primes, .ref q_a0_prime, w_a0_isNone, .int (1 : Int32), .long p1, .int p2, .ref q_a0_least, .ref q_a0_greatest, .ref q_a0_isSquared, .int a0_hasPart, .long a0_parted, .int o_9, .ref q_a0_partPrime, .ref q_a0_partPower, .int a0_rows, w_a0_row, .long o_10, .long o_11, .int o_12])), (q_a0_prime, .inl (cI, 9592, .inl a0_prime)), (q_a0_partPrime, .inl (cJ, 16, .inr (.inl o_13))), (q_a0_partPower, .inl (cI, 16, .inl o_14))] H := hP
              have hD : va_D A [(q_a0_least, .inl (cJ, 5000, .inr (.inl (vp_updL a0_least_56_5 l4_56_5.toNatClampNeg o_10)))), (q_a0_greatest, .inl (cJ, 5000, .inr (.inl (vp_updL a0_greatest_56_5 l4_56_5.toNatClampNeg o_11)))), (q_a0_isSquared, .inl (cZ, 5000, .inl (upd a0_isSquared_56_5 l4_56_5.toNatClampNeg (vp_nar .boolean o_12)))), (h_a0, .inr (8, [.int a0_primes, .ref q_a0_prime, w_a0_isNone, .int (1 : Int32), .long p1, .int p2, .ref q_a0_least, .ref q_a0_greatest, .ref q_a0_isSquared, .int a0_hasPart, .long a0_parted, .int o_9, .ref q_a0_partPrime, .ref q_a0_partPower, .int a0_rows, w_a0_row, .long o_10, .long o_11, .int o_12])), (q_a0_prime, .inl (cI, 9592, .inl a0_prime)), (q_a0_partPrime, .inl (cJ, 16, .inr (.inl o_13))), (q_a0_partPower, .inl (cI, 16, .inl o_14))] := hD
              obtain ⟨x4_18, e_x4_18⟩ : ∃ y : Int32, y = l4_56_5 + (1 : Int32) := ⟨_, rfl⟩
              replace h := h x4_18 e_x4_18
              refine lv_iinc (v := x4_18) (lv' := [(4, .int x4_18), (0, .ref h_a0), (1, .long p1), (3, .int p2)]) hx hb dX9_span_105 hl (k := 0) rfl (by rw [e_x4_18]; rfl) (by decide) rfl (fun ls hl => ?_)
              refine lv_goto (tgt := 56) hx hb dX9_span_108 (by decide) ?_
              exact ih_56_5 x4_18 o_9 o_10 o_11 o_12 (vp_updL a0_least_56_5 l4_56_5.toNatClampNeg o_10) (vp_updL a0_greatest_56_5 l4_56_5.toNatClampNeg o_11) (upd a0_isSquared_56_5 l4_56_5.toNatClampNeg (vp_nar .boolean o_12)) o_13 o_14 (Nat.lt_of_lt_of_le h.2 (Nat.le_of_lt_succ hm_56_5)) h.1 _ _ _ (lv_sub hl [0, 1, 2, 3] rfl) (hP.sub [3, 4, 0, 1, 2, 5, 6] rfl) (hD.sub [3, 4, 0, 1, 2, 5, 6] (by decide) rfl) hS
        exact key_56_5 _ (0 : Int32) a0_partMany a0_foundLeast a0_foundGreatest a0_foundSquare a0_least a0_greatest a0_isSquared a0_partPrime a0_partPower (Nat.lt_succ_self _) h0_56_5 _ _ _ (lv_sub hl [0, 1, 2, 3] rfl) (hP.sub [0, 1, 2, 3, 4, 5, 6] rfl) (hD.sub [0, 1, 2, 3, 4, 5, 6] (by decide) rfl) hS
      · replace c_5 := lc_nle c_5
        replace h := h.2 c_5
        refine lv_iconst (v := (-1 : Int32)) hx hb dX9_span_36 (by decide) ?_
        have hP9 := hP.sub (ws' := [(h_a0, .inr (8, [.int a0_primes, .ref q_a0_prime, w_a0_isNone, .int a0_hasSpan, .long a0_spanFrom, .int a0_spanMany, .ref q_a0_least, .ref q_a0_greatest, .ref q_a0_isSquared, .int a0_hasPart, .long a0_parted, .int a0_partMany, .ref q_a0_partPrime, .ref q_a0_partPower, .int a0_rows, w_a0_row, .long a0_foundLeast, .long a0_foundGreatest, .int a0_foundSquare])), (q_a0_prime, .inl (cI, 9592, .inl a0_prime)), (q_a0_least, .inl (cJ, 5000, .inr (.inl a0_least))), (q_a0_greatest, .inl (cJ, 5000, .inr (.inl a0_greatest))), (q_a0_isSquared, .inl (cZ, 5000, .inl a0_isSquared)), (q_a0_partPrime, .inl (cJ, 16, .inr (.inl a0_partPrime))), (q_a0_partPower, .inl (cI, 16, .inl a0_partPower))]) [0, 1, 2, 3, 4, 5, 6] rfl
        have hD9 := hD.sub (ws' := [(h_a0, .inr (8, [.int a0_primes, .ref q_a0_prime, w_a0_isNone, .int a0_hasSpan, .long a0_spanFrom, .int a0_spanMany, .ref q_a0_least, .ref q_a0_greatest, .ref q_a0_isSquared, .int a0_hasPart, .long a0_parted, .int a0_partMany, .ref q_a0_partPrime, .ref q_a0_partPower, .int a0_rows, w_a0_row, .long a0_foundLeast, .long a0_foundGreatest, .int a0_foundSquare])), (q_a0_prime, .inl (cI, 9592, .inl a0_prime)), (q_a0_least, .inl (cJ, 5000, .inr (.inl a0_least))), (q_a0_greatest, .inl (cJ, 5000, .inr (.inl a0_greatest))), (q_a0_isSquared, .inl (cZ, 5000, .inl a0_isSquared)), (q_a0_partPrime, .inl (cJ, 16, .inr (.inl a0_partPrime))), (q_a0_partPower, .inl (cI, 16, .inl a0_partPower))]) [0, 1, 2, 3, 4, 5, 6] (by decide) rfl
        exact W.iret (v := (-1 : Int32)) hx hb hr (fun t ht hW => ⟨⟨_, (a0_hasSpan, a0_spanFrom, a0_spanMany, a0_partMany, a0_foundLeast, a0_foundGreatest, a0_foundSquare, a0_least, a0_greatest, a0_isSquared, a0_partPrime, a0_partPower), rfl, h, by rw [ht]; exact hP9, hD9⟩, hS.F ht⟩) hS.2.2 dX9_span_37
def wp_X9_smooth (a0_hasSpan : Int32) (a0_spanFrom : Int64) (a0_spanMany : Int32) (a0_least : Nat → Int64) (a0_greatest : Nat → Int64) (p1 : Int64) (p2 : Int32) (Q : Int32 → Prop) : Prop :=
  ((a0_hasSpan = (0 : Int32) → Q (-1 : Int32)) ∧ (¬ a0_hasSpan = (0 : Int32) → wp_X9_in p1 (1 : Int64) (10000000000 : Int64) (fun r_2 => ((r_2 = (0 : Int32) → Q (-1 : Int32)) ∧ (¬ r_2 = (0 : Int32) → (∃ (I_26_3 : Int32 → Int32 → Prop) (m_26_3 : Int32 → Int32 → Nat), I_26_3 (0 : Int32) (0 : Int32) ∧ ∀ (l5_26_3 : Int32) (l4_26_3 : Int32), I_26_3 l5_26_3 l4_26_3 → ((a0_spanMany ≤ l5_26_3 → Q l4_26_3) ∧ (¬ a0_spanMany ≤ l5_26_3 → (((a0_spanFrom + l5_26_3.toInt64) = (1 : Int64) → (((1 : Int32) = (0 : Int32) → ((p2 = (0 : Int32) → (vp_in l5_26_3 5000 ∧ ((p1 < (a0_greatest l5_26_3.toNatClampNeg) → (∀ x4_29 : Int32, x4_29 = (l4_26_3 + (0 : Int32)) → (∀ x5_30 : Int32, x5_30 = l5_26_3 + (1 : Int32) → (I_26_3 x5_30 x4_29 ∧ m_26_3 x5_30 x4_29 < m_26_3 l5_26_3 l4_26_3)))) ∧ (¬ p1 < (a0_greatest l5_26_3.toNatClampNeg) → (∀ x4_31 : Int32, x4_31 = (l4_26_3 + (1 : Int32)) → (∀ x5_32 : Int32, x5_32 = l5_26_3 + (1 : Int32) → (I_26_3 x5_32 x4_31 ∧ m_26_3 x5_32 x4_31 < m_26_3 l5_26_3 l4_26_3))))))) ∧ (¬ p2 = (0 : Int32) → (vp_in l5_26_3 5000 ∧ (((a0_least l5_26_3.toNatClampNeg) ≤ p1 → (∀ x4_35 : Int32, x4_35 = (l4_26_3 + (0 : Int32)) → (∀ x5_36 : Int32, x5_36 = l5_26_3 + (1 : Int32) → (I_26_3 x5_36 x4_35 ∧ m_26_3 x5_36 x4_35 < m_26_3 l5_26_3 l4_26_3)))) ∧ (¬ (a0_least l5_26_3.toNatClampNeg) ≤ p1 → (∀ x4_37 : Int32, x4_37 = (l4_26_3 + (1 : Int32)) → (∀ x5_38 : Int32, x5_38 = l5_26_3 + (1 : Int32) → (I_26_3 x5_38 x4_37 ∧ m_26_3 x5_38 x4_37 < m_26_3 l5_26_3 l4_26_3))))))))) ∧ (¬ (1 : Int32) = (0 : Int32) → (∀ x4_24 : Int32, x4_24 = (l4_26_3 + (1 : Int32)) → (∀ x5_25 : Int32, x5_25 = l5_26_3 + (1 : Int32) → (I_26_3 x5_25 x4_24 ∧ m_26_3 x5_25 x4_24 < m_26_3 l5_26_3 l4_26_3)))))) ∧ (¬ (a0_spanFrom + l5_26_3.toInt64) = (1 : Int64) → (((0 : Int32) = (0 : Int32) → ((p2 = (0 : Int32) → (vp_in l5_26_3 5000 ∧ ((p1 < (a0_greatest l5_26_3.toNatClampNeg) → (∀ x4_13 : Int32, x4_13 = (l4_26_3 + (0 : Int32)) → (∀ x5_14 : Int32, x5_14 = l5_26_3 + (1 : Int32) → (I_26_3 x5_14 x4_13 ∧ m_26_3 x5_14 x4_13 < m_26_3 l5_26_3 l4_26_3)))) ∧ (¬ p1 < (a0_greatest l5_26_3.toNatClampNeg) → (∀ x4_15 : Int32, x4_15 = (l4_26_3 + (1 : Int32)) → (∀ x5_16 : Int32, x5_16 = l5_26_3 + (1 : Int32) → (I_26_3 x5_16 x4_15 ∧ m_26_3 x5_16 x4_15 < m_26_3 l5_26_3 l4_26_3))))))) ∧ (¬ p2 = (0 : Int32) → (vp_in l5_26_3 5000 ∧ (((a0_least l5_26_3.toNatClampNeg) ≤ p1 → (∀ x4_19 : Int32, x4_19 = (l4_26_3 + (0 : Int32)) → (∀ x5_20 : Int32, x5_20 = l5_26_3 + (1 : Int32) → (I_26_3 x5_20 x4_19 ∧ m_26_3 x5_20 x4_19 < m_26_3 l5_26_3 l4_26_3)))) ∧ (¬ (a0_least l5_26_3.toNatClampNeg) ≤ p1 → (∀ x4_21 : Int32, x4_21 = (l4_26_3 + (1 : Int32)) → (∀ x5_22 : Int32, x5_22 = l5_26_3 + (1 : Int32) → (I_26_3 x5_22 x4_21 ∧ m_26_3 x5_22 x4_21 < m_26_3 l5_26_3 l4_26_3))))))))) ∧ (¬ (0 : Int32) = (0 : Int32) → (∀ x4_8 : Int32, x4_8 = (l4_26_3 + (1 : Int32)) → (∀ x5_9 : Int32, x5_9 = l5_26_3 + (1 : Int32) → (I_26_3 x5_9 x4_8 ∧ m_26_3 x5_9 x4_8 < m_26_3 l5_26_3 l4_26_3)))))))))))))))
abbrev rm_X9_smooth : Room := { frames := 1, cells := 0, slots := 0, locals := 25 }
abbrev qc_X9_smooth (dC : Nat → ClassId) (dI : Nat → Nat → Nat) (cI cJ cZ : ClassId) (h_a0 : Nat) (a0_primes : Int32) (w_a0_prime : Value) (w_a0_isNone : Value) (a0_hasSpan : Int32) (a0_spanFrom : Int64) (a0_spanMany : Int32) (a0_least : Nat → Int64) (q_a0_least : Nat) (a0_greatest : Nat → Int64) (q_a0_greatest : Nat) (w_a0_isSquared : Value) (a0_hasPart : Int32) (a0_parted : Int64) (a0_partMany : Int32) (w_a0_partPrime : Value) (w_a0_partPower : Value) (a0_rows : Int32) (w_a0_row : Value) (a0_foundLeast : Int64) (a0_foundGreatest : Int64) (a0_foundSquare : Int32) (Q : Int32 → Prop) (A : Nat → Prop) : Array Value → State → Outcome → State → Prop := va_Qi (fun (r : Int32) (_ : Unit) => Q r) (post_ dC dI A (fun (u : Unit) => [(h_a0, .inr (8, [.int a0_primes, w_a0_prime, w_a0_isNone, .int a0_hasSpan, .long a0_spanFrom, .int a0_spanMany, .ref q_a0_least, .ref q_a0_greatest, w_a0_isSquared, .int a0_hasPart, .long a0_parted, .int a0_partMany, w_a0_partPrime, w_a0_partPower, .int a0_rows, w_a0_row, .long a0_foundLeast, .long a0_foundGreatest, .int a0_foundSquare])), (q_a0_least, .inl (cJ, 5000, .inr (.inl a0_least))), (q_a0_greatest, .inl (cJ, 5000, .inr (.inl a0_greatest)))])) A
set_option maxHeartbeats 4000000 in
set_option maxRecDepth 100000 in
theorem c_X9_smooth (l : Launch) (dC : Nat → ClassId) (dI : Nat → Nat → Nat) (cI cJ cZ : ClassId) (sz : Nat) (h_a0 : Nat) (a0_primes : Int32) (w_a0_prime : Value) (w_a0_isNone : Value) (a0_hasSpan : Int32) (a0_spanFrom : Int64) (a0_spanMany : Int32) (a0_least : Nat → Int64) (q_a0_least : Nat) (a0_greatest : Nat → Int64) (q_a0_greatest : Nat) (w_a0_isSquared : Value) (a0_hasPart : Int32) (a0_parted : Int64) (a0_partMany : Int32) (w_a0_partPrime : Value) (w_a0_partPower : Value) (a0_rows : Int32) (w_a0_row : Value) (a0_foundLeast : Int64) (a0_foundGreatest : Int64) (a0_foundSquare : Int32) (p1 : Int64) (p2 : Int32) (Q : Int32 → Prop) (hQ : wp_X9_smooth a0_hasSpan a0_spanFrom a0_spanMany a0_least a0_greatest p1 p2 Q) : Met l yX9_smooth wsX9_smooth rm_X9_smooth (pre_ dC dI cI cJ cZ [.ref h_a0, .long p1, .int p2] [(h_a0, .inr (8, [.int a0_primes, w_a0_prime, w_a0_isNone, .int a0_hasSpan, .long a0_spanFrom, .int a0_spanMany, .ref q_a0_least, .ref q_a0_greatest, w_a0_isSquared, .int a0_hasPart, .long a0_parted, .int a0_partMany, w_a0_partPrime, w_a0_partPower, .int a0_rows, w_a0_row, .long a0_foundLeast, .long a0_foundGreatest, .int a0_foundSquare])), (q_a0_least, .inl (cJ, 5000, .inr (.inl a0_least))), (q_a0_greatest, .inl (cJ, 5000, .inr (.inl a0_greatest)))] sz) (qc_X9_smooth dC dI cI cJ cZ h_a0 a0_primes w_a0_prime w_a0_isNone a0_hasSpan a0_spanFrom a0_spanMany a0_least q_a0_least a0_greatest q_a0_greatest w_a0_isSquared a0_hasPart a0_parted a0_partMany w_a0_partPrime w_a0_partPower a0_rows w_a0_row a0_foundLeast a0_foundGreatest a0_foundSquare Q (va_A [(h_a0, .inr (8, [.int a0_primes, w_a0_prime, w_a0_isNone, .int a0_hasSpan, .long a0_spanFrom, .int a0_spanMany, .ref q_a0_least, .ref q_a0_greatest, w_a0_isSquared, .int a0_hasPart, .long a0_parted, .int a0_partMany, w_a0_partPrime, w_a0_partPower, .int a0_rows, w_a0_row, .long a0_foundLeast, .long a0_foundGreatest, .int a0_foundSquare])), (q_a0_least, .inl (cJ, 5000, .inr (.inl a0_least))), (q_a0_greatest, .inl (cJ, 5000, .inr (.inl a0_greatest)))] sz)) 0 0 (va_A [(h_a0, .inr (8, [.int a0_primes, w_a0_prime, w_a0_isNone, .int a0_hasSpan, .long a0_spanFrom, .int a0_spanMany, .ref q_a0_least, .ref q_a0_greatest, w_a0_isSquared, .int a0_hasPart, .long a0_parted, .int a0_partMany, w_a0_partPrime, w_a0_partPower, .int a0_rows, w_a0_row, .long a0_foundLeast, .long a0_foundGreatest, .int a0_foundSquare])), (q_a0_least, .inl (cJ, 5000, .inr (.inl a0_least))), (q_a0_greatest, .inl (cJ, 5000, .inr (.inl a0_greatest)))] sz) := by
  refine Met.ofW (cc := cX9_smooth) (maxL := 7) (ret := (some .int)) (by decide) rfl ?_
  intro p e s m args below meth c s₁ B hml hv
  obtain ⟨rfl, hsz, hP, hK, hN, hD0⟩ := hv
  have hx := B.exec
  have hb := B.bytes
  have hr := B.returns
  have hts := atoms_spec (ws := wsX9_smooth) B.pre
  have hown : s.vm.findClass RX9 = some m.cls := findClass_of_methodNamed B.named
  subst hsz
  have hD := hD0.self (sz := s.heap.size)
  generalize hAe : va_A [(h_a0, .inr (8, [.int a0_primes, w_a0_prime, w_a0_isNone, .int a0_hasSpan, .long a0_spanFrom, .int a0_spanMany, .ref q_a0_least, .ref q_a0_greatest, w_a0_isSquared, .int a0_hasPart, .long a0_parted, .int a0_partMany, w_a0_partPrime, w_a0_partPower, .int a0_rows, w_a0_row, .long a0_foundLeast, .long a0_foundGreatest, .int a0_foundSquare])), (q_a0_least, .inl (cJ, 5000, .inr (.inl a0_least))), (q_a0_greatest, .inl (cJ, 5000, .inr (.inl a0_greatest)))] s.heap.size = A at hD ⊢
  have hA : ∀ q : Nat, s.heap.size ≤ q → A q := fun q h => by rw [← hAe]; exact Or.inr h
  have hS : va_S A s.heap s.heap [] := va_S.rf
  have hl := lv_entry ([.ref h_a0, .long p1, .int p2]) (n := 7) (Nat.le_of_ble_eq_true rfl)
  rw [lg_entry_eq]
  generalize (lg_sl ([.ref h_a0, .long p1, .int p2]) ++ List.replicate (7 - (lg_sl ([.ref h_a0, .long p1, .int p2])).length) Slot.unset).toArray = ls at hl ⊢
  have hl : lv_has ls 7 [(0, .ref h_a0), (1, .long p1), (3, .int p2)] := hl
  have h := hQ
  unfold wp_X9_smooth at h
  have hw_0 := hts (.fieldLink RX9 67 "NumberSievesModel" "hasSpan" "Z") (by decide +kernel)
  have hin_X9 : ∀ w ∈ wsX90, w ∈ wsX9_smooth := by decide +kernel
  have hw_2 := hts (.constantLong RX9 65 (10000000000)) (by decide +kernel)
  have hw_3 := hts (.fieldLink RX9 73 "NumberSievesModel" "spanMany" "I") (by decide +kernel)
  have hw_4 := hts (.fieldLink RX9 70 "NumberSievesModel" "spanFrom" "J") (by decide +kernel)
  have hw_5 := hts (.fieldLink RX9 22 "NumberSievesModel" "greatest" "[J") (by decide +kernel)
  have hw_6 := hts (.fieldLink RX9 18 "NumberSievesModel" "least" "[J") (by decide +kernel)
  refine lv_aload_n hx hb dX9_smooth_0 rfl (lv_at hl 0 rfl) ?_
  refine va_get (D := (dC, dI)) (ci := 8) (v := .int a0_hasSpan) (C := RX9) (T := TX9) (N := 19) hx hb hts hin_X9 hown hK hP 0 rfl rfl 3 (by decide) hw_0 (fun _ h9 => h9) rfl dX9_smooth_1 ?_
  refine lv_if_eq (tgt := 18) hx hb dX9_smooth_4 (by decide) (fun c_1 => ?_) (fun c_1 => ?_)
  · replace h := h.1 c_1
    refine lv_iconst (v := (-1 : Int32)) hx hb dX9_smooth_18 (by decide) ?_
    have hP9 := hP.sub (ws' := [(h_a0, .inr (8, [.int a0_primes, w_a0_prime, w_a0_isNone, .int a0_hasSpan, .long a0_spanFrom, .int a0_spanMany, .ref q_a0_least, .ref q_a0_greatest, w_a0_isSquared, .int a0_hasPart, .long a0_parted, .int a0_partMany, w_a0_partPrime, w_a0_partPower, .int a0_rows, w_a0_row, .long a0_foundLeast, .long a0_foundGreatest, .int a0_foundSquare])), (q_a0_least, .inl (cJ, 5000, .inr (.inl a0_least))), (q_a0_greatest, .inl (cJ, 5000, .inr (.inl a0_greatest)))]) [0, 1, 2] rfl
    have hD9 := hD.sub (ws' := [(h_a0, .inr (8, [.int a0_primes, w_a0_prime, w_a0_isNone, .int a0_hasSpan, .long a0_spanFrom, .int a0_spanMany, .ref q_a0_least, .ref q_a0_greatest, w_a0_isSquared, .int a0_hasPart, .long a0_parted, .int a0_partMany, w_a0_partPrime, w_a0_partPower, .int a0_rows, w_a0_row, .long a0_foundLeast, .long a0_foundGreatest, .int a0_foundSquare])), (q_a0_least, .inl (cJ, 5000, .inr (.inl a0_least))), (q_a0_greatest, .inl (cJ, 5000, .inr (.inl a0_greatest)))]) [0, 1, 2] (by decide) rfl
    exact W.iret (v := (-1 : Int32)) hx hb hr (fun t ht hW => ⟨⟨_, (), rfl, h, by rw [ht]; exact hP9, hD9⟩, hS.F ht⟩) hS.2.2 dX9_smooth_19
  · replace h := h.2 c_1
    refine lv_lload_n hx hb dX9_smooth_7 rfl (lv_at hl 1 rfl) ?_
    refine lv_lconst (v := (1 : Int64)) hx hb dX9_smooth_8 (by decide) ?_
    refine lv_ldc2 hx hb hown hw_2 dX9_smooth_9 ?_
    have hPc := hP.sub (ws' := []) [] rfl
    have hDc := hD.sub (ws' := []) [] (by decide) rfl
    have hFc := va_free (wc := []) hD hS hA [] rfl
    refine va_calli (va_runS (As := [.long p1, .long (1 : Int64), .long (10000000000 : Int64)]) (rest := []) ⟨hx, hb, hml, hown, hts⟩ (c_X9_in l dC dI cI cJ cZ _ p1 (1 : Int64) (10000000000 : Int64) _ h) (va_cwS 3 hts gX9_smooth_X9_in rfl rfl rfl (by decide +kernel) ⟨Nat.le_of_ble_eq_true rfl, Nat.le_of_ble_eq_true rfl⟩) ⟨pre_fb, pre_of hPc hDc hK hN⟩ rfl rfl hl.1 rfl (lv_room (Nat.le_of_ble_eq_true rfl)) dX9_smooth_12 ⟨by first | exact Nat.le_of_ble_eq_true rfl | exact Nat.le_refl _, by first | exact Nat.le_of_ble_eq_true rfl | exact Nat.le_refl _⟩) hS (fun q _ h => hFc q h) hFc (fun r_2 u t H1 locs ht hvm h hB hz1 hk1 hS => ?_)
    obtain ⟨hP1, hD1⟩ := hB
    rw [ht] at hP1
    try dsimp only at h
    obtain ⟨hP, hD⟩ := va_join (wr := [(h_a0, .inr (8, [.int a0_primes, w_a0_prime, w_a0_isNone, .int a0_hasSpan, .long a0_spanFrom, .int a0_spanMany, .ref q_a0_least, .ref q_a0_greatest, w_a0_isSquared, .int a0_hasPart, .long a0_parted, .int a0_partMany, w_a0_partPrime, w_a0_partPower, .int a0_rows, w_a0_row, .long a0_foundLeast, .long a0_foundGreatest, .int a0_foundSquare])), (q_a0_least, .inl (cJ, 5000, .inr (.inl a0_least))), (q_a0_greatest, .inl (cJ, 5000, .inr (.inl a0_greatest)))]) (w1 := []) hP hD [] [0, 1, 2] rfl rfl (by decide) (by decide) hk1 hFc hP1 hD1
    generalize H1 = H at hP hS ⊢
    have hP : va_P (dC, dI) vwCl [(h_a0, .inr (8, [.int a0_primes, w_a0_prime, w_a0_isNone, .int a0_hasSpan, .long a0_spanFrom, .int a0_spanMany, .ref q_a0_least, .ref q_a0_greatest, w_a0_isSquared, .int a0_hasPart, .long a0_parted, .int a0_partMany, w_a0_partPrime, w_a0_partPower, .int a0_rows, w_a0_row, .long a0_foundLeast, .long a0_foundGreatest, .int a0_foundSquare])), (q_a0_least, .inl (cJ, 5000, .inr (.inl a0_least))), (q_a0_greatest, .inl (cJ, 5000, .inr (.inl a0_greatest)))] H := hP
    have hD : va_D A [(h_a0, .inr (8, [.int a0_primes, w_a0_prime, w_a0_isNone, .int a0_hasSpan, .long a0_spanFrom, .int a0_spanMany, .ref q_a0_least, .ref q_a0_greatest, w_a0_isSquared, .int a0_hasPart, .long a0_parted, .int a0_partMany, w_a0_partPrime, w_a0_partPower, .int a0_rows, w_a0_row, .long a0_foundLeast, .long a0_foundGreatest, .int a0_foundSquare])), (q_a0_least, .inl (cJ, 5000, .inr (.inl a0_least))), (q_a0_greatest, .inl (cJ, 5000, .inr (.inl a0_greatest)))] := hD
    refine lv_if_ne (tgt := 20) hx hb dX9_smooth_15 (by decide) (fun c_3 => ?_) (fun c_3 => ?_)
    · replace h := h.2 c_3
      refine lv_iconst (v := (0 : Int32)) hx hb dX9_smooth_20 (by decide) ?_
      refine lv_istore (lv' := [(4, .int (0 : Int32)), (0, .ref h_a0), (1, .long p1), (3, .int p2)]) hx hb dX9_smooth_21 hl (by decide) rfl (fun ls hl => ?_)
      refine lv_iconst (v := (0 : Int32)) hx hb dX9_smooth_23 (by decide) ?_
      refine lv_istore (lv' := [(5, .int (0 : Int32)), (4, .int (0 : Int32)), (0, .ref h_a0), (1, .long p1), (3, .int p2)]) hx hb dX9_smooth_24 hl (by decide) rfl (fun ls hl => ?_)
      obtain ⟨I_26_3, m_26_3, h0_26_3, hs_26_3⟩ := h
      have key_26_3 : ∀ (n : Nat) (l5_26_3 : Int32) (l4_26_3 : Int32), m_26_3 l5_26_3 l4_26_3 < n → I_26_3 l5_26_3 l4_26_3 → ∀ (ls : Array Slot) (H : Heap) (locs : List Loc), lv_has ls 7 [(5, .int l5_26_3), (4, .int l4_26_3), (0, .ref h_a0), (1, .long p1), (3, .int p2)] → va_P (dC, dI) vwCl [(h_a0, .inr (8, [.int a0_primes, w_a0_prime, w_a0_isNone, .int a0_hasSpan, .long a0_spanFrom, .int a0_spanMany, .ref q_a0_least, .ref q_a0_greatest, w_a0_isSquared, .int a0_hasPart, .long a0_parted, .int a0_partMany, w_a0_partPrime, w_a0_partPower, .int a0_rows, w_a0_row, .long a0_foundLeast, .long a0_foundGreatest, .int a0_foundSquare])), (q_a0_least, .inl (cJ, 5000, .inr (.inl a0_least))), (q_a0_greatest, .inl (cJ, 5000, .inr (.inl a0_greatest)))] H → va_D A [(h_a0, .inr (8, [.int a0_primes, w_a0_prime, w_a0_isNone, .int a0_hasSpan, .long a0_spanFrom, .int a0_spanMany, .ref q_a0_least, .ref q_a0_greatest, w_a0_isSquared, .int a0_hasPart, .long a0_parted, .int a0_partMany, w_a0_partPrime, w_a0_partPower, .int a0_rows, w_a0_row, .long a0_foundLeast, .long a0_foundGreatest, .int a0_foundSquare])), (q_a0_least, .inl (cJ, 5000, .inr (.inl a0_least))), (q_a0_greatest, .inl (cJ, 5000, .inr (.inl a0_greatest)))] → va_S A s.heap H locs → W p l e (headSpec wsX9_smooth rm_X9_smooth).room s m ([.ref h_a0, .long p1, .int p2] : List Value).toArray below meth c H locs 0 0 (MQ below (qc_X9_smooth dC dI cI cJ cZ h_a0 a0_primes w_a0_prime w_a0_isNone a0_hasSpan a0_spanFrom a0_spanMany a0_least q_a0_least a0_greatest q_a0_greatest w_a0_isSquared a0_hasPart a0_parted a0_partMany w_a0_partPrime w_a0_partPower a0_rows w_a0_row a0_foundLeast a0_foundGreatest a0_foundSquare Q A) ([.ref h_a0, .long p1, .int p2] : List Value).toArray s 0 0 A) (F0 m 26 ls []) := by
        intro n
        induction n with
        | zero =>
          intro l5_26_3 l4_26_3 hm
          exact absurd hm (Nat.not_lt_zero _)
        | succ n ih_26_3 =>
          intro l5_26_3 l4_26_3 hm_26_3 hI ls H locs hl hP hD hS
          have h := hs_26_3 l5_26_3 l4_26_3 hI
          refine lv_iload hx hb dX9_smooth_26 (lv_at hl 0 rfl) ?_
          refine lv_aload_n hx hb dX9_smooth_28 rfl (lv_at hl 2 rfl) ?_
          refine va_get (D := (dC, dI)) (ci := 8) (v := .int a0_spanMany) (C := RX9) (T := TX9) (N := 19) hx hb hts hin_X9 hown hK hP 0 rfl rfl 5 (by decide) hw_3 (fun _ h9 => h9) rfl dX9_smooth_29 ?_
          refine lv_icmp_ge (tgt := 107) hx hb dX9_smooth_32 (by decide) (fun c_5 => ?_) (fun c_5 => ?_)
          · replace h := h.1 c_5
            refine lv_iload hx hb dX9_smooth_107 (lv_at hl 1 rfl) ?_
            have hP9 := hP.sub (ws' := [(h_a0, .inr (8, [.int a0_primes, w_a0_prime, w_a0_isNone, .int a0_hasSpan, .long a0_spanFrom, .int a0_spanMany, .ref q_a0_least, .ref q_a0_greatest, w_a0_isSquared, .int a0_hasPart, .long a0_parted, .int a0_partMany, w_a0_partPrime, w_a0_partPower, .int a0_rows, w_a0_row, .long a0_foundLeast, .long a0_foundGreatest, .int a0_foundSquare])), (q_a0_least, .inl (cJ, 5000, .inr (.inl a0_least))), (q_a0_greatest, .inl (cJ, 5000, .inr (.inl a0_greatest)))]) [0, 1, 2] rfl
            have hD9 := hD.sub (ws' := [(h_a0, .inr (8, [.int a0_primes, w_a0_prime, w_a0_isNone, .int a0_hasSpan, .long a0_spanFrom, .int a0_spanMany, .ref q_a0_least, .ref q_a0_greatest, w_a0_isSquared, .int a0_hasPart, .long a0_parted, .int a0_partMany, w_a0_partPrime, w_a0_partPower, .int a0_rows, w_a0_row, .long a0_foundLeast, .long a0_foundGreatest, .int a0_foundSquare])), (q_a0_least, .inl (cJ, 5000, .inr (.inl a0_least))), (q_a0_greatest, .inl (cJ, 5000, .inr (.inl a0_greatest)))]) [0, 1, 2] (by decide) rfl
            exact W.iret (v := l4_26_3) hx hb hr (fun t ht hW => ⟨⟨_, (), rfl, h, by rw [ht]; exact hP9, hD9⟩, hS.F ht⟩) hS.2.2 dX9_smooth_109
          · replace h := h.2 c_5
            refine lv_aload_n hx hb dX9_smooth_35 rfl (lv_at hl 2 rfl) ?_
            refine va_get (D := (dC, dI)) (ci := 8) (v := .long a0_spanFrom) (C := RX9) (T := TX9) (N := 19) hx hb hts hin_X9 hown hK hP 0 rfl rfl 4 (by decide) hw_4 (fun _ h9 => h9) rfl dX9_smooth_36 ?_
            refine lv_iload hx hb dX9_smooth_39 (lv_at hl 0 rfl) ?_
            refine lv_i2l hx hb dX9_smooth_41 rfl ?_
            refine lv_ladd hx hb dX9_smooth_42 ?_
            refine lv_lconst (v := (1 : Int64)) hx hb dX9_smooth_43 (by decide) ?_
            refine W.lcmp hx hb dX9_smooth_44 ?_
            refine lv_if_ne (tgt := 52) hx hb dX9_smooth_45 (by decide) (fun c_6 => ?_) (fun c_6 => ?_)
            · replace c_6 := lc_neq c_6
              replace h := h.2 c_6
              refine lv_iconst (v := (0 : Int32)) hx hb dX9_smooth_52 (by decide) ?_
              refine lv_istore (lv' := [(6, .int (0 : Int32)), (5, .int l5_26_3), (4, .int l4_26_3), (0, .ref h_a0), (1, .long p1), (3, .int p2)]) hx hb dX9_smooth_53 hl (by decide) rfl (fun ls hl => ?_)
              refine lv_iload hx hb dX9_smooth_55 (lv_at hl 2 rfl) ?_
              refine lv_iload hx hb dX9_smooth_57 (lv_at hl 0 rfl) ?_
              refine lv_if_ne (tgt := 93) hx hb dX9_smooth_59 (by decide) (fun c_7 => ?_) (fun c_7 => ?_)
              · replace h := h.2 c_7
                refine lv_iconst (v := (1 : Int32)) hx hb dX9_smooth_93 (by decide) ?_
                refine lv_goto (tgt := 98) hx hb dX9_smooth_94 (by decide) ?_
                refine lv_iadd hx hb dX9_smooth_98 ?_
                refine lv_topi (fun x4_8 e_x4_8 => ?_)
                replace h := h x4_8 e_x4_8
                refine lv_istore (lv' := [(4, .int x4_8), (6, .int (0 : Int32)), (5, .int l5_26_3), (0, .ref h_a0), (1, .long p1), (3, .int p2)]) hx hb dX9_smooth_99 hl (by decide) rfl (fun ls hl => ?_)
                obtain ⟨x5_9, e_x5_9⟩ : ∃ y : Int32, y = l5_26_3 + (1 : Int32) := ⟨_, rfl⟩
                replace h := h x5_9 e_x5_9
                refine lv_iinc (v := x5_9) (lv' := [(5, .int x5_9), (4, .int x4_8), (6, .int (0 : Int32)), (0, .ref h_a0), (1, .long p1), (3, .int p2)]) hx hb dX9_smooth_101 hl (k := 2) rfl (by rw [e_x5_9]; rfl) (by decide) rfl (fun ls hl => ?_)
                refine lv_goto (tgt := 26) hx hb dX9_smooth_104 (by decide) ?_
                exact ih_26_3 x5_9 x4_8 (Nat.lt_of_lt_of_le h.2 (Nat.le_of_lt_succ hm_26_3)) h.1 _ _ _ (lv_sub hl [0, 1, 3, 4, 5] rfl) (hP.sub [0, 1, 2] rfl) (hD.sub [0, 1, 2] (by decide) rfl) hS
              · replace h := h.1 c_7
                refine lv_iload_n hx hb dX9_smooth_62 rfl (lv_at hl 5 rfl) ?_
                refine lv_if_eq (tgt := 81) hx hb dX9_smooth_63 (by decide) (fun c_10 => ?_) (fun c_10 => ?_)
                · replace h := h.1 c_10
                  refine lv_aload_n hx hb dX9_smooth_81 rfl (lv_at hl 3 rfl) ?_
                  refine va_get (D := (dC, dI)) (ci := 8) (v := .ref q_a0_greatest) (C := RX9) (T := TX9) (N := 19) hx hb hts hin_X9 hown hK hP 0 rfl rfl 7 (by decide) hw_5 (fun _ h9 => h9) rfl dX9_smooth_82 ?_
                  refine lv_iload hx hb dX9_smooth_85 (lv_at hl 1 rfl) ?_
                  obtain ⟨hin_11, h⟩ := h
                  refine va_lald hx hb hK hP 2 1 rfl rfl hin_11 dX9_smooth_87 ?_
                  refine lv_lload_n hx hb dX9_smooth_88 rfl (lv_at hl 4 rfl) ?_
                  refine W.lcmp hx hb dX9_smooth_89 ?_
                  refine lv_if_gt (tgt := 97) hx hb dX9_smooth_90 (by decide) (fun c_12 => ?_) (fun c_12 => ?_)
                  · replace c_12 := (lg_cmp_gt _ _).mp c_12
                    replace h := h.1 c_12
                    refine lv_iconst (v := (0 : Int32)) hx hb dX9_smooth_97 (by decide) ?_
                    refine lv_iadd hx hb dX9_smooth_98 ?_
                    refine lv_topi (fun x4_13 e_x4_13 => ?_)
                    replace h := h x4_13 e_x4_13
                    refine lv_istore (lv' := [(4, .int x4_13), (6, .int (0 : Int32)), (5, .int l5_26_3), (0, .ref h_a0), (1, .long p1), (3, .int p2)]) hx hb dX9_smooth_99 hl (by decide) rfl (fun ls hl => ?_)
                    obtain ⟨x5_14, e_x5_14⟩ : ∃ y : Int32, y = l5_26_3 + (1 : Int32) := ⟨_, rfl⟩
                    replace h := h x5_14 e_x5_14
                    refine lv_iinc (v := x5_14) (lv' := [(5, .int x5_14), (4, .int x4_13), (6, .int (0 : Int32)), (0, .ref h_a0), (1, .long p1), (3, .int p2)]) hx hb dX9_smooth_101 hl (k := 2) rfl (by rw [e_x5_14]; rfl) (by decide) rfl (fun ls hl => ?_)
                    refine lv_goto (tgt := 26) hx hb dX9_smooth_104 (by decide) ?_
                    exact ih_26_3 x5_14 x4_13 (Nat.lt_of_lt_of_le h.2 (Nat.le_of_lt_succ hm_26_3)) h.1 _ _ _ (lv_sub hl [0, 1, 3, 4, 5] rfl) (hP.sub [0, 1, 2] rfl) (hD.sub [0, 1, 2] (by decide) rfl) hS
                  · replace c_12 := lc_ngt c_12
                    replace h := h.2 c_12
                    refine lv_iconst (v := (1 : Int32)) hx hb dX9_smooth_93 (by decide) ?_
                    refine lv_goto (tgt := 98) hx hb dX9_smooth_94 (by decide) ?_
                    refine lv_iadd hx hb dX9_smooth_98 ?_
                    refine lv_topi (fun x4_15 e_x4_15 => ?_)
                    replace h := h x4_15 e_x4_15
                    refine lv_istore (lv' := [(4, .int x4_15), (6, .int (0 : Int32)), (5, .int l5_26_3), (0, .ref h_a0), (1, .long p1), (3, .int p2)]) hx hb dX9_smooth_99 hl (by decide) rfl (fun ls hl => ?_)
                    obtain ⟨x5_16, e_x5_16⟩ : ∃ y : Int32, y = l5_26_3 + (1 : Int32) := ⟨_, rfl⟩
                    replace h := h x5_16 e_x5_16
                    refine lv_iinc (v := x5_16) (lv' := [(5, .int x5_16), (4, .int x4_15), (6, .int (0 : Int32)), (0, .ref h_a0), (1, .long p1), (3, .int p2)]) hx hb dX9_smooth_101 hl (k := 2) rfl (by rw [e_x5_16]; rfl) (by decide) rfl (fun ls hl => ?_)
                    refine lv_goto (tgt := 26) hx hb dX9_smooth_104 (by decide) ?_
                    exact ih_26_3 x5_16 x4_15 (Nat.lt_of_lt_of_le h.2 (Nat.le_of_lt_succ hm_26_3)) h.1 _ _ _ (lv_sub hl [0, 1, 3, 4, 5] rfl) (hP.sub [0, 1, 2] rfl) (hD.sub [0, 1, 2] (by decide) rfl) hS
                · replace h := h.2 c_10
                  refine lv_aload_n hx hb dX9_smooth_66 rfl (lv_at hl 3 rfl) ?_
                  refine va_get (D := (dC, dI)) (ci := 8) (v := .ref q_a0_least) (C := RX9) (T := TX9) (N := 19) hx hb hts hin_X9 hown hK hP 0 rfl rfl 6 (by decide) hw_6 (fun _ h9 => h9) rfl dX9_smooth_67 ?_
                  refine lv_iload hx hb dX9_smooth_70 (lv_at hl 1 rfl) ?_
                  obtain ⟨hin_17, h⟩ := h
                  refine va_lald hx hb hK hP 1 1 rfl rfl hin_17 dX9_smooth_72 ?_
                  refine lv_lload_n hx hb dX9_smooth_73 rfl (lv_at hl 4 rfl) ?_
                  refine W.lcmp hx hb dX9_smooth_74 ?_
                  refine lv_if_le (tgt := 97) hx hb dX9_smooth_75 (by decide) (fun c_18 => ?_) (fun c_18 => ?_)
                  · replace c_18 := (lg_cmp_le _ _).mp c_18
                    replace h := h.1 c_18
                    refine lv_iconst (v := (0 : Int32)) hx hb dX9_smooth_97 (by decide) ?_
                    refine lv_iadd hx hb dX9_smooth_98 ?_
                    refine lv_topi (fun x4_19 e_x4_19 => ?_)
                    replace h := h x4_19 e_x4_19
                    refine lv_istore (lv' := [(4, .int x4_19), (6, .int (0 : Int32)), (5, .int l5_26_3), (0, .ref h_a0), (1, .long p1), (3, .int p2)]) hx hb dX9_smooth_99 hl (by decide) rfl (fun ls hl => ?_)
                    obtain ⟨x5_20, e_x5_20⟩ : ∃ y : Int32, y = l5_26_3 + (1 : Int32) := ⟨_, rfl⟩
                    replace h := h x5_20 e_x5_20
                    refine lv_iinc (v := x5_20) (lv' := [(5, .int x5_20), (4, .int x4_19), (6, .int (0 : Int32)), (0, .ref h_a0), (1, .long p1), (3, .int p2)]) hx hb dX9_smooth_101 hl (k := 2) rfl (by rw [e_x5_20]; rfl) (by decide) rfl (fun ls hl => ?_)
                    refine lv_goto (tgt := 26) hx hb dX9_smooth_104 (by decide) ?_
                    exact ih_26_3 x5_20 x4_19 (Nat.lt_of_lt_of_le h.2 (Nat.le_of_lt_succ hm_26_3)) h.1 _ _ _ (lv_sub hl [0, 1, 3, 4, 5] rfl) (hP.sub [0, 1, 2] rfl) (hD.sub [0, 1, 2] (by decide) rfl) hS
                  · replace c_18 := lc_nle c_18
                    replace h := h.2 c_18
                    refine lv_goto (tgt := 93) hx hb dX9_smooth_78 (by decide) ?_
                    refine lv_iconst (v := (1 : Int32)) hx hb dX9_smooth_93 (by decide) ?_
                    refine lv_goto (tgt := 98) hx hb dX9_smooth_94 (by decide) ?_
                    refine lv_iadd hx hb dX9_smooth_98 ?_
                    refine lv_topi (fun x4_21 e_x4_21 => ?_)
                    replace h := h x4_21 e_x4_21
                    refine lv_istore (lv' := [(4, .int x4_21), (6, .int (0 : Int32)), (5, .int l5_26_3), (0, .ref h_a0), (1, .long p1), (3, .int p2)]) hx hb dX9_smooth_99 hl (by decide) rfl (fun ls hl => ?_)
                    obtain ⟨x5_22, e_x5_22⟩ : ∃ y : Int32, y = l5_26_3 + (1 : Int32) := ⟨_, rfl⟩
                    replace h := h x5_22 e_x5_22
                    refine lv_iinc (v := x5_22) (lv' := [(5, .int x5_22), (4, .int x4_21), (6, .int (0 : Int32)), (0, .ref h_a0), (1, .long p1), (3, .int p2)]) hx hb dX9_smooth_101 hl (k := 2) rfl (by rw [e_x5_22]; rfl) (by decide) rfl (fun ls hl => ?_)
                    refine lv_goto (tgt := 26) hx hb dX9_smooth_104 (by decide) ?_
                    exact ih_26_3 x5_22 x4_21 (Nat.lt_of_lt_of_le h.2 (Nat.le_of_lt_succ hm_26_3)) h.1 _ _ _ (lv_sub hl [0, 1, 3, 4, 5] rfl) (hP.sub [0, 1, 2] rfl) (hD.sub [0, 1, 2] (by decide) rfl) hS
            · replace c_6 := (lg_cmp_eq _ _).mp c_6
              replace h := h.1 c_6
              refine lv_iconst (v := (1 : Int32)) hx hb dX9_smooth_48 (by decide) ?_
              refine lv_goto (tgt := 53) hx hb dX9_smooth_49 (by decide) ?_
              refine lv_istore (lv' := [(6, .int (1 : Int32)), (5, .int l5_26_3), (4, .int l4_26_3), (0, .ref h_a0), (1, .long p1), (3, .int p2)]) hx hb dX9_smooth_53 hl (by decide) rfl (fun ls hl => ?_)
              refine lv_iload hx hb dX9_smooth_55 (lv_at hl 2 rfl) ?_
              refine lv_iload hx hb dX9_smooth_57 (lv_at hl 0 rfl) ?_
              refine lv_if_ne (tgt := 93) hx hb dX9_smooth_59 (by decide) (fun c_23 => ?_) (fun c_23 => ?_)
              · replace h := h.2 c_23
                refine lv_iconst (v := (1 : Int32)) hx hb dX9_smooth_93 (by decide) ?_
                refine lv_goto (tgt := 98) hx hb dX9_smooth_94 (by decide) ?_
                refine lv_iadd hx hb dX9_smooth_98 ?_
                refine lv_topi (fun x4_24 e_x4_24 => ?_)
                replace h := h x4_24 e_x4_24
                refine lv_istore (lv' := [(4, .int x4_24), (6, .int (1 : Int32)), (5, .int l5_26_3), (0, .ref h_a0), (1, .long p1), (3, .int p2)]) hx hb dX9_smooth_99 hl (by decide) rfl (fun ls hl => ?_)
                obtain ⟨x5_25, e_x5_25⟩ : ∃ y : Int32, y = l5_26_3 + (1 : Int32) := ⟨_, rfl⟩
                replace h := h x5_25 e_x5_25
                refine lv_iinc (v := x5_25) (lv' := [(5, .int x5_25), (4, .int x4_24), (6, .int (1 : Int32)), (0, .ref h_a0), (1, .long p1), (3, .int p2)]) hx hb dX9_smooth_101 hl (k := 2) rfl (by rw [e_x5_25]; rfl) (by decide) rfl (fun ls hl => ?_)
                refine lv_goto (tgt := 26) hx hb dX9_smooth_104 (by decide) ?_
                exact ih_26_3 x5_25 x4_24 (Nat.lt_of_lt_of_le h.2 (Nat.le_of_lt_succ hm_26_3)) h.1 _ _ _ (lv_sub hl [0, 1, 3, 4, 5] rfl) (hP.sub [0, 1, 2] rfl) (hD.sub [0, 1, 2] (by decide) rfl) hS
              · replace h := h.1 c_23
                refine lv_iload_n hx hb dX9_smooth_62 rfl (lv_at hl 5 rfl) ?_
                refine lv_if_eq (tgt := 81) hx hb dX9_smooth_63 (by decide) (fun c_26 => ?_) (fun c_26 => ?_)
                · replace h := h.1 c_26
                  refine lv_aload_n hx hb dX9_smooth_81 rfl (lv_at hl 3 rfl) ?_
                  refine va_get (D := (dC, dI)) (ci := 8) (v := .ref q_a0_greatest) (C := RX9) (T := TX9) (N := 19) hx hb hts hin_X9 hown hK hP 0 rfl rfl 7 (by decide) hw_5 (fun _ h9 => h9) rfl dX9_smooth_82 ?_
                  refine lv_iload hx hb dX9_smooth_85 (lv_at hl 1 rfl) ?_
                  obtain ⟨hin_27, h⟩ := h
                  refine va_lald hx hb hK hP 2 1 rfl rfl hin_27 dX9_smooth_87 ?_
                  refine lv_lload_n hx hb dX9_smooth_88 rfl (lv_at hl 4 rfl) ?_
                  refine W.lcmp hx hb dX9_smooth_89 ?_
                  refine lv_if_gt (tgt := 97) hx hb dX9_smooth_90 (by decide) (fun c_28 => ?_) (fun c_28 => ?_)
                  · replace c_28 := (lg_cmp_gt _ _).mp c_28
                    replace h := h.1 c_28
                    refine lv_iconst (v := (0 : Int32)) hx hb dX9_smooth_97 (by decide) ?_
                    refine lv_iadd hx hb dX9_smooth_98 ?_
                    refine lv_topi (fun x4_29 e_x4_29 => ?_)
                    replace h := h x4_29 e_x4_29
                    refine lv_istore (lv' := [(4, .int x4_29), (6, .int (1 : Int32)), (5, .int l5_26_3), (0, .ref h_a0), (1, .long p1), (3, .int p2)]) hx hb dX9_smooth_99 hl (by decide) rfl (fun ls hl => ?_)
                    obtain ⟨x5_30, e_x5_30⟩ : ∃ y : Int32, y = l5_26_3 + (1 : Int32) := ⟨_, rfl⟩
                    replace h := h x5_30 e_x5_30
                    refine lv_iinc (v := x5_30) (lv' := [(5, .int x5_30), (4, .int x4_29), (6, .int (1 : Int32)), (0, .ref h_a0), (1, .long p1), (3, .int p2)]) hx hb dX9_smooth_101 hl (k := 2) rfl (by rw [e_x5_30]; rfl) (by decide) rfl (fun ls hl => ?_)
                    refine lv_goto (tgt := 26) hx hb dX9_smooth_104 (by decide) ?_
                    exact ih_26_3 x5_30 x4_29 (Nat.lt_of_lt_of_le h.2 (Nat.le_of_lt_succ hm_26_3)) h.1 _ _ _ (lv_sub hl [0, 1, 3, 4, 5] rfl) (hP.sub [0, 1, 2] rfl) (hD.sub [0, 1, 2] (by decide) rfl) hS
                  · replace c_28 := lc_ngt c_28
                    replace h := h.2 c_28
                    refine lv_iconst (v := (1 : Int32)) hx hb dX9_smooth_93 (by decide) ?_
                    refine lv_goto (tgt := 98) hx hb dX9_smooth_94 (by decide) ?_
                    refine lv_iadd hx hb dX9_smooth_98 ?_
                    refine lv_topi (fun x4_31 e_x4_31 => ?_)
                    replace h := h x4_31 e_x4_31
                    refine lv_istore (lv' := [(4, .int x4_31), (6, .int (1 : Int32)), (5, .int l5_26_3), (0, .ref h_a0), (1, .long p1), (3, .int p2)]) hx hb dX9_smooth_99 hl (by decide) rfl (fun ls hl => ?_)
                    obtain ⟨x5_32, e_x5_32⟩ : ∃ y : Int32, y = l5_26_3 + (1 : Int32) := ⟨_, rfl⟩
                    replace h := h x5_32 e_x5_32
                    refine lv_iinc (v := x5_32) (lv' := [(5, .int x5_32), (4, .int x4_31), (6, .int (1 : Int32)), (0, .ref h_a0), (1, .long p1), (3, .int p2)]) hx hb dX9_smooth_101 hl (k := 2) rfl (by rw [e_x5_32]; rfl) (by decide) rfl (fun ls hl => ?_)
                    refine lv_goto (tgt := 26) hx hb dX9_smooth_104 (by decide) ?_
                    exact ih_26_3 x5_32 x4_31 (Nat.lt_of_lt_of_le h.2 (Nat.le_of_lt_succ hm_26_3)) h.1 _ _ _ (lv_sub hl [0, 1, 3, 4, 5] rfl) (hP.sub [0, 1, 2] rfl) (hD.sub [0, 1, 2] (by decide) rfl) hS
                · replace h := h.2 c_26
                  refine lv_aload_n hx hb dX9_smooth_66 rfl (lv_at hl 3 rfl) ?_
                  refine va_get (D := (dC, dI)) (ci := 8) (v := .ref q_a0_least) (C := RX9) (T := TX9) (N := 19) hx hb hts hin_X9 hown hK hP 0 rfl rfl 6 (by decide) hw_6 (fun _ h9 => h9) rfl dX9_smooth_67 ?_
                  refine lv_iload hx hb dX9_smooth_70 (lv_at hl 1 rfl) ?_
                  obtain ⟨hin_33, h⟩ := h
                  refine va_lald hx hb hK hP 1 1 rfl rfl hin_33 dX9_smooth_72 ?_
                  refine lv_lload_n hx hb dX9_smooth_73 rfl (lv_at hl 4 rfl) ?_
                  refine W.lcmp hx hb dX9_smooth_74 ?_
                  refine lv_if_le (tgt := 97) hx hb dX9_smooth_75 (by decide) (fun c_34 => ?_) (fun c_34 => ?_)
                  · replace c_34 := (lg_cmp_le _ _).mp c_34
                    replace h := h.1 c_34
                    refine lv_iconst (v := (0 : Int32)) hx hb dX9_smooth_97 (by decide) ?_
                    refine lv_iadd hx hb dX9_smooth_98 ?_
                    refine lv_topi (fun x4_35 e_x4_35 => ?_)
                    replace h := h x4_35 e_x4_35
                    refine lv_istore (lv' := [(4, .int x4_35), (6, .int (1 : Int32)), (5, .int l5_26_3), (0, .ref h_a0), (1, .long p1), (3, .int p2)]) hx hb dX9_smooth_99 hl (by decide) rfl (fun ls hl => ?_)
                    obtain ⟨x5_36, e_x5_36⟩ : ∃ y : Int32, y = l5_26_3 + (1 : Int32) := ⟨_, rfl⟩
                    replace h := h x5_36 e_x5_36
                    refine lv_iinc (v := x5_36) (lv' := [(5, .int x5_36), (4, .int x4_35), (6, .int (1 : Int32)), (0, .ref h_a0), (1, .long p1), (3, .int p2)]) hx hb dX9_smooth_101 hl (k := 2) rfl (by rw [e_x5_36]; rfl) (by decide) rfl (fun ls hl => ?_)
                    refine lv_goto (tgt := 26) hx hb dX9_smooth_104 (by decide) ?_
                    exact ih_26_3 x5_36 x4_35 (Nat.lt_of_lt_of_le h.2 (Nat.le_of_lt_succ hm_26_3)) h.1 _ _ _ (lv_sub hl [0, 1, 3, 4, 5] rfl) (hP.sub [0, 1, 2] rfl) (hD.sub [0, 1, 2] (by decide) rfl) hS
                  · replace c_34 := lc_nle c_34
                    replace h := h.2 c_34
                    refine lv_goto (tgt := 93) hx hb dX9_smooth_78 (by decide) ?_
                    refine lv_iconst (v := (1 : Int32)) hx hb dX9_smooth_93 (by decide) ?_
                    refine lv_goto (tgt := 98) hx hb dX9_smooth_94 (by decide) ?_
                    refine lv_iadd hx hb dX9_smooth_98 ?_
                    refine lv_topi (fun x4_37 e_x4_37 => ?_)
                    replace h := h x4_37 e_x4_37
                    refine lv_istore (lv' := [(4, .int x4_37), (6, .int (1 : Int32)), (5, .int l5_26_3), (0, .ref h_a0), (1, .long p1), (3, .int p2)]) hx hb dX9_smooth_99 hl (by decide) rfl (fun ls hl => ?_)
                    obtain ⟨x5_38, e_x5_38⟩ : ∃ y : Int32, y = l5_26_3 + (1 : Int32) := ⟨_, rfl⟩
                    replace h := h x5_38 e_x5_38
                    refine lv_iinc (v := x5_38) (lv' := [(5, .int x5_38), (4, .int x4_37), (6, .int (1 : Int32)), (0, .ref h_a0), (1, .long p1), (3, .int p2)]) hx hb dX9_smooth_101 hl (k := 2) rfl (by rw [e_x5_38]; rfl) (by decide) rfl (fun ls hl => ?_)
                    refine lv_goto (tgt := 26) hx hb dX9_smooth_104 (by decide) ?_
                    exact ih_26_3 x5_38 x4_37 (Nat.lt_of_lt_of_le h.2 (Nat.le_of_lt_succ hm_26_3)) h.1 _ _ _ (lv_sub hl [0, 1, 3, 4, 5] rfl) (hP.sub [0, 1, 2] rfl) (hD.sub [0, 1, 2] (by decide) rfl) hS
      exact key_26_3 _ (0 : Int32) (0 : Int32) (Nat.lt_succ_self _) h0_26_3 _ _ _ (lv_sub hl [0, 1, 2, 3, 4] rfl) (hP.sub [0, 1, 2] rfl) (hD.sub [0, 1, 2] (by decide) rfl) hS
    · replace h := h.1 c_3
      refine lv_iconst (v := (-1 : Int32)) hx hb dX9_smooth_18 (by decide) ?_
      have hP9 := hP.sub (ws' := [(h_a0, .inr (8, [.int a0_primes, w_a0_prime, w_a0_isNone, .int a0_hasSpan, .long a0_spanFrom, .int a0_spanMany, .ref q_a0_least, .ref q_a0_greatest, w_a0_isSquared, .int a0_hasPart, .long a0_parted, .int a0_partMany, w_a0_partPrime, w_a0_partPower, .int a0_rows, w_a0_row, .long a0_foundLeast, .long a0_foundGreatest, .int a0_foundSquare])), (q_a0_least, .inl (cJ, 5000, .inr (.inl a0_least))), (q_a0_greatest, .inl (cJ, 5000, .inr (.inl a0_greatest)))]) [0, 1, 2] rfl
      have hD9 := hD.sub (ws' := [(h_a0, .inr (8, [.int a0_primes, w_a0_prime, w_a0_isNone, .int a0_hasSpan, .long a0_spanFrom, .int a0_spanMany, .ref q_a0_least, .ref q_a0_greatest, w_a0_isSquared, .int a0_hasPart, .long a0_parted, .int a0_partMany, w_a0_partPrime, w_a0_partPower, .int a0_rows, w_a0_row, .long a0_foundLeast, .long a0_foundGreatest, .int a0_foundSquare])), (q_a0_least, .inl (cJ, 5000, .inr (.inl a0_least))), (q_a0_greatest, .inl (cJ, 5000, .inr (.inl a0_greatest)))]) [0, 1, 2] (by decide) rfl
      exact W.iret (v := (-1 : Int32)) hx hb hr (fun t ht hW => ⟨⟨_, (), rfl, h, by rw [ht]; exact hP9, hD9⟩, hS.F ht⟩) hS.2.2 dX9_smooth_19
def wp_X9_prime (a0_primes : Int32) (a0_prime : Nat → Int32) (p1 : Int64) (Q : Int32 → Prop) : Prop :=
  wp_X9_in p1 (1 : Int64) (10000000000 : Int64) (fun r_1 => ((r_1 = (0 : Int32) → Q (-1 : Int32)) ∧ (¬ r_1 = (0 : Int32) → wp_X9_isPrime a0_primes a0_prime p1 (fun r_3 => ((r_3 = (0 : Int32) → Q (0 : Int32)) ∧ (¬ r_3 = (0 : Int32) → Q (1 : Int32)))))))
abbrev rm_X9_prime : Room := { frames := 1, cells := 0, slots := 0, locals := 25 }
abbrev qc_X9_prime (dC : Nat → ClassId) (dI : Nat → Nat → Nat) (cI cJ cZ : ClassId) (h_a0 : Nat) (a0_primes : Int32) (a0_prime : Nat → Int32) (q_a0_prime : Nat) (w_a0_isNone : Value) (a0_hasSpan : Int32) (a0_spanFrom : Int64) (a0_spanMany : Int32) (w_a0_least : Value) (w_a0_greatest : Value) (w_a0_isSquared : Value) (a0_hasPart : Int32) (a0_parted : Int64) (a0_partMany : Int32) (w_a0_partPrime : Value) (w_a0_partPower : Value) (a0_rows : Int32) (w_a0_row : Value) (a0_foundLeast : Int64) (a0_foundGreatest : Int64) (a0_foundSquare : Int32) (Q : Int32 → Prop) (A : Nat → Prop) : Array Value → State → Outcome → State → Prop := va_Qi (fun (r : Int32) (_ : Unit) => Q r) (post_ dC dI A (fun (u : Unit) => [(h_a0, .inr (8, [.int a0_primes, .ref q_a0_prime, w_a0_isNone, .int a0_hasSpan, .long a0_spanFrom, .int a0_spanMany, w_a0_least, w_a0_greatest, w_a0_isSquared, .int a0_hasPart, .long a0_parted, .int a0_partMany, w_a0_partPrime, w_a0_partPower, .int a0_rows, w_a0_row, .long a0_foundLeast, .long a0_foundGreatest, .int a0_foundSquare])), (q_a0_prime, .inl (cI, 9592, .inl a0_prime))])) A
set_option maxHeartbeats 4000000 in
set_option maxRecDepth 100000 in
theorem c_X9_prime (l : Launch) (dC : Nat → ClassId) (dI : Nat → Nat → Nat) (cI cJ cZ : ClassId) (sz : Nat) (h_a0 : Nat) (a0_primes : Int32) (a0_prime : Nat → Int32) (q_a0_prime : Nat) (w_a0_isNone : Value) (a0_hasSpan : Int32) (a0_spanFrom : Int64) (a0_spanMany : Int32) (w_a0_least : Value) (w_a0_greatest : Value) (w_a0_isSquared : Value) (a0_hasPart : Int32) (a0_parted : Int64) (a0_partMany : Int32) (w_a0_partPrime : Value) (w_a0_partPower : Value) (a0_rows : Int32) (w_a0_row : Value) (a0_foundLeast : Int64) (a0_foundGreatest : Int64) (a0_foundSquare : Int32) (p1 : Int64) (Q : Int32 → Prop) (hQ : wp_X9_prime a0_primes a0_prime p1 Q) : Met l yX9_prime wsX9_prime rm_X9_prime (pre_ dC dI cI cJ cZ [.ref h_a0, .long p1] [(h_a0, .inr (8, [.int a0_primes, .ref q_a0_prime, w_a0_isNone, .int a0_hasSpan, .long a0_spanFrom, .int a0_spanMany, w_a0_least, w_a0_greatest, w_a0_isSquared, .int a0_hasPart, .long a0_parted, .int a0_partMany, w_a0_partPrime, w_a0_partPower, .int a0_rows, w_a0_row, .long a0_foundLeast, .long a0_foundGreatest, .int a0_foundSquare])), (q_a0_prime, .inl (cI, 9592, .inl a0_prime))] sz) (qc_X9_prime dC dI cI cJ cZ h_a0 a0_primes a0_prime q_a0_prime w_a0_isNone a0_hasSpan a0_spanFrom a0_spanMany w_a0_least w_a0_greatest w_a0_isSquared a0_hasPart a0_parted a0_partMany w_a0_partPrime w_a0_partPower a0_rows w_a0_row a0_foundLeast a0_foundGreatest a0_foundSquare Q (va_A [(h_a0, .inr (8, [.int a0_primes, .ref q_a0_prime, w_a0_isNone, .int a0_hasSpan, .long a0_spanFrom, .int a0_spanMany, w_a0_least, w_a0_greatest, w_a0_isSquared, .int a0_hasPart, .long a0_parted, .int a0_partMany, w_a0_partPrime, w_a0_partPower, .int a0_rows, w_a0_row, .long a0_foundLeast, .long a0_foundGreatest, .int a0_foundSquare])), (q_a0_prime, .inl (cI, 9592, .inl a0_prime))] sz)) 0 0 (va_A [(h_a0, .inr (8, [.int a0_primes, .ref q_a0_prime, w_a0_isNone, .int a0_hasSpan, .long a0_spanFrom, .int a0_spanMany, w_a0_least, w_a0_greatest, w_a0_isSquared, .int a0_hasPart, .long a0_parted, .int a0_partMany, w_a0_partPrime, w_a0_partPower, .int a0_rows, w_a0_row, .long a0_foundLeast, .long a0_foundGreatest, .int a0_foundSquare])), (q_a0_prime, .inl (cI, 9592, .inl a0_prime))] sz) := by
  refine Met.ofW (cc := cX9_prime) (maxL := 3) (ret := (some .int)) (by decide) rfl ?_
  intro p e s m args below meth c s₁ B hml hv
  obtain ⟨rfl, hsz, hP, hK, hN, hD0⟩ := hv
  have hx := B.exec
  have hb := B.bytes
  have hr := B.returns
  have hts := atoms_spec (ws := wsX9_prime) B.pre
  have hown : s.vm.findClass RX9 = some m.cls := findClass_of_methodNamed B.named
  subst hsz
  have hD := hD0.self (sz := s.heap.size)
  generalize hAe : va_A [(h_a0, .inr (8, [.int a0_primes, .ref q_a0_prime, w_a0_isNone, .int a0_hasSpan, .long a0_spanFrom, .int a0_spanMany, w_a0_least, w_a0_greatest, w_a0_isSquared, .int a0_hasPart, .long a0_parted, .int a0_partMany, w_a0_partPrime, w_a0_partPower, .int a0_rows, w_a0_row, .long a0_foundLeast, .long a0_foundGreatest, .int a0_foundSquare])), (q_a0_prime, .inl (cI, 9592, .inl a0_prime))] s.heap.size = A at hD ⊢
  have hA : ∀ q : Nat, s.heap.size ≤ q → A q := fun q h => by rw [← hAe]; exact Or.inr h
  have hS : va_S A s.heap s.heap [] := va_S.rf
  have hl := lv_entry ([.ref h_a0, .long p1]) (n := 3) (Nat.le_of_ble_eq_true rfl)
  rw [lg_entry_eq]
  generalize (lg_sl ([.ref h_a0, .long p1]) ++ List.replicate (3 - (lg_sl ([.ref h_a0, .long p1])).length) Slot.unset).toArray = ls at hl ⊢
  have hl : lv_has ls 3 [(0, .ref h_a0), (1, .long p1)] := hl
  have h := hQ
  unfold wp_X9_prime at h
  have hw_0 := hts (.constantLong RX9 65 (10000000000)) (by decide +kernel)
  refine lv_lload_n hx hb dX9_prime_0 rfl (lv_at hl 1 rfl) ?_
  refine lv_lconst (v := (1 : Int64)) hx hb dX9_prime_1 (by decide) ?_
  refine lv_ldc2 hx hb hown hw_0 dX9_prime_2 ?_
  have hPc := hP.sub (ws' := []) [] rfl
  have hDc := hD.sub (ws' := []) [] (by decide) rfl
  have hFc := va_free (wc := []) hD hS hA [] rfl
  refine va_calli (va_runS (As := [.long p1, .long (1 : Int64), .long (10000000000 : Int64)]) (rest := []) ⟨hx, hb, hml, hown, hts⟩ (c_X9_in l dC dI cI cJ cZ _ p1 (1 : Int64) (10000000000 : Int64) _ h) (va_cwS 3 hts gX9_prime_X9_in rfl rfl rfl (by decide +kernel) ⟨Nat.le_of_ble_eq_true rfl, Nat.le_of_ble_eq_true rfl⟩) ⟨pre_fb, pre_of hPc hDc hK hN⟩ rfl rfl hl.1 rfl (lv_room (Nat.le_of_ble_eq_true rfl)) dX9_prime_5 ⟨by first | exact Nat.le_of_ble_eq_true rfl | exact Nat.le_refl _, by first | exact Nat.le_of_ble_eq_true rfl | exact Nat.le_refl _⟩) hS (fun q _ h => hFc q h) hFc (fun r_1 u t H1 locs ht hvm h hB hz1 hk1 hS => ?_)
  obtain ⟨hP1, hD1⟩ := hB
  rw [ht] at hP1
  try dsimp only at h
  obtain ⟨hP, hD⟩ := va_join (wr := [(h_a0, .inr (8, [.int a0_primes, .ref q_a0_prime, w_a0_isNone, .int a0_hasSpan, .long a0_spanFrom, .int a0_spanMany, w_a0_least, w_a0_greatest, w_a0_isSquared, .int a0_hasPart, .long a0_parted, .int a0_partMany, w_a0_partPrime, w_a0_partPower, .int a0_rows, w_a0_row, .long a0_foundLeast, .long a0_foundGreatest, .int a0_foundSquare])), (q_a0_prime, .inl (cI, 9592, .inl a0_prime))]) (w1 := []) hP hD [] [0, 1] rfl rfl (by decide) (by decide) hk1 hFc hP1 hD1
  generalize H1 = H at hP hS ⊢
  have hP : va_P (dC, dI) vwCl [(h_a0, .inr (8, [.int a0_primes, .ref q_a0_prime, w_a0_isNone, .int a0_hasSpan, .long a0_spanFrom, .int a0_spanMany, w_a0_least, w_a0_greatest, w_a0_isSquared, .int a0_hasPart, .long a0_parted, .int a0_partMany, w_a0_partPrime, w_a0_partPower, .int a0_rows, w_a0_row, .long a0_foundLeast, .long a0_foundGreatest, .int a0_foundSquare])), (q_a0_prime, .inl (cI, 9592, .inl a0_prime))] H := hP
  have hD : va_D A [(h_a0, .inr (8, [.int a0_primes, .ref q_a0_prime, w_a0_isNone, .int a0_hasSpan, .long a0_spanFrom, .int a0_spanMany, w_a0_least, w_a0_greatest, w_a0_isSquared, .int a0_hasPart, .long a0_parted, .int a0_partMany, w_a0_partPrime, w_a0_partPower, .int a0_rows, w_a0_row, .long a0_foundLeast, .long a0_foundGreatest, .int a0_foundSquare])), (q_a0_prime, .inl (cI, 9592, .inl a0_prime))] := hD
  refine lv_if_ne (tgt := 15) hx hb dX9_prime_8 (by decide) (fun c_2 => ?_) (fun c_2 => ?_)
  · replace h := h.2 c_2
    refine lv_aload_n hx hb dX9_prime_15 rfl (lv_at hl 0 rfl) ?_
    refine lv_lload_n hx hb dX9_prime_16 rfl (lv_at hl 1 rfl) ?_
    have hPc := hP.sub (ws' := [(h_a0, .inr (8, [.int a0_primes, .ref q_a0_prime, w_a0_isNone, .int a0_hasSpan, .long a0_spanFrom, .int a0_spanMany, w_a0_least, w_a0_greatest, w_a0_isSquared, .int a0_hasPart, .long a0_parted, .int a0_partMany, w_a0_partPrime, w_a0_partPower, .int a0_rows, w_a0_row, .long a0_foundLeast, .long a0_foundGreatest, .int a0_foundSquare])), (q_a0_prime, .inl (cI, 9592, .inl a0_prime))]) [0, 1] rfl
    have hDc := hD.sub (ws' := [(h_a0, .inr (8, [.int a0_primes, .ref q_a0_prime, w_a0_isNone, .int a0_hasSpan, .long a0_spanFrom, .int a0_spanMany, w_a0_least, w_a0_greatest, w_a0_isSquared, .int a0_hasPart, .long a0_parted, .int a0_partMany, w_a0_partPrime, w_a0_partPower, .int a0_rows, w_a0_row, .long a0_foundLeast, .long a0_foundGreatest, .int a0_foundSquare])), (q_a0_prime, .inl (cI, 9592, .inl a0_prime))]) [0, 1] (by decide) rfl
    have hFc := va_free (wc := [(h_a0, .inr (8, [.int a0_primes, .ref q_a0_prime, w_a0_isNone, .int a0_hasSpan, .long a0_spanFrom, .int a0_spanMany, w_a0_least, w_a0_greatest, w_a0_isSquared, .int a0_hasPart, .long a0_parted, .int a0_partMany, w_a0_partPrime, w_a0_partPower, .int a0_rows, w_a0_row, .long a0_foundLeast, .long a0_foundGreatest, .int a0_foundSquare])), (q_a0_prime, .inl (cI, 9592, .inl a0_prime))]) hD hS hA [0, 1] rfl
    refine va_calli (va_runV (As := [.long p1]) (rest := []) ⟨hx, hb, hml, hown, hts⟩ (c_X9_isPrime l dC dI cI cJ cZ _ h_a0 a0_primes a0_prime q_a0_prime (w_a0_isNone) a0_hasSpan a0_spanFrom a0_spanMany (w_a0_least) (w_a0_greatest) (w_a0_isSquared) a0_hasPart a0_parted a0_partMany (w_a0_partPrime) (w_a0_partPower) a0_rows (w_a0_row) a0_foundLeast a0_foundGreatest a0_foundSquare p1 _ h) (cwV 1 hts gX9_prime_X9_isPrime rfl rfl rfl (by decide +kernel) ⟨Nat.le_of_ble_eq_true rfl, Nat.le_of_ble_eq_true rfl⟩) ⟨pre_fb, va_recv hK hPc (ci := 8) (q0 := 0) rfl rfl, pre_of hPc hDc hK hN⟩ rfl rfl hl.1 rfl (lv_room (Nat.le_of_ble_eq_true rfl)) dX9_prime_17 ⟨by first | exact Nat.le_of_ble_eq_true rfl | exact Nat.le_refl _, by first | exact Nat.le_of_ble_eq_true rfl | exact Nat.le_refl _⟩) hS (fun q _ h => hFc q h) hFc (fun r_3 u t H1 locs ht hvm h hB hz1 hk1 hS => ?_)
    obtain ⟨hP1, hD1⟩ := hB
    rw [ht] at hP1
    try dsimp only at h
    obtain ⟨hP, hD⟩ := va_join (wr := []) (w1 := [(h_a0, .inr (8, [.int a0_primes, .ref q_a0_prime, w_a0_isNone, .int a0_hasSpan, .long a0_spanFrom, .int a0_spanMany, w_a0_least, w_a0_greatest, w_a0_isSquared, .int a0_hasPart, .long a0_parted, .int a0_partMany, w_a0_partPrime, w_a0_partPower, .int a0_rows, w_a0_row, .long a0_foundLeast, .long a0_foundGreatest, .int a0_foundSquare])), (q_a0_prime, .inl (cI, 9592, .inl a0_prime))]) hP hD [0, 1] [] rfl rfl (by decide) (by decide) hk1 hFc hP1 hD1
    generalize H1 = H at hP hS ⊢
    have hP : va_P (dC, dI) vwCl [(h_a0, .inr (8, [.int a0_primes, .ref q_a0_prime, w_a0_isNone, .int a0_hasSpan, .long a0_spanFrom, .int a0_spanMany, w_a0_least, w_a0_greatest, w_a0_isSquared, .int a0_hasPart, .long a0_parted, .int a0_partMany, w_a0_partPrime, w_a0_partPower, .int a0_rows, w_a0_row, .long a0_foundLeast, .long a0_foundGreatest, .int a0_foundSquare])), (q_a0_prime, .inl (cI, 9592, .inl a0_prime))] H := hP
    have hD : va_D A [(h_a0, .inr (8, [.int a0_primes, .ref q_a0_prime, w_a0_isNone, .int a0_hasSpan, .long a0_spanFrom, .int a0_spanMany, w_a0_least, w_a0_greatest, w_a0_isSquared, .int a0_hasPart, .long a0_parted, .int a0_partMany, w_a0_partPrime, w_a0_partPower, .int a0_rows, w_a0_row, .long a0_foundLeast, .long a0_foundGreatest, .int a0_foundSquare])), (q_a0_prime, .inl (cI, 9592, .inl a0_prime))] := hD
    refine lv_if_eq (tgt := 27) hx hb dX9_prime_20 (by decide) (fun c_4 => ?_) (fun c_4 => ?_)
    · replace h := h.1 c_4
      refine lv_iconst (v := (0 : Int32)) hx hb dX9_prime_27 (by decide) ?_
      have hP9 := hP.sub (ws' := [(h_a0, .inr (8, [.int a0_primes, .ref q_a0_prime, w_a0_isNone, .int a0_hasSpan, .long a0_spanFrom, .int a0_spanMany, w_a0_least, w_a0_greatest, w_a0_isSquared, .int a0_hasPart, .long a0_parted, .int a0_partMany, w_a0_partPrime, w_a0_partPower, .int a0_rows, w_a0_row, .long a0_foundLeast, .long a0_foundGreatest, .int a0_foundSquare])), (q_a0_prime, .inl (cI, 9592, .inl a0_prime))]) [0, 1] rfl
      have hD9 := hD.sub (ws' := [(h_a0, .inr (8, [.int a0_primes, .ref q_a0_prime, w_a0_isNone, .int a0_hasSpan, .long a0_spanFrom, .int a0_spanMany, w_a0_least, w_a0_greatest, w_a0_isSquared, .int a0_hasPart, .long a0_parted, .int a0_partMany, w_a0_partPrime, w_a0_partPower, .int a0_rows, w_a0_row, .long a0_foundLeast, .long a0_foundGreatest, .int a0_foundSquare])), (q_a0_prime, .inl (cI, 9592, .inl a0_prime))]) [0, 1] (by decide) rfl
      exact W.iret (v := (0 : Int32)) hx hb hr (fun t ht hW => ⟨⟨_, (), rfl, h, by rw [ht]; exact hP9, hD9⟩, hS.F ht⟩) hS.2.2 dX9_prime_28
    · replace h := h.2 c_4
      refine lv_iconst (v := (1 : Int32)) hx hb dX9_prime_23 (by decide) ?_
      refine lv_goto (tgt := 28) hx hb dX9_prime_24 (by decide) ?_
      have hP9 := hP.sub (ws' := [(h_a0, .inr (8, [.int a0_primes, .ref q_a0_prime, w_a0_isNone, .int a0_hasSpan, .long a0_spanFrom, .int a0_spanMany, w_a0_least, w_a0_greatest, w_a0_isSquared, .int a0_hasPart, .long a0_parted, .int a0_partMany, w_a0_partPrime, w_a0_partPower, .int a0_rows, w_a0_row, .long a0_foundLeast, .long a0_foundGreatest, .int a0_foundSquare])), (q_a0_prime, .inl (cI, 9592, .inl a0_prime))]) [0, 1] rfl
      have hD9 := hD.sub (ws' := [(h_a0, .inr (8, [.int a0_primes, .ref q_a0_prime, w_a0_isNone, .int a0_hasSpan, .long a0_spanFrom, .int a0_spanMany, w_a0_least, w_a0_greatest, w_a0_isSquared, .int a0_hasPart, .long a0_parted, .int a0_partMany, w_a0_partPrime, w_a0_partPower, .int a0_rows, w_a0_row, .long a0_foundLeast, .long a0_foundGreatest, .int a0_foundSquare])), (q_a0_prime, .inl (cI, 9592, .inl a0_prime))]) [0, 1] (by decide) rfl
      exact W.iret (v := (1 : Int32)) hx hb hr (fun t ht hW => ⟨⟨_, (), rfl, h, by rw [ht]; exact hP9, hD9⟩, hS.F ht⟩) hS.2.2 dX9_prime_28
  · replace h := h.1 c_2
    refine lv_iconst (v := (-1 : Int32)) hx hb dX9_prime_11 (by decide) ?_
    refine lv_goto (tgt := 28) hx hb dX9_prime_12 (by decide) ?_
    have hP9 := hP.sub (ws' := [(h_a0, .inr (8, [.int a0_primes, .ref q_a0_prime, w_a0_isNone, .int a0_hasSpan, .long a0_spanFrom, .int a0_spanMany, w_a0_least, w_a0_greatest, w_a0_isSquared, .int a0_hasPart, .long a0_parted, .int a0_partMany, w_a0_partPrime, w_a0_partPower, .int a0_rows, w_a0_row, .long a0_foundLeast, .long a0_foundGreatest, .int a0_foundSquare])), (q_a0_prime, .inl (cI, 9592, .inl a0_prime))]) [0, 1] rfl
    have hD9 := hD.sub (ws' := [(h_a0, .inr (8, [.int a0_primes, .ref q_a0_prime, w_a0_isNone, .int a0_hasSpan, .long a0_spanFrom, .int a0_spanMany, w_a0_least, w_a0_greatest, w_a0_isSquared, .int a0_hasPart, .long a0_parted, .int a0_partMany, w_a0_partPrime, w_a0_partPower, .int a0_rows, w_a0_row, .long a0_foundLeast, .long a0_foundGreatest, .int a0_foundSquare])), (q_a0_prime, .inl (cI, 9592, .inl a0_prime))]) [0, 1] (by decide) rfl
    exact W.iret (v := (-1 : Int32)) hx hb hr (fun t ht hW => ⟨⟨_, (), rfl, h, by rw [ht]; exact hP9, hD9⟩, hS.F ht⟩) hS.2.2 dX9_prime_28
def wp_X9_next (a0_primes : Int32) (a0_prime : Nat → Int32) (p1 : Int64) (p2 : Int32) (Q : Int64 → Prop) : Prop :=
  wp_X9_in p1 (1 : Int64) (10000000000 : Int64) (fun r_1 => ((r_1 = (0 : Int32) → Q (0 : Int64)) ∧ (¬ r_1 = (0 : Int32) → (∃ (I_19_2 : Int32 → Int64 → Prop) (m_19_2 : Int32 → Int64 → Nat), I_19_2 (0 : Int32) p1 ∧ ∀ (l6_19_2 : Int32) (l4_19_2 : Int64), I_19_2 l6_19_2 l4_19_2 → ((l6_19_2 = (0 : Int32) → ((p2 = (0 : Int32) → (((10000000000 : Int64) ≤ l4_19_2 → ((l6_19_2 = (0 : Int32) → Q (0 : Int64)) ∧ (¬ l6_19_2 = (0 : Int32) → Q l4_19_2))) ∧ (¬ (10000000000 : Int64) ≤ l4_19_2 → ((p2 = (0 : Int32) → (∀ x4_10 : Int64, x4_10 = (l4_19_2 + (1 : Int64)) → wp_X9_isPrime a0_primes a0_prime x4_10 (fun r_11 => (I_19_2 r_11 x4_10 ∧ m_19_2 r_11 x4_10 < m_19_2 l6_19_2 l4_19_2)))) ∧ (¬ p2 = (0 : Int32) → (∀ x4_12 : Int64, x4_12 = (l4_19_2 + (-1 : Int64)) → wp_X9_isPrime a0_primes a0_prime x4_12 (fun r_13 => (I_19_2 r_13 x4_12 ∧ m_19_2 r_13 x4_12 < m_19_2 l6_19_2 l4_19_2)))))))) ∧ (¬ p2 = (0 : Int32) → ((l4_19_2 ≤ (1 : Int64) → ((l6_19_2 = (0 : Int32) → Q (0 : Int64)) ∧ (¬ l6_19_2 = (0 : Int32) → Q l4_19_2))) ∧ (¬ l4_19_2 ≤ (1 : Int64) → ((p2 = (0 : Int32) → (∀ x4_17 : Int64, x4_17 = (l4_19_2 + (1 : Int64)) → wp_X9_isPrime a0_primes a0_prime x4_17 (fun r_18 => (I_19_2 r_18 x4_17 ∧ m_19_2 r_18 x4_17 < m_19_2 l6_19_2 l4_19_2)))) ∧ (¬ p2 = (0 : Int32) → (∀ x4_19 : Int64, x4_19 = (l4_19_2 + (-1 : Int64)) → wp_X9_isPrime a0_primes a0_prime x4_19 (fun r_20 => (I_19_2 r_20 x4_19 ∧ m_19_2 r_20 x4_19 < m_19_2 l6_19_2 l4_19_2)))))))))) ∧ (¬ l6_19_2 = (0 : Int32) → ((l6_19_2 = (0 : Int32) → Q (0 : Int64)) ∧ (¬ l6_19_2 = (0 : Int32) → Q l4_19_2))))))))
abbrev rm_X9_next : Room := { frames := 1, cells := 0, slots := 0, locals := 25 }
abbrev qc_X9_next (dC : Nat → ClassId) (dI : Nat → Nat → Nat) (cI cJ cZ : ClassId) (h_a0 : Nat) (a0_primes : Int32) (a0_prime : Nat → Int32) (q_a0_prime : Nat) (w_a0_isNone : Value) (a0_hasSpan : Int32) (a0_spanFrom : Int64) (a0_spanMany : Int32) (w_a0_least : Value) (w_a0_greatest : Value) (w_a0_isSquared : Value) (a0_hasPart : Int32) (a0_parted : Int64) (a0_partMany : Int32) (w_a0_partPrime : Value) (w_a0_partPower : Value) (a0_rows : Int32) (w_a0_row : Value) (a0_foundLeast : Int64) (a0_foundGreatest : Int64) (a0_foundSquare : Int32) (Q : Int64 → Prop) (A : Nat → Prop) : Array Value → State → Outcome → State → Prop := va_Ql (fun (r : Int64) (_ : Unit) => Q r) (post_ dC dI A (fun (u : Unit) => [(h_a0, .inr (8, [.int a0_primes, .ref q_a0_prime, w_a0_isNone, .int a0_hasSpan, .long a0_spanFrom, .int a0_spanMany, w_a0_least, w_a0_greatest, w_a0_isSquared, .int a0_hasPart, .long a0_parted, .int a0_partMany, w_a0_partPrime, w_a0_partPower, .int a0_rows, w_a0_row, .long a0_foundLeast, .long a0_foundGreatest, .int a0_foundSquare])), (q_a0_prime, .inl (cI, 9592, .inl a0_prime))])) A
set_option maxHeartbeats 4000000 in
set_option maxRecDepth 100000 in
theorem c_X9_next (l : Launch) (dC : Nat → ClassId) (dI : Nat → Nat → Nat) (cI cJ cZ : ClassId) (sz : Nat) (h_a0 : Nat) (a0_primes : Int32) (a0_prime : Nat → Int32) (q_a0_prime : Nat) (w_a0_isNone : Value) (a0_hasSpan : Int32) (a0_spanFrom : Int64) (a0_spanMany : Int32) (w_a0_least : Value) (w_a0_greatest : Value) (w_a0_isSquared : Value) (a0_hasPart : Int32) (a0_parted : Int64) (a0_partMany : Int32) (w_a0_partPrime : Value) (w_a0_partPower : Value) (a0_rows : Int32) (w_a0_row : Value) (a0_foundLeast : Int64) (a0_foundGreatest : Int64) (a0_foundSquare : Int32) (p1 : Int64) (p2 : Int32) (Q : Int64 → Prop) (hQ : wp_X9_next a0_primes a0_prime p1 p2 Q) : Met l yX9_next wsX9_next rm_X9_next (pre_ dC dI cI cJ cZ [.ref h_a0, .long p1, .int p2] [(h_a0, .inr (8, [.int a0_primes, .ref q_a0_prime, w_a0_isNone, .int a0_hasSpan, .long a0_spanFrom, .int a0_spanMany, w_a0_least, w_a0_greatest, w_a0_isSquared, .int a0_hasPart, .long a0_parted, .int a0_partMany, w_a0_partPrime, w_a0_partPower, .int a0_rows, w_a0_row, .long a0_foundLeast, .long a0_foundGreatest, .int a0_foundSquare])), (q_a0_prime, .inl (cI, 9592, .inl a0_prime))] sz) (qc_X9_next dC dI cI cJ cZ h_a0 a0_primes a0_prime q_a0_prime w_a0_isNone a0_hasSpan a0_spanFrom a0_spanMany w_a0_least w_a0_greatest w_a0_isSquared a0_hasPart a0_parted a0_partMany w_a0_partPrime w_a0_partPower a0_rows w_a0_row a0_foundLeast a0_foundGreatest a0_foundSquare Q (va_A [(h_a0, .inr (8, [.int a0_primes, .ref q_a0_prime, w_a0_isNone, .int a0_hasSpan, .long a0_spanFrom, .int a0_spanMany, w_a0_least, w_a0_greatest, w_a0_isSquared, .int a0_hasPart, .long a0_parted, .int a0_partMany, w_a0_partPrime, w_a0_partPower, .int a0_rows, w_a0_row, .long a0_foundLeast, .long a0_foundGreatest, .int a0_foundSquare])), (q_a0_prime, .inl (cI, 9592, .inl a0_prime))] sz)) 0 0 (va_A [(h_a0, .inr (8, [.int a0_primes, .ref q_a0_prime, w_a0_isNone, .int a0_hasSpan, .long a0_spanFrom, .int a0_spanMany, w_a0_least, w_a0_greatest, w_a0_isSquared, .int a0_hasPart, .long a0_parted, .int a0_partMany, w_a0_partPrime, w_a0_partPower, .int a0_rows, w_a0_row, .long a0_foundLeast, .long a0_foundGreatest, .int a0_foundSquare])), (q_a0_prime, .inl (cI, 9592, .inl a0_prime))] sz) := by
  refine Met.ofW (cc := cX9_next) (maxL := 7) (ret := (some .long)) (by decide) rfl ?_
  intro p e s m args below meth c s₁ B hml hv
  obtain ⟨rfl, hsz, hP, hK, hN, hD0⟩ := hv
  have hx := B.exec
  have hb := B.bytes
  have hr := B.returns
  have hts := atoms_spec (ws := wsX9_next) B.pre
  have hown : s.vm.findClass RX9 = some m.cls := findClass_of_methodNamed B.named
  subst hsz
  have hD := hD0.self (sz := s.heap.size)
  generalize hAe : va_A [(h_a0, .inr (8, [.int a0_primes, .ref q_a0_prime, w_a0_isNone, .int a0_hasSpan, .long a0_spanFrom, .int a0_spanMany, w_a0_least, w_a0_greatest, w_a0_isSquared, .int a0_hasPart, .long a0_parted, .int a0_partMany, w_a0_partPrime, w_a0_partPower, .int a0_rows, w_a0_row, .long a0_foundLeast, .long a0_foundGreatest, .int a0_foundSquare])), (q_a0_prime, .inl (cI, 9592, .inl a0_prime))] s.heap.size = A at hD ⊢
  have hA : ∀ q : Nat, s.heap.size ≤ q → A q := fun q h => by rw [← hAe]; exact Or.inr h
  have hS : va_S A s.heap s.heap [] := va_S.rf
  have hl := lv_entry ([.ref h_a0, .long p1, .int p2]) (n := 7) (Nat.le_of_ble_eq_true rfl)
  rw [lg_entry_eq]
  generalize (lg_sl ([.ref h_a0, .long p1, .int p2]) ++ List.replicate (7 - (lg_sl ([.ref h_a0, .long p1, .int p2])).length) Slot.unset).toArray = ls at hl ⊢
  have hl : lv_has ls 7 [(0, .ref h_a0), (1, .long p1), (3, .int p2)] := hl
  have h := hQ
  unfold wp_X9_next at h
  have hw_0 := hts (.constantLong RX9 65 (10000000000)) (by decide +kernel)
  have hw_1 := hts (.constantLong RX9 92 (-1)) (by decide +kernel)
  refine lv_lload_n hx hb dX9_next_0 rfl (lv_at hl 1 rfl) ?_
  refine lv_lconst (v := (1 : Int64)) hx hb dX9_next_1 (by decide) ?_
  refine lv_ldc2 hx hb hown hw_0 dX9_next_2 ?_
  have hPc := hP.sub (ws' := []) [] rfl
  have hDc := hD.sub (ws' := []) [] (by decide) rfl
  have hFc := va_free (wc := []) hD hS hA [] rfl
  refine va_calli (va_runS (As := [.long p1, .long (1 : Int64), .long (10000000000 : Int64)]) (rest := []) ⟨hx, hb, hml, hown, hts⟩ (c_X9_in l dC dI cI cJ cZ _ p1 (1 : Int64) (10000000000 : Int64) _ h) (va_cwS 3 hts gX9_next_X9_in rfl rfl rfl (by decide +kernel) ⟨Nat.le_of_ble_eq_true rfl, Nat.le_of_ble_eq_true rfl⟩) ⟨pre_fb, pre_of hPc hDc hK hN⟩ rfl rfl hl.1 rfl (lv_room (Nat.le_of_ble_eq_true rfl)) dX9_next_5 ⟨by first | exact Nat.le_of_ble_eq_true rfl | exact Nat.le_refl _, by first | exact Nat.le_of_ble_eq_true rfl | exact Nat.le_refl _⟩) hS (fun q _ h => hFc q h) hFc (fun r_1 u t H1 locs ht hvm h hB hz1 hk1 hS => ?_)
  obtain ⟨hP1, hD1⟩ := hB
  rw [ht] at hP1
  try dsimp only at h
  obtain ⟨hP, hD⟩ := va_join (wr := [(h_a0, .inr (8, [.int a0_primes, .ref q_a0_prime, w_a0_isNone, .int a0_hasSpan, .long a0_spanFrom, .int a0_spanMany, w_a0_least, w_a0_greatest, w_a0_isSquared, .int a0_hasPart, .long a0_parted, .int a0_partMany, w_a0_partPrime, w_a0_partPower, .int a0_rows, w_a0_row, .long a0_foundLeast, .long a0_foundGreatest, .int a0_foundSquare])), (q_a0_prime, .inl (cI, 9592, .inl a0_prime))]) (w1 := []) hP hD [] [0, 1] rfl rfl (by decide) (by decide) hk1 hFc hP1 hD1
  generalize H1 = H at hP hS ⊢
  have hP : va_P (dC, dI) vwCl [(h_a0, .inr (8, [.int a0_primes, .ref q_a0_prime, w_a0_isNone, .int a0_hasSpan, .long a0_spanFrom, .int a0_spanMany, w_a0_least, w_a0_greatest, w_a0_isSquared, .int a0_hasPart, .long a0_parted, .int a0_partMany, w_a0_partPrime, w_a0_partPower, .int a0_rows, w_a0_row, .long a0_foundLeast, .long a0_foundGreatest, .int a0_foundSquare])), (q_a0_prime, .inl (cI, 9592, .inl a0_prime))] H := hP
  have hD : va_D A [(h_a0, .inr (8, [.int a0_primes, .ref q_a0_prime, w_a0_isNone, .int a0_hasSpan, .long a0_spanFrom, .int a0_spanMany, w_a0_least, w_a0_greatest, w_a0_isSquared, .int a0_hasPart, .long a0_parted, .int a0_partMany, w_a0_partPrime, w_a0_partPower, .int a0_rows, w_a0_row, .long a0_foundLeast, .long a0_foundGreatest, .int a0_foundSquare])), (q_a0_prime, .inl (cI, 9592, .inl a0_prime))] := hD
  refine lv_if_ne (tgt := 13) hx hb dX9_next_8 (by decide) (fun c_2 => ?_) (fun c_2 => ?_)
  · replace h := h.2 c_2
    refine lv_lload_n hx hb dX9_next_13 rfl (lv_at hl 1 rfl) ?_
    refine lv_lstore (lv' := [(4, .long p1), (0, .ref h_a0), (1, .long p1), (3, .int p2)]) hx hb dX9_next_14 hl (by decide) rfl (fun ls hl => ?_)
    refine lv_iconst (v := (0 : Int32)) hx hb dX9_next_16 (by decide) ?_
    refine lv_istore (lv' := [(6, .int (0 : Int32)), (4, .long p1), (0, .ref h_a0), (1, .long p1), (3, .int p2)]) hx hb dX9_next_17 hl (by decide) rfl (fun ls hl => ?_)
    obtain ⟨I_19_2, m_19_2, h0_19_2, hs_19_2⟩ := h
    have key_19_2 : ∀ (n : Nat) (l6_19_2 : Int32) (l4_19_2 : Int64), m_19_2 l6_19_2 l4_19_2 < n → I_19_2 l6_19_2 l4_19_2 → ∀ (ls : Array Slot) (H : Heap) (locs : List Loc), lv_has ls 7 [(6, .int l6_19_2), (4, .long l4_19_2), (0, .ref h_a0), (3, .int p2)] → va_P (dC, dI) vwCl [(h_a0, .inr (8, [.int a0_primes, .ref q_a0_prime, w_a0_isNone, .int a0_hasSpan, .long a0_spanFrom, .int a0_spanMany, w_a0_least, w_a0_greatest, w_a0_isSquared, .int a0_hasPart, .long a0_parted, .int a0_partMany, w_a0_partPrime, w_a0_partPower, .int a0_rows, w_a0_row, .long a0_foundLeast, .long a0_foundGreatest, .int a0_foundSquare])), (q_a0_prime, .inl (cI, 9592, .inl a0_prime))] H → va_D A [(h_a0, .inr (8, [.int a0_primes, .ref q_a0_prime, w_a0_isNone, .int a0_hasSpan, .long a0_spanFrom, .int a0_spanMany, w_a0_least, w_a0_greatest, w_a0_isSquared, .int a0_hasPart, .long a0_parted, .int a0_partMany, w_a0_partPrime, w_a0_partPower, .int a0_rows, w_a0_row, .long a0_foundLeast, .long a0_foundGreatest, .int a0_foundSquare])), (q_a0_prime, .inl (cI, 9592, .inl a0_prime))] → va_S A s.heap H locs → W p l e (headSpec wsX9_next rm_X9_next).room s m ([.ref h_a0, .long p1, .int p2] : List Value).toArray below meth c H locs 0 0 (MQ below (qc_X9_next dC dI cI cJ cZ h_a0 a0_primes a0_prime q_a0_prime w_a0_isNone a0_hasSpan a0_spanFrom a0_spanMany w_a0_least w_a0_greatest w_a0_isSquared a0_hasPart a0_parted a0_partMany w_a0_partPrime w_a0_partPower a0_rows w_a0_row a0_foundLeast a0_foundGreatest a0_foundSquare Q A) ([.ref h_a0, .long p1, .int p2] : List Value).toArray s 0 0 A) (F0 m 19 ls []) := by
      intro n
      induction n with
      | zero =>
        intro l6_19_2 l4_19_2 hm
        exact absurd hm (Nat.not_lt_zero _)
      | succ n ih_19_2 =>
        intro l6_19_2 l4_19_2 hm_19_2 hI ls H locs hl hP hD hS
        have h := hs_19_2 l6_19_2 l4_19_2 hI
        refine lv_iload hx hb dX9_next_19 (lv_at hl 0 rfl) ?_
        refine lv_if_ne (tgt := 74) hx hb dX9_next_21 (by decide) (fun c_4 => ?_) (fun c_4 => ?_)
        · replace h := h.2 c_4
          refine lv_iload hx hb dX9_next_74 (lv_at hl 0 rfl) ?_
          refine lv_if_eq (tgt := 84) hx hb dX9_next_76 (by decide) (fun c_5 => ?_) (fun c_5 => ?_)
          · replace h := h.1 c_5
            refine lv_lconst (v := (0 : Int64)) hx hb dX9_next_84 (by decide) ?_
            have hP9 := hP.sub (ws' := [(h_a0, .inr (8, [.int a0_primes, .ref q_a0_prime, w_a0_isNone, .int a0_hasSpan, .long a0_spanFrom, .int a0_spanMany, w_a0_least, w_a0_greatest, w_a0_isSquared, .int a0_hasPart, .long a0_parted, .int a0_partMany, w_a0_partPrime, w_a0_partPower, .int a0_rows, w_a0_row, .long a0_foundLeast, .long a0_foundGreatest, .int a0_foundSquare])), (q_a0_prime, .inl (cI, 9592, .inl a0_prime))]) [0, 1] rfl
            have hD9 := hD.sub (ws' := [(h_a0, .inr (8, [.int a0_primes, .ref q_a0_prime, w_a0_isNone, .int a0_hasSpan, .long a0_spanFrom, .int a0_spanMany, w_a0_least, w_a0_greatest, w_a0_isSquared, .int a0_hasPart, .long a0_parted, .int a0_partMany, w_a0_partPrime, w_a0_partPower, .int a0_rows, w_a0_row, .long a0_foundLeast, .long a0_foundGreatest, .int a0_foundSquare])), (q_a0_prime, .inl (cI, 9592, .inl a0_prime))]) [0, 1] (by decide) rfl
            exact W.lret (v := (0 : Int64)) hx hb hr (fun t ht hW => ⟨⟨_, (), rfl, h, by rw [ht]; exact hP9, hD9⟩, hS.F ht⟩) hS.2.2 dX9_next_85
          · replace h := h.2 c_5
            refine lv_lload hx hb dX9_next_79 (lv_at hl 1 rfl) ?_
            refine lv_goto (tgt := 85) hx hb dX9_next_81 (by decide) ?_
            have hP9 := hP.sub (ws' := [(h_a0, .inr (8, [.int a0_primes, .ref q_a0_prime, w_a0_isNone, .int a0_hasSpan, .long a0_spanFrom, .int a0_spanMany, w_a0_least, w_a0_greatest, w_a0_isSquared, .int a0_hasPart, .long a0_parted, .int a0_partMany, w_a0_partPrime, w_a0_partPower, .int a0_rows, w_a0_row, .long a0_foundLeast, .long a0_foundGreatest, .int a0_foundSquare])), (q_a0_prime, .inl (cI, 9592, .inl a0_prime))]) [0, 1] rfl
            have hD9 := hD.sub (ws' := [(h_a0, .inr (8, [.int a0_primes, .ref q_a0_prime, w_a0_isNone, .int a0_hasSpan, .long a0_spanFrom, .int a0_spanMany, w_a0_least, w_a0_greatest, w_a0_isSquared, .int a0_hasPart, .long a0_parted, .int a0_partMany, w_a0_partPrime, w_a0_partPower, .int a0_rows, w_a0_row, .long a0_foundLeast, .long a0_foundGreatest, .int a0_foundSquare])), (q_a0_prime, .inl (cI, 9592, .inl a0_prime))]) [0, 1] (by decide) rfl
            exact W.lret (v := l4_19_2) hx hb hr (fun t ht hW => ⟨⟨_, (), rfl, h, by rw [ht]; exact hP9, hD9⟩, hS.F ht⟩) hS.2.2 dX9_next_85
        · replace h := h.1 c_4
          refine lv_iload_n hx hb dX9_next_24 rfl (lv_at hl 3 rfl) ?_
          refine lv_if_eq (tgt := 38) hx hb dX9_next_25 (by decide) (fun c_6 => ?_) (fun c_6 => ?_)
          · replace h := h.1 c_6
            refine lv_lload hx hb dX9_next_38 (lv_at hl 1 rfl) ?_
            refine lv_ldc2 hx hb hown hw_0 dX9_next_40 ?_
            refine W.lcmp hx hb dX9_next_43 ?_
            refine lv_if_ge (tgt := 74) hx hb dX9_next_44 (by decide) (fun c_7 => ?_) (fun c_7 => ?_)
            · replace c_7 := (lg_cmp_ge _ _).mp c_7
              replace h := h.1 c_7
              refine lv_iload hx hb dX9_next_74 (lv_at hl 0 rfl) ?_
              refine lv_if_eq (tgt := 84) hx hb dX9_next_76 (by decide) (fun c_8 => ?_) (fun c_8 => ?_)
              · replace h := h.1 c_8
                refine lv_lconst (v := (0 : Int64)) hx hb dX9_next_84 (by decide) ?_
                have hP9 := hP.sub (ws' := [(h_a0, .inr (8, [.int a0_primes, .ref q_a0_prime, w_a0_isNone, .int a0_hasSpan, .long a0_spanFrom, .int a0_spanMany, w_a0_least, w_a0_greatest, w_a0_isSquared, .int a0_hasPart, .long a0_parted, .int a0_partMany, w_a0_partPrime, w_a0_partPower, .int a0_rows, w_a0_row, .long a0_foundLeast, .long a0_foundGreatest, .int a0_foundSquare])), (q_a0_prime, .inl (cI, 9592, .inl a0_prime))]) [0, 1] rfl
                have hD9 := hD.sub (ws' := [(h_a0, .inr (8, [.int a0_primes, .ref q_a0_prime, w_a0_isNone, .int a0_hasSpan, .long a0_spanFrom, .int a0_spanMany, w_a0_least, w_a0_greatest, w_a0_isSquared, .int a0_hasPart, .long a0_parted, .int a0_partMany, w_a0_partPrime, w_a0_partPower, .int a0_rows, w_a0_row, .long a0_foundLeast, .long a0_foundGreatest, .int a0_foundSquare])), (q_a0_prime, .inl (cI, 9592, .inl a0_prime))]) [0, 1] (by decide) rfl
                exact W.lret (v := (0 : Int64)) hx hb hr (fun t ht hW => ⟨⟨_, (), rfl, h, by rw [ht]; exact hP9, hD9⟩, hS.F ht⟩) hS.2.2 dX9_next_85
              · replace h := h.2 c_8
                refine lv_lload hx hb dX9_next_79 (lv_at hl 1 rfl) ?_
                refine lv_goto (tgt := 85) hx hb dX9_next_81 (by decide) ?_
                have hP9 := hP.sub (ws' := [(h_a0, .inr (8, [.int a0_primes, .ref q_a0_prime, w_a0_isNone, .int a0_hasSpan, .long a0_spanFrom, .int a0_spanMany, w_a0_least, w_a0_greatest, w_a0_isSquared, .int a0_hasPart, .long a0_parted, .int a0_partMany, w_a0_partPrime, w_a0_partPower, .int a0_rows, w_a0_row, .long a0_foundLeast, .long a0_foundGreatest, .int a0_foundSquare])), (q_a0_prime, .inl (cI, 9592, .inl a0_prime))]) [0, 1] rfl
                have hD9 := hD.sub (ws' := [(h_a0, .inr (8, [.int a0_primes, .ref q_a0_prime, w_a0_isNone, .int a0_hasSpan, .long a0_spanFrom, .int a0_spanMany, w_a0_least, w_a0_greatest, w_a0_isSquared, .int a0_hasPart, .long a0_parted, .int a0_partMany, w_a0_partPrime, w_a0_partPower, .int a0_rows, w_a0_row, .long a0_foundLeast, .long a0_foundGreatest, .int a0_foundSquare])), (q_a0_prime, .inl (cI, 9592, .inl a0_prime))]) [0, 1] (by decide) rfl
                exact W.lret (v := l4_19_2) hx hb hr (fun t ht hW => ⟨⟨_, (), rfl, h, by rw [ht]; exact hP9, hD9⟩, hS.F ht⟩) hS.2.2 dX9_next_85
            · replace c_7 := lc_nge c_7
              replace h := h.2 c_7
              refine lv_lload hx hb dX9_next_47 (lv_at hl 1 rfl) ?_
              refine lv_iload_n hx hb dX9_next_49 rfl (lv_at hl 3 rfl) ?_
              refine lv_if_eq (tgt := 59) hx hb dX9_next_50 (by decide) (fun c_9 => ?_) (fun c_9 => ?_)
              · replace h := h.1 c_9
                refine lv_lconst (v := (1 : Int64)) hx hb dX9_next_59 (by decide) ?_
                refine lv_ladd hx hb dX9_next_60 ?_
                refine lv_topl (fun x4_10 e_x4_10 => ?_)
                replace h := h x4_10 e_x4_10
                refine lv_lstore (lv' := [(4, .long x4_10), (6, .int l6_19_2), (0, .ref h_a0), (3, .int p2)]) hx hb dX9_next_61 hl (by decide) rfl (fun ls hl => ?_)
                refine lv_aload_n hx hb dX9_next_63 rfl (lv_at hl 2 rfl) ?_
                refine lv_lload hx hb dX9_next_64 (lv_at hl 0 rfl) ?_
                have hPc := hP.sub (ws' := [(h_a0, .inr (8, [.int a0_primes, .ref q_a0_prime, w_a0_isNone, .int a0_hasSpan, .long a0_spanFrom, .int a0_spanMany, w_a0_least, w_a0_greatest, w_a0_isSquared, .int a0_hasPart, .long a0_parted, .int a0_partMany, w_a0_partPrime, w_a0_partPower, .int a0_rows, w_a0_row, .long a0_foundLeast, .long a0_foundGreatest, .int a0_foundSquare])), (q_a0_prime, .inl (cI, 9592, .inl a0_prime))]) [0, 1] rfl
                have hDc := hD.sub (ws' := [(h_a0, .inr (8, [.int a0_primes, .ref q_a0_prime, w_a0_isNone, .int a0_hasSpan, .long a0_spanFrom, .int a0_spanMany, w_a0_least, w_a0_greatest, w_a0_isSquared, .int a0_hasPart, .long a0_parted, .int a0_partMany, w_a0_partPrime, w_a0_partPower, .int a0_rows, w_a0_row, .long a0_foundLeast, .long a0_foundGreatest, .int a0_foundSquare])), (q_a0_prime, .inl (cI, 9592, .inl a0_prime))]) [0, 1] (by decide) rfl
                have hFc := va_free (wc := [(h_a0, .inr (8, [.int a0_primes, .ref q_a0_prime, w_a0_isNone, .int a0_hasSpan, .long a0_spanFrom, .int a0_spanMany, w_a0_least, w_a0_greatest, w_a0_isSquared, .int a0_hasPart, .long a0_parted, .int a0_partMany, w_a0_partPrime, w_a0_partPower, .int a0_rows, w_a0_row, .long a0_foundLeast, .long a0_foundGreatest, .int a0_foundSquare])), (q_a0_prime, .inl (cI, 9592, .inl a0_prime))]) hD hS hA [0, 1] rfl
                refine va_calli (va_runV (As := [.long x4_10]) (rest := []) ⟨hx, hb, hml, hown, hts⟩ (c_X9_isPrime l dC dI cI cJ cZ _ h_a0 a0_primes a0_prime q_a0_prime (w_a0_isNone) a0_hasSpan a0_spanFrom a0_spanMany (w_a0_least) (w_a0_greatest) (w_a0_isSquared) a0_hasPart a0_parted a0_partMany (w_a0_partPrime) (w_a0_partPower) a0_rows (w_a0_row) a0_foundLeast a0_foundGreatest a0_foundSquare x4_10 _ h) (cwV 1 hts gX9_next_X9_isPrime rfl rfl rfl (by decide +kernel) ⟨Nat.le_of_ble_eq_true rfl, Nat.le_of_ble_eq_true rfl⟩) ⟨pre_fb, va_recv hK hPc (ci := 8) (q0 := 0) rfl rfl, pre_of hPc hDc hK hN⟩ rfl rfl hl.1 rfl (lv_room (Nat.le_of_ble_eq_true rfl)) dX9_next_66 ⟨by first | exact Nat.le_of_ble_eq_true rfl | exact Nat.le_refl _, by first | exact Nat.le_of_ble_eq_true rfl | exact Nat.le_refl _⟩) hS (fun q _ h => hFc q h) hFc (fun r_11 u t H1 locs ht hvm h hB hz1 hk1 hS => ?_)
                obtain ⟨hP1, hD1⟩ := hB
                rw [ht] at hP1
                try dsimp only at h
                obtain ⟨hP, hD⟩ := va_join (wr := []) (w1 := [(h_a0, .inr (8, [.int a0_primes, .ref q_a0_prime, w_a0_isNone, .int a0_hasSpan, .long a0_spanFrom, .int a0_spanMany, w_a0_least, w_a0_greatest, w_a0_isSquared, .int a0_hasPart, .long a0_parted, .int a0_partMany, w_a0_partPrime, w_a0_partPower, .int a0_rows, w_a0_row, .long a0_foundLeast, .long a0_foundGreatest, .int a0_foundSquare])), (q_a0_prime, .inl (cI, 9592, .inl a0_prime))]) hP hD [0, 1] [] rfl rfl (by decide) (by decide) hk1 hFc hP1 hD1
                generalize H1 = H at hP hS ⊢
                have hP : va_P (dC, dI) vwCl [(h_a0, .inr (8, [.int a0_primes, .ref q_a0_prime, w_a0_isNone, .int a0_hasSpan, .long a0_spanFrom, .int a0_spanMany, w_a0_least, w_a0_greatest, w_a0_isSquared, .int a0_hasPart, .long a0_parted, .int a0_partMany, w_a0_partPrime, w_a0_partPower, .int a0_rows, w_a0_row, .long a0_foundLeast, .long a0_foundGreatest, .int a0_foundSquare])), (q_a0_prime, .inl (cI, 9592, .inl a0_prime))] H := hP
                have hD : va_D A [(h_a0, .inr (8, [.int a0_primes, .ref q_a0_prime, w_a0_isNone, .int a0_hasSpan, .long a0_spanFrom, .int a0_spanMany, w_a0_least, w_a0_greatest, w_a0_isSquared, .int a0_hasPart, .long a0_parted, .int a0_partMany, w_a0_partPrime, w_a0_partPower, .int a0_rows, w_a0_row, .long a0_foundLeast, .long a0_foundGreatest, .int a0_foundSquare])), (q_a0_prime, .inl (cI, 9592, .inl a0_prime))] := hD
                refine lv_istore (lv' := [(6, .int r_11), (4, .long x4_10), (0, .ref h_a0), (3, .int p2)]) hx hb dX9_next_69 hl (by decide) rfl (fun ls hl => ?_)
                refine lv_goto (tgt := 19) hx hb dX9_next_71 (by decide) ?_
                exact ih_19_2 r_11 x4_10 (Nat.lt_of_lt_of_le h.2 (Nat.le_of_lt_succ hm_19_2)) h.1 _ _ _ (lv_sub hl [0, 1, 2, 3] rfl) (hP.sub [0, 1] rfl) (hD.sub [0, 1] (by decide) rfl) hS
              · replace h := h.2 c_9
                refine lv_ldc2 hx hb hown hw_1 dX9_next_53 ?_
                refine lv_goto (tgt := 60) hx hb dX9_next_56 (by decide) ?_
                refine lv_ladd hx hb dX9_next_60 ?_
                refine lv_topl (fun x4_12 e_x4_12 => ?_)
                replace h := h x4_12 e_x4_12
                refine lv_lstore (lv' := [(4, .long x4_12), (6, .int l6_19_2), (0, .ref h_a0), (3, .int p2)]) hx hb dX9_next_61 hl (by decide) rfl (fun ls hl => ?_)
                refine lv_aload_n hx hb dX9_next_63 rfl (lv_at hl 2 rfl) ?_
                refine lv_lload hx hb dX9_next_64 (lv_at hl 0 rfl) ?_
                have hPc := hP.sub (ws' := [(h_a0, .inr (8, [.int a0_primes, .ref q_a0_prime, w_a0_isNone, .int a0_hasSpan, .long a0_spanFrom, .int a0_spanMany, w_a0_least, w_a0_greatest, w_a0_isSquared, .int a0_hasPart, .long a0_parted, .int a0_partMany, w_a0_partPrime, w_a0_partPower, .int a0_rows, w_a0_row, .long a0_foundLeast, .long a0_foundGreatest, .int a0_foundSquare])), (q_a0_prime, .inl (cI, 9592, .inl a0_prime))]) [0, 1] rfl
                have hDc := hD.sub (ws' := [(h_a0, .inr (8, [.int a0_primes, .ref q_a0_prime, w_a0_isNone, .int a0_hasSpan, .long a0_spanFrom, .int a0_spanMany, w_a0_least, w_a0_greatest, w_a0_isSquared, .int a0_hasPart, .long a0_parted, .int a0_partMany, w_a0_partPrime, w_a0_partPower, .int a0_rows, w_a0_row, .long a0_foundLeast, .long a0_foundGreatest, .int a0_foundSquare])), (q_a0_prime, .inl (cI, 9592, .inl a0_prime))]) [0, 1] (by decide) rfl
                have hFc := va_free (wc := [(h_a0, .inr (8, [.int a0_primes, .ref q_a0_prime, w_a0_isNone, .int a0_hasSpan, .long a0_spanFrom, .int a0_spanMany, w_a0_least, w_a0_greatest, w_a0_isSquared, .int a0_hasPart, .long a0_parted, .int a0_partMany, w_a0_partPrime, w_a0_partPower, .int a0_rows, w_a0_row, .long a0_foundLeast, .long a0_foundGreatest, .int a0_foundSquare])), (q_a0_prime, .inl (cI, 9592, .inl a0_prime))]) hD hS hA [0, 1] rfl
                refine va_calli (va_runV (As := [.long x4_12]) (rest := []) ⟨hx, hb, hml, hown, hts⟩ (c_X9_isPrime l dC dI cI cJ cZ _ h_a0 a0_primes a0_prime q_a0_prime (w_a0_isNone) a0_hasSpan a0_spanFrom a0_spanMany (w_a0_least) (w_a0_greatest) (w_a0_isSquared) a0_hasPart a0_parted a0_partMany (w_a0_partPrime) (w_a0_partPower) a0_rows (w_a0_row) a0_foundLeast a0_foundGreatest a0_foundSquare x4_12 _ h) (cwV 1 hts gX9_next_X9_isPrime rfl rfl rfl (by decide +kernel) ⟨Nat.le_of_ble_eq_true rfl, Nat.le_of_ble_eq_true rfl⟩) ⟨pre_fb, va_recv hK hPc (ci := 8) (q0 := 0) rfl rfl, pre_of hPc hDc hK hN⟩ rfl rfl hl.1 rfl (lv_room (Nat.le_of_ble_eq_true rfl)) dX9_next_66 ⟨by first | exact Nat.le_of_ble_eq_true rfl | exact Nat.le_refl _, by first | exact Nat.le_of_ble_eq_true rfl | exact Nat.le_refl _⟩) hS (fun q _ h => hFc q h) hFc (fun r_13 u t H1 locs ht hvm h hB hz1 hk1 hS => ?_)
                obtain ⟨hP1, hD1⟩ := hB
                rw [ht] at hP1
                try dsimp only at h
                obtain ⟨hP, hD⟩ := va_join (wr := []) (w1 := [(h_a0, .inr (8, [.int a0_primes, .ref q_a0_prime, w_a0_isNone, .int a0_hasSpan, .long a0_spanFrom, .int a0_spanMany, w_a0_least, w_a0_greatest, w_a0_isSquared, .int a0_hasPart, .long a0_parted, .int a0_partMany, w_a0_partPrime, w_a0_partPower, .int a0_rows, w_a0_row, .long a0_foundLeast, .long a0_foundGreatest, .int a0_foundSquare])), (q_a0_prime, .inl (cI, 9592, .inl a0_prime))]) hP hD [0, 1] [] rfl rfl (by decide) (by decide) hk1 hFc hP1 hD1
                generalize H1 = H at hP hS ⊢
                have hP : va_P (dC, dI) vwCl [(h_a0, .inr (8, [.int a0_primes, .ref q_a0_prime, w_a0_isNone, .int a0_hasSpan, .long a0_spanFrom, .int a0_spanMany, w_a0_least, w_a0_greatest, w_a0_isSquared, .int a0_hasPart, .long a0_parted, .int a0_partMany, w_a0_partPrime, w_a0_partPower, .int a0_rows, w_a0_row, .long a0_foundLeast, .long a0_foundGreatest, .int a0_foundSquare])), (q_a0_prime, .inl (cI, 9592, .inl a0_prime))] H := hP
                have hD : va_D A [(h_a0, .inr (8, [.int a0_primes, .ref q_a0_prime, w_a0_isNone, .int a0_hasSpan, .long a0_spanFrom, .int a0_spanMany, w_a0_least, w_a0_greatest, w_a0_isSquared, .int a0_hasPart, .long a0_parted, .int a0_partMany, w_a0_partPrime, w_a0_partPower, .int a0_rows, w_a0_row, .long a0_foundLeast, .long a0_foundGreatest, .int a0_foundSquare])), (q_a0_prime, .inl (cI, 9592, .inl a0_prime))] := hD
                refine lv_istore (lv' := [(6, .int r_13), (4, .long x4_12), (0, .ref h_a0), (3, .int p2)]) hx hb dX9_next_69 hl (by decide) rfl (fun ls hl => ?_)
                refine lv_goto (tgt := 19) hx hb dX9_next_71 (by decide) ?_
                exact ih_19_2 r_13 x4_12 (Nat.lt_of_lt_of_le h.2 (Nat.le_of_lt_succ hm_19_2)) h.1 _ _ _ (lv_sub hl [0, 1, 2, 3] rfl) (hP.sub [0, 1] rfl) (hD.sub [0, 1] (by decide) rfl) hS
          · replace h := h.2 c_6
            refine lv_lload hx hb dX9_next_28 (lv_at hl 1 rfl) ?_
            refine lv_lconst (v := (1 : Int64)) hx hb dX9_next_30 (by decide) ?_
            refine W.lcmp hx hb dX9_next_31 ?_
            refine lv_if_le (tgt := 74) hx hb dX9_next_32 (by decide) (fun c_14 => ?_) (fun c_14 => ?_)
            · replace c_14 := (lg_cmp_le _ _).mp c_14
              replace h := h.1 c_14
              refine lv_iload hx hb dX9_next_74 (lv_at hl 0 rfl) ?_
              refine lv_if_eq (tgt := 84) hx hb dX9_next_76 (by decide) (fun c_15 => ?_) (fun c_15 => ?_)
              · replace h := h.1 c_15
                refine lv_lconst (v := (0 : Int64)) hx hb dX9_next_84 (by decide) ?_
                have hP9 := hP.sub (ws' := [(h_a0, .inr (8, [.int a0_primes, .ref q_a0_prime, w_a0_isNone, .int a0_hasSpan, .long a0_spanFrom, .int a0_spanMany, w_a0_least, w_a0_greatest, w_a0_isSquared, .int a0_hasPart, .long a0_parted, .int a0_partMany, w_a0_partPrime, w_a0_partPower, .int a0_rows, w_a0_row, .long a0_foundLeast, .long a0_foundGreatest, .int a0_foundSquare])), (q_a0_prime, .inl (cI, 9592, .inl a0_prime))]) [0, 1] rfl
                have hD9 := hD.sub (ws' := [(h_a0, .inr (8, [.int a0_primes, .ref q_a0_prime, w_a0_isNone, .int a0_hasSpan, .long a0_spanFrom, .int a0_spanMany, w_a0_least, w_a0_greatest, w_a0_isSquared, .int a0_hasPart, .long a0_parted, .int a0_partMany, w_a0_partPrime, w_a0_partPower, .int a0_rows, w_a0_row, .long a0_foundLeast, .long a0_foundGreatest, .int a0_foundSquare])), (q_a0_prime, .inl (cI, 9592, .inl a0_prime))]) [0, 1] (by decide) rfl
                exact W.lret (v := (0 : Int64)) hx hb hr (fun t ht hW => ⟨⟨_, (), rfl, h, by rw [ht]; exact hP9, hD9⟩, hS.F ht⟩) hS.2.2 dX9_next_85
              · replace h := h.2 c_15
                refine lv_lload hx hb dX9_next_79 (lv_at hl 1 rfl) ?_
                refine lv_goto (tgt := 85) hx hb dX9_next_81 (by decide) ?_
                have hP9 := hP.sub (ws' := [(h_a0, .inr (8, [.int a0_primes, .ref q_a0_prime, w_a0_isNone, .int a0_hasSpan, .long a0_spanFrom, .int a0_spanMany, w_a0_least, w_a0_greatest, w_a0_isSquared, .int a0_hasPart, .long a0_parted, .int a0_partMany, w_a0_partPrime, w_a0_partPower, .int a0_rows, w_a0_row, .long a0_foundLeast, .long a0_foundGreatest, .int a0_foundSquare])), (q_a0_prime, .inl (cI, 9592, .inl a0_prime))]) [0, 1] rfl
                have hD9 := hD.sub (ws' := [(h_a0, .inr (8, [.int a0_primes, .ref q_a0_prime, w_a0_isNone, .int a0_hasSpan, .long a0_spanFrom, .int a0_spanMany, w_a0_least, w_a0_greatest, w_a0_isSquared, .int a0_hasPart, .long a0_parted, .int a0_partMany, w_a0_partPrime, w_a0_partPower, .int a0_rows, w_a0_row, .long a0_foundLeast, .long a0_foundGreatest, .int a0_foundSquare])), (q_a0_prime, .inl (cI, 9592, .inl a0_prime))]) [0, 1] (by decide) rfl
                exact W.lret (v := l4_19_2) hx hb hr (fun t ht hW => ⟨⟨_, (), rfl, h, by rw [ht]; exact hP9, hD9⟩, hS.F ht⟩) hS.2.2 dX9_next_85
            · replace c_14 := lc_nle c_14
              replace h := h.2 c_14
              refine lv_goto (tgt := 47) hx hb dX9_next_35 (by decide) ?_
              refine lv_lload hx hb dX9_next_47 (lv_at hl 1 rfl) ?_
              refine lv_iload_n hx hb dX9_next_49 rfl (lv_at hl 3 rfl) ?_
              refine lv_if_eq (tgt := 59) hx hb dX9_next_50 (by decide) (fun c_16 => ?_) (fun c_16 => ?_)
              · replace h := h.1 c_16
                refine lv_lconst (v := (1 : Int64)) hx hb dX9_next_59 (by decide) ?_
                refine lv_ladd hx hb dX9_next_60 ?_
                refine lv_topl (fun x4_17 e_x4_17 => ?_)
                replace h := h x4_17 e_x4_17
                refine lv_lstore (lv' := [(4, .long x4_17), (6, .int l6_19_2), (0, .ref h_a0), (3, .int p2)]) hx hb dX9_next_61 hl (by decide) rfl (fun ls hl => ?_)
                refine lv_aload_n hx hb dX9_next_63 rfl (lv_at hl 2 rfl) ?_
                refine lv_lload hx hb dX9_next_64 (lv_at hl 0 rfl) ?_
                have hPc := hP.sub (ws' := [(h_a0, .inr (8, [.int a0_primes, .ref q_a0_prime, w_a0_isNone, .int a0_hasSpan, .long a0_spanFrom, .int a0_spanMany, w_a0_least, w_a0_greatest, w_a0_isSquared, .int a0_hasPart, .long a0_parted, .int a0_partMany, w_a0_partPrime, w_a0_partPower, .int a0_rows, w_a0_row, .long a0_foundLeast, .long a0_foundGreatest, .int a0_foundSquare])), (q_a0_prime, .inl (cI, 9592, .inl a0_prime))]) [0, 1] rfl
                have hDc := hD.sub (ws' := [(h_a0, .inr (8, [.int a0_primes, .ref q_a0_prime, w_a0_isNone, .int a0_hasSpan, .long a0_spanFrom, .int a0_spanMany, w_a0_least, w_a0_greatest, w_a0_isSquared, .int a0_hasPart, .long a0_parted, .int a0_partMany, w_a0_partPrime, w_a0_partPower, .int a0_rows, w_a0_row, .long a0_foundLeast, .long a0_foundGreatest, .int a0_foundSquare])), (q_a0_prime, .inl (cI, 9592, .inl a0_prime))]) [0, 1] (by decide) rfl
                have hFc := va_free (wc := [(h_a0, .inr (8, [.int a0_primes, .ref q_a0_prime, w_a0_isNone, .int a0_hasSpan, .long a0_spanFrom, .int a0_spanMany, w_a0_least, w_a0_greatest, w_a0_isSquared, .int a0_hasPart, .long a0_parted, .int a0_partMany, w_a0_partPrime, w_a0_partPower, .int a0_rows, w_a0_row, .long a0_foundLeast, .long a0_foundGreatest, .int a0_foundSquare])), (q_a0_prime, .inl (cI, 9592, .inl a0_prime))]) hD hS hA [0, 1] rfl
                refine va_calli (va_runV (As := [.long x4_17]) (rest := []) ⟨hx, hb, hml, hown, hts⟩ (c_X9_isPrime l dC dI cI cJ cZ _ h_a0 a0_primes a0_prime q_a0_prime (w_a0_isNone) a0_hasSpan a0_spanFrom a0_spanMany (w_a0_least) (w_a0_greatest) (w_a0_isSquared) a0_hasPart a0_parted a0_partMany (w_a0_partPrime) (w_a0_partPower) a0_rows (w_a0_row) a0_foundLeast a0_foundGreatest a0_foundSquare x4_17 _ h) (cwV 1 hts gX9_next_X9_isPrime rfl rfl rfl (by decide +kernel) ⟨Nat.le_of_ble_eq_true rfl, Nat.le_of_ble_eq_true rfl⟩) ⟨pre_fb, va_recv hK hPc (ci := 8) (q0 := 0) rfl rfl, pre_of hPc hDc hK hN⟩ rfl rfl hl.1 rfl (lv_room (Nat.le_of_ble_eq_true rfl)) dX9_next_66 ⟨by first | exact Nat.le_of_ble_eq_true rfl | exact Nat.le_refl _, by first | exact Nat.le_of_ble_eq_true rfl | exact Nat.le_refl _⟩) hS (fun q _ h => hFc q h) hFc (fun r_18 u t H1 locs ht hvm h hB hz1 hk1 hS => ?_)
                obtain ⟨hP1, hD1⟩ := hB
                rw [ht] at hP1
                try dsimp only at h
                obtain ⟨hP, hD⟩ := va_join (wr := []) (w1 := [(h_a0, .inr (8, [.int a0_primes, .ref q_a0_prime, w_a0_isNone, .int a0_hasSpan, .long a0_spanFrom, .int a0_spanMany, w_a0_least, w_a0_greatest, w_a0_isSquared, .int a0_hasPart, .long a0_parted, .int a0_partMany, w_a0_partPrime, w_a0_partPower, .int a0_rows, w_a0_row, .long a0_foundLeast, .long a0_foundGreatest, .int a0_foundSquare])), (q_a0_prime, .inl (cI, 9592, .inl a0_prime))]) hP hD [0, 1] [] rfl rfl (by decide) (by decide) hk1 hFc hP1 hD1
                generalize H1 = H at hP hS ⊢
                have hP : va_P (dC, dI) vwCl [(h_a0, .inr (8, [.int a0_primes, .ref q_a0_prime, w_a0_isNone, .int a0_hasSpan, .long a0_spanFrom, .int a0_spanMany, w_a0_least, w_a0_greatest, w_a0_isSquared, .int a0_hasPart, .long a0_parted, .int a0_partMany, w_a0_partPrime, w_a0_partPower, .int a0_rows, w_a0_row, .long a0_foundLeast, .long a0_foundGreatest, .int a0_foundSquare])), (q_a0_prime, .inl (cI, 9592, .inl a0_prime))] H := hP
                have hD : va_D A [(h_a0, .inr (8, [.int a0_primes, .ref q_a0_prime, w_a0_isNone, .int a0_hasSpan, .long a0_spanFrom, .int a0_spanMany, w_a0_least, w_a0_greatest, w_a0_isSquared, .int a0_hasPart, .long a0_parted, .int a0_partMany, w_a0_partPrime, w_a0_partPower, .int a0_rows, w_a0_row, .long a0_foundLeast, .long a0_foundGreatest, .int a0_foundSquare])), (q_a0_prime, .inl (cI, 9592, .inl a0_prime))] := hD
                refine lv_istore (lv' := [(6, .int r_18), (4, .long x4_17), (0, .ref h_a0), (3, .int p2)]) hx hb dX9_next_69 hl (by decide) rfl (fun ls hl => ?_)
                refine lv_goto (tgt := 19) hx hb dX9_next_71 (by decide) ?_
                exact ih_19_2 r_18 x4_17 (Nat.lt_of_lt_of_le h.2 (Nat.le_of_lt_succ hm_19_2)) h.1 _ _ _ (lv_sub hl [0, 1, 2, 3] rfl) (hP.sub [0, 1] rfl) (hD.sub [0, 1] (by decide) rfl) hS
              · replace h := h.2 c_16
                refine lv_ldc2 hx hb hown hw_1 dX9_next_53 ?_
                refine lv_goto (tgt := 60) hx hb dX9_next_56 (by decide) ?_
                refine lv_ladd hx hb dX9_next_60 ?_
                refine lv_topl (fun x4_19 e_x4_19 => ?_)
                replace h := h x4_19 e_x4_19
                refine lv_lstore (lv' := [(4, .long x4_19), (6, .int l6_19_2), (0, .ref h_a0), (3, .int p2)]) hx hb dX9_next_61 hl (by decide) rfl (fun ls hl => ?_)
                refine lv_aload_n hx hb dX9_next_63 rfl (lv_at hl 2 rfl) ?_
                refine lv_lload hx hb dX9_next_64 (lv_at hl 0 rfl) ?_
                have hPc := hP.sub (ws' := [(h_a0, .inr (8, [.int a0_primes, .ref q_a0_prime, w_a0_isNone, .int a0_hasSpan, .long a0_spanFrom, .int a0_spanMany, w_a0_least, w_a0_greatest, w_a0_isSquared, .int a0_hasPart, .long a0_parted, .int a0_partMany, w_a0_partPrime, w_a0_partPower, .int a0_rows, w_a0_row, .long a0_foundLeast, .long a0_foundGreatest, .int a0_foundSquare])), (q_a0_prime, .inl (cI, 9592, .inl a0_prime))]) [0, 1] rfl
                have hDc := hD.sub (ws' := [(h_a0, .inr (8, [.int a0_primes, .ref q_a0_prime, w_a0_isNone, .int a0_hasSpan, .long a0_spanFrom, .int a0_spanMany, w_a0_least, w_a0_greatest, w_a0_isSquared, .int a0_hasPart, .long a0_parted, .int a0_partMany, w_a0_partPrime, w_a0_partPower, .int a0_rows, w_a0_row, .long a0_foundLeast, .long a0_foundGreatest, .int a0_foundSquare])), (q_a0_prime, .inl (cI, 9592, .inl a0_prime))]) [0, 1] (by decide) rfl
                have hFc := va_free (wc := [(h_a0, .inr (8, [.int a0_primes, .ref q_a0_prime, w_a0_isNone, .int a0_hasSpan, .long a0_spanFrom, .int a0_spanMany, w_a0_least, w_a0_greatest, w_a0_isSquared, .int a0_hasPart, .long a0_parted, .int a0_partMany, w_a0_partPrime, w_a0_partPower, .int a0_rows, w_a0_row, .long a0_foundLeast, .long a0_foundGreatest, .int a0_foundSquare])), (q_a0_prime, .inl (cI, 9592, .inl a0_prime))]) hD hS hA [0, 1] rfl
                refine va_calli (va_runV (As := [.long x4_19]) (rest := []) ⟨hx, hb, hml, hown, hts⟩ (c_X9_isPrime l dC dI cI cJ cZ _ h_a0 a0_primes a0_prime q_a0_prime (w_a0_isNone) a0_hasSpan a0_spanFrom a0_spanMany (w_a0_least) (w_a0_greatest) (w_a0_isSquared) a0_hasPart a0_parted a0_partMany (w_a0_partPrime) (w_a0_partPower) a0_rows (w_a0_row) a0_foundLeast a0_foundGreatest a0_foundSquare x4_19 _ h) (cwV 1 hts gX9_next_X9_isPrime rfl rfl rfl (by decide +kernel) ⟨Nat.le_of_ble_eq_true rfl, Nat.le_of_ble_eq_true rfl⟩) ⟨pre_fb, va_recv hK hPc (ci := 8) (q0 := 0) rfl rfl, pre_of hPc hDc hK hN⟩ rfl rfl hl.1 rfl (lv_room (Nat.le_of_ble_eq_true rfl)) dX9_next_66 ⟨by first | exact Nat.le_of_ble_eq_true rfl | exact Nat.le_refl _, by first | exact Nat.le_of_ble_eq_true rfl | exact Nat.le_refl _⟩) hS (fun q _ h => hFc q h) hFc (fun r_20 u t H1 locs ht hvm h hB hz1 hk1 hS => ?_)
                obtain ⟨hP1, hD1⟩ := hB
                rw [ht] at hP1
                try dsimp only at h
                obtain ⟨hP, hD⟩ := va_join (wr := []) (w1 := [(h_a0, .inr (8, [.int a0_primes, .ref q_a0_prime, w_a0_isNone, .int a0_hasSpan, .long a0_spanFrom, .int a0_spanMany, w_a0_least, w_a0_greatest, w_a0_isSquared, .int a0_hasPart, .long a0_parted, .int a0_partMany, w_a0_partPrime, w_a0_partPower, .int a0_rows, w_a0_row, .long a0_foundLeast, .long a0_foundGreatest, .int a0_foundSquare])), (q_a0_prime, .inl (cI, 9592, .inl a0_prime))]) hP hD [0, 1] [] rfl rfl (by decide) (by decide) hk1 hFc hP1 hD1
                generalize H1 = H at hP hS ⊢
                have hP : va_P (dC, dI) vwCl [(h_a0, .inr (8, [.int a0_primes, .ref q_a0_prime, w_a0_isNone, .int a0_hasSpan, .long a0_spanFrom, .int a0_spanMany, w_a0_least, w_a0_greatest, w_a0_isSquared, .int a0_hasPart, .long a0_parted, .int a0_partMany, w_a0_partPrime, w_a0_partPower, .int a0_rows, w_a0_row, .long a0_foundLeast, .long a0_foundGreatest, .int a0_foundSquare])), (q_a0_prime, .inl (cI, 9592, .inl a0_prime))] H := hP
                have hD : va_D A [(h_a0, .inr (8, [.int a0_primes, .ref q_a0_prime, w_a0_isNone, .int a0_hasSpan, .long a0_spanFrom, .int a0_spanMany, w_a0_least, w_a0_greatest, w_a0_isSquared, .int a0_hasPart, .long a0_parted, .int a0_partMany, w_a0_partPrime, w_a0_partPower, .int a0_rows, w_a0_row, .long a0_foundLeast, .long a0_foundGreatest, .int a0_foundSquare])), (q_a0_prime, .inl (cI, 9592, .inl a0_prime))] := hD
                refine lv_istore (lv' := [(6, .int r_20), (4, .long x4_19), (0, .ref h_a0), (3, .int p2)]) hx hb dX9_next_69 hl (by decide) rfl (fun ls hl => ?_)
                refine lv_goto (tgt := 19) hx hb dX9_next_71 (by decide) ?_
                exact ih_19_2 r_20 x4_19 (Nat.lt_of_lt_of_le h.2 (Nat.le_of_lt_succ hm_19_2)) h.1 _ _ _ (lv_sub hl [0, 1, 2, 3] rfl) (hP.sub [0, 1] rfl) (hD.sub [0, 1] (by decide) rfl) hS
    exact key_19_2 _ (0 : Int32) p1 (Nat.lt_succ_self _) h0_19_2 _ _ _ (lv_sub hl [0, 1, 2, 4] rfl) (hP.sub [0, 1] rfl) (hD.sub [0, 1] (by decide) rfl) hS
  · replace h := h.1 c_2
    refine lv_lconst (v := (0 : Int64)) hx hb dX9_next_11 (by decide) ?_
    have hP9 := hP.sub (ws' := [(h_a0, .inr (8, [.int a0_primes, .ref q_a0_prime, w_a0_isNone, .int a0_hasSpan, .long a0_spanFrom, .int a0_spanMany, w_a0_least, w_a0_greatest, w_a0_isSquared, .int a0_hasPart, .long a0_parted, .int a0_partMany, w_a0_partPrime, w_a0_partPower, .int a0_rows, w_a0_row, .long a0_foundLeast, .long a0_foundGreatest, .int a0_foundSquare])), (q_a0_prime, .inl (cI, 9592, .inl a0_prime))]) [0, 1] rfl
    have hD9 := hD.sub (ws' := [(h_a0, .inr (8, [.int a0_primes, .ref q_a0_prime, w_a0_isNone, .int a0_hasSpan, .long a0_spanFrom, .int a0_spanMany, w_a0_least, w_a0_greatest, w_a0_isSquared, .int a0_hasPart, .long a0_parted, .int a0_partMany, w_a0_partPrime, w_a0_partPower, .int a0_rows, w_a0_row, .long a0_foundLeast, .long a0_foundGreatest, .int a0_foundSquare])), (q_a0_prime, .inl (cI, 9592, .inl a0_prime))]) [0, 1] (by decide) rfl
    exact W.lret (v := (0 : Int64)) hx hb hr (fun t ht hW => ⟨⟨_, (), rfl, h, by rw [ht]; exact hP9, hD9⟩, hS.F ht⟩) hS.2.2 dX9_next_12
def wp_X9_part (a0_primes : Int32) (a0_prime : Nat → Int32) (a0_hasPart : Int32) (a0_parted : Int64) (a0_partMany : Int32) (a0_partPrime : Nat → Int64) (a0_partPower : Nat → Int32) (a0_foundLeast : Int64) (a0_foundGreatest : Int64) (a0_foundSquare : Int32) (p1 : Int64) (Q : Int32 → Int32 → Int64 → Int32 → Int64 → Int64 → Int32 → (Nat → Int64) → (Nat → Int32) → Prop) : Prop :=
  wp_X9_in p1 (1 : Int64) (10000000000 : Int64) (fun r_1 => ((r_1 = (0 : Int32) → Q (-1 : Int32) a0_hasPart a0_parted a0_partMany a0_foundLeast a0_foundGreatest a0_foundSquare a0_partPrime a0_partPower) ∧ (¬ r_1 = (0 : Int32) → wp_X9_parts a0_primes a0_prime a0_partMany a0_partPrime a0_partPower a0_foundLeast a0_foundGreatest a0_foundSquare p1 (1 : Int32) (fun o_3 o_4 o_5 o_6 o_7 o_8 => Q o_3 (1 : Int32) p1 o_3 o_4 o_5 o_6 o_7 o_8))))
abbrev rm_X9_part : Room := { frames := 1, cells := 0, slots := 0, locals := 28 }
abbrev qc_X9_part (dC : Nat → ClassId) (dI : Nat → Nat → Nat) (cI cJ cZ : ClassId) (h_a0 : Nat) (a0_primes : Int32) (a0_prime : Nat → Int32) (q_a0_prime : Nat) (w_a0_isNone : Value) (a0_hasSpan : Int32) (a0_spanFrom : Int64) (a0_spanMany : Int32) (w_a0_least : Value) (w_a0_greatest : Value) (w_a0_isSquared : Value) (a0_hasPart : Int32) (a0_parted : Int64) (a0_partMany : Int32) (a0_partPrime : Nat → Int64) (q_a0_partPrime : Nat) (a0_partPower : Nat → Int32) (q_a0_partPower : Nat) (a0_rows : Int32) (w_a0_row : Value) (a0_foundLeast : Int64) (a0_foundGreatest : Int64) (a0_foundSquare : Int32) (Q : Int32 → Int32 → Int64 → Int32 → Int64 → Int64 → Int32 → (Nat → Int64) → (Nat → Int32) → Prop) (A : Nat → Prop) : Array Value → State → Outcome → State → Prop := va_Qi (fun (r : Int32) (u : Int32 × Int64 × Int32 × Int64 × Int64 × Int32 × (Nat → Int64) × (Nat → Int32)) => Q r u.1 u.2.1 u.2.2.1 u.2.2.2.1 u.2.2.2.2.1 u.2.2.2.2.2.1 u.2.2.2.2.2.2.1 u.2.2.2.2.2.2.2) (post_ dC dI A (fun (u : Int32 × Int64 × Int32 × Int64 × Int64 × Int32 × (Nat → Int64) × (Nat → Int32)) => [(h_a0, .inr (8, [.int a0_primes, .ref q_a0_prime, w_a0_isNone, .int a0_hasSpan, .long a0_spanFrom, .int a0_spanMany, w_a0_least, w_a0_greatest, w_a0_isSquared, .int u.1, .long u.2.1, .int u.2.2.1, .ref q_a0_partPrime, .ref q_a0_partPower, .int a0_rows, w_a0_row, .long u.2.2.2.1, .long u.2.2.2.2.1, .int u.2.2.2.2.2.1])), (q_a0_prime, .inl (cI, 9592, .inl a0_prime)), (q_a0_partPrime, .inl (cJ, 16, .inr (.inl (u.2.2.2.2.2.2.1)))), (q_a0_partPower, .inl (cI, 16, .inl (u.2.2.2.2.2.2.2)))])) A
set_option maxHeartbeats 4000000 in
set_option maxRecDepth 100000 in
theorem c_X9_part (l : Launch) (dC : Nat → ClassId) (dI : Nat → Nat → Nat) (cI cJ cZ : ClassId) (sz : Nat) (h_a0 : Nat) (a0_primes : Int32) (a0_prime : Nat → Int32) (q_a0_prime : Nat) (w_a0_isNone : Value) (a0_hasSpan : Int32) (a0_spanFrom : Int64) (a0_spanMany : Int32) (w_a0_least : Value) (w_a0_greatest : Value) (w_a0_isSquared : Value) (a0_hasPart : Int32) (a0_parted : Int64) (a0_partMany : Int32) (a0_partPrime : Nat → Int64) (q_a0_partPrime : Nat) (a0_partPower : Nat → Int32) (q_a0_partPower : Nat) (a0_rows : Int32) (w_a0_row : Value) (a0_foundLeast : Int64) (a0_foundGreatest : Int64) (a0_foundSquare : Int32) (p1 : Int64) (Q : Int32 → Int32 → Int64 → Int32 → Int64 → Int64 → Int32 → (Nat → Int64) → (Nat → Int32) → Prop) (hQ : wp_X9_part a0_primes a0_prime a0_hasPart a0_parted a0_partMany a0_partPrime a0_partPower a0_foundLeast a0_foundGreatest a0_foundSquare p1 Q) : Met l yX9_part wsX9_part rm_X9_part (pre_ dC dI cI cJ cZ [.ref h_a0, .long p1] [(h_a0, .inr (8, [.int a0_primes, .ref q_a0_prime, w_a0_isNone, .int a0_hasSpan, .long a0_spanFrom, .int a0_spanMany, w_a0_least, w_a0_greatest, w_a0_isSquared, .int a0_hasPart, .long a0_parted, .int a0_partMany, .ref q_a0_partPrime, .ref q_a0_partPower, .int a0_rows, w_a0_row, .long a0_foundLeast, .long a0_foundGreatest, .int a0_foundSquare])), (q_a0_prime, .inl (cI, 9592, .inl a0_prime)), (q_a0_partPrime, .inl (cJ, 16, .inr (.inl a0_partPrime))), (q_a0_partPower, .inl (cI, 16, .inl a0_partPower))] sz) (qc_X9_part dC dI cI cJ cZ h_a0 a0_primes a0_prime q_a0_prime w_a0_isNone a0_hasSpan a0_spanFrom a0_spanMany w_a0_least w_a0_greatest w_a0_isSquared a0_hasPart a0_parted a0_partMany a0_partPrime q_a0_partPrime a0_partPower q_a0_partPower a0_rows w_a0_row a0_foundLeast a0_foundGreatest a0_foundSquare Q (va_A [(h_a0, .inr (8, [.int a0_primes, .ref q_a0_prime, w_a0_isNone, .int a0_hasSpan, .long a0_spanFrom, .int a0_spanMany, w_a0_least, w_a0_greatest, w_a0_isSquared, .int a0_hasPart, .long a0_parted, .int a0_partMany, .ref q_a0_partPrime, .ref q_a0_partPower, .int a0_rows, w_a0_row, .long a0_foundLeast, .long a0_foundGreatest, .int a0_foundSquare])), (q_a0_prime, .inl (cI, 9592, .inl a0_prime)), (q_a0_partPrime, .inl (cJ, 16, .inr (.inl a0_partPrime))), (q_a0_partPower, .inl (cI, 16, .inl a0_partPower))] sz)) 0 0 (va_A [(h_a0, .inr (8, [.int a0_primes, .ref q_a0_prime, w_a0_isNone, .int a0_hasSpan, .long a0_spanFrom, .int a0_spanMany, w_a0_least, w_a0_greatest, w_a0_isSquared, .int a0_hasPart, .long a0_parted, .int a0_partMany, .ref q_a0_partPrime, .ref q_a0_partPower, .int a0_rows, w_a0_row, .long a0_foundLeast, .long a0_foundGreatest, .int a0_foundSquare])), (q_a0_prime, .inl (cI, 9592, .inl a0_prime)), (q_a0_partPrime, .inl (cJ, 16, .inr (.inl a0_partPrime))), (q_a0_partPower, .inl (cI, 16, .inl a0_partPower))] sz) := by
  refine Met.ofW (cc := cX9_part) (maxL := 3) (ret := (some .int)) (by decide) rfl ?_
  intro p e s m args below meth c s₁ B hml hv
  obtain ⟨rfl, hsz, hP, hK, hN, hD0⟩ := hv
  have hx := B.exec
  have hb := B.bytes
  have hr := B.returns
  have hts := atoms_spec (ws := wsX9_part) B.pre
  have hown : s.vm.findClass RX9 = some m.cls := findClass_of_methodNamed B.named
  subst hsz
  have hD := hD0.self (sz := s.heap.size)
  generalize hAe : va_A [(h_a0, .inr (8, [.int a0_primes, .ref q_a0_prime, w_a0_isNone, .int a0_hasSpan, .long a0_spanFrom, .int a0_spanMany, w_a0_least, w_a0_greatest, w_a0_isSquared, .int a0_hasPart, .long a0_parted, .int a0_partMany, .ref q_a0_partPrime, .ref q_a0_partPower, .int a0_rows, w_a0_row, .long a0_foundLeast, .long a0_foundGreatest, .int a0_foundSquare])), (q_a0_prime, .inl (cI, 9592, .inl a0_prime)), (q_a0_partPrime, .inl (cJ, 16, .inr (.inl a0_partPrime))), (q_a0_partPower, .inl (cI, 16, .inl a0_partPower))] s.heap.size = A at hD ⊢
  have hA : ∀ q : Nat, s.heap.size ≤ q → A q := fun q h => by rw [← hAe]; exact Or.inr h
  have hS : va_S A s.heap s.heap [] := va_S.rf
  have hl := lv_entry ([.ref h_a0, .long p1]) (n := 3) (Nat.le_of_ble_eq_true rfl)
  rw [lg_entry_eq]
  generalize (lg_sl ([.ref h_a0, .long p1]) ++ List.replicate (3 - (lg_sl ([.ref h_a0, .long p1])).length) Slot.unset).toArray = ls at hl ⊢
  have hl : lv_has ls 3 [(0, .ref h_a0), (1, .long p1)] := hl
  have h := hQ
  unfold wp_X9_part at h
  have hw_0 := hts (.constantLong RX9 65 (10000000000)) (by decide +kernel)
  have hw_1 := hts (.fieldLink RX9 94 "NumberSievesModel" "hasPart" "Z") (by decide +kernel)
  have hin_X9 : ∀ w ∈ wsX90, w ∈ wsX9_part := by decide +kernel
  have hw_3 := hts (.fieldLink RX9 97 "NumberSievesModel" "parted" "J") (by decide +kernel)
  have hw_4 := hts (.fieldLink RX9 54 "NumberSievesModel" "partMany" "I") (by decide +kernel)
  refine lv_lload_n hx hb dX9_part_0 rfl (lv_at hl 1 rfl) ?_
  refine lv_lconst (v := (1 : Int64)) hx hb dX9_part_1 (by decide) ?_
  refine lv_ldc2 hx hb hown hw_0 dX9_part_2 ?_
  have hPc := hP.sub (ws' := []) [] rfl
  have hDc := hD.sub (ws' := []) [] (by decide) rfl
  have hFc := va_free (wc := []) hD hS hA [] rfl
  refine va_calli (va_runS (As := [.long p1, .long (1 : Int64), .long (10000000000 : Int64)]) (rest := []) ⟨hx, hb, hml, hown, hts⟩ (c_X9_in l dC dI cI cJ cZ _ p1 (1 : Int64) (10000000000 : Int64) _ h) (va_cwS 3 hts gX9_part_X9_in rfl rfl rfl (by decide +kernel) ⟨Nat.le_of_ble_eq_true rfl, Nat.le_of_ble_eq_true rfl⟩) ⟨pre_fb, pre_of hPc hDc hK hN⟩ rfl rfl hl.1 rfl (lv_room (Nat.le_of_ble_eq_true rfl)) dX9_part_5 ⟨by first | exact Nat.le_of_ble_eq_true rfl | exact Nat.le_refl _, by first | exact Nat.le_of_ble_eq_true rfl | exact Nat.le_refl _⟩) hS (fun q _ h => hFc q h) hFc (fun r_1 u t H1 locs ht hvm h hB hz1 hk1 hS => ?_)
  obtain ⟨hP1, hD1⟩ := hB
  rw [ht] at hP1
  try dsimp only at h
  obtain ⟨hP, hD⟩ := va_join (wr := [(h_a0, .inr (8, [.int a0_primes, .ref q_a0_prime, w_a0_isNone, .int a0_hasSpan, .long a0_spanFrom, .int a0_spanMany, w_a0_least, w_a0_greatest, w_a0_isSquared, .int a0_hasPart, .long a0_parted, .int a0_partMany, .ref q_a0_partPrime, .ref q_a0_partPower, .int a0_rows, w_a0_row, .long a0_foundLeast, .long a0_foundGreatest, .int a0_foundSquare])), (q_a0_prime, .inl (cI, 9592, .inl a0_prime)), (q_a0_partPrime, .inl (cJ, 16, .inr (.inl a0_partPrime))), (q_a0_partPower, .inl (cI, 16, .inl a0_partPower))]) (w1 := []) hP hD [] [0, 1, 2, 3] rfl rfl (by decide) (by decide) hk1 hFc hP1 hD1
  generalize H1 = H at hP hS ⊢
  have hP : va_P (dC, dI) vwCl [(h_a0, .inr (8, [.int a0_primes, .ref q_a0_prime, w_a0_isNone, .int a0_hasSpan, .long a0_spanFrom, .int a0_spanMany, w_a0_least, w_a0_greatest, w_a0_isSquared, .int a0_hasPart, .long a0_parted, .int a0_partMany, .ref q_a0_partPrime, .ref q_a0_partPower, .int a0_rows, w_a0_row, .long a0_foundLeast, .long a0_foundGreatest, .int a0_foundSquare])), (q_a0_prime, .inl (cI, 9592, .inl a0_prime)), (q_a0_partPrime, .inl (cJ, 16, .inr (.inl a0_partPrime))), (q_a0_partPower, .inl (cI, 16, .inl a0_partPower))] H := hP
  have hD : va_D A [(h_a0, .inr (8, [.int a0_primes, .ref q_a0_prime, w_a0_isNone, .int a0_hasSpan, .long a0_spanFrom, .int a0_spanMany, w_a0_least, w_a0_greatest, w_a0_isSquared, .int a0_hasPart, .long a0_parted, .int a0_partMany, .ref q_a0_partPrime, .ref q_a0_partPower, .int a0_rows, w_a0_row, .long a0_foundLeast, .long a0_foundGreatest, .int a0_foundSquare])), (q_a0_prime, .inl (cI, 9592, .inl a0_prime)), (q_a0_partPrime, .inl (cJ, 16, .inr (.inl a0_partPrime))), (q_a0_partPower, .inl (cI, 16, .inl a0_partPower))] := hD
  refine lv_if_ne (tgt := 13) hx hb dX9_part_8 (by decide) (fun c_2 => ?_) (fun c_2 => ?_)
  · replace h := h.2 c_2
    refine lv_aload_n hx hb dX9_part_13 rfl (lv_at hl 0 rfl) ?_
    refine lv_iconst (v := (1 : Int32)) hx hb dX9_part_14 (by decide) ?_
    refine va_put (D := (dC, dI)) (ci := 8) (v := .int (1 : Int32)) (ty := .boolean) (C := RX9) (T := TX9) (N := 19) hx hb hts hin_X9 tyX9 tyX9_ok nmX9 hown hK hP hD hS 0 rfl rfl 9 (by decide) hw_1 (fun _ h9 => h9) rfl (by decide +kernel) rfl rfl (Nat.le_of_ble_eq_true rfl) dX9_part_15 (fun H locs hP hD hS => ?_)
    have hP : va_P (dC, dI) vwCl [(h_a0, .inr (8, [.int a0_primes, .ref q_a0_prime, w_a0_isNone, .int a0_hasSpan, .long a0_spanFrom, .int a0_spanMany, w_a0_least, w_a0_greatest, w_a0_isSquared, .int (1 : Int32), .long a0_parted, .int a0_partMany, .ref q_a0_partPrime, .ref q_a0_partPower, .int a0_rows, w_a0_row, .long a0_foundLeast, .long a0_foundGreatest, .int a0_foundSquare])), (q_a0_prime, .inl (cI, 9592, .inl a0_prime)), (q_a0_partPrime, .inl (cJ, 16, .inr (.inl a0_partPrime))), (q_a0_partPower, .inl (cI, 16, .inl a0_partPower))] H := hP
    have hD : va_D A [(h_a0, .inr (8, [.int a0_primes, .ref q_a0_prime, w_a0_isNone, .int a0_hasSpan, .long a0_spanFrom, .int a0_spanMany, w_a0_least, w_a0_greatest, w_a0_isSquared, .int (1 : Int32), .long a0_parted, .int a0_partMany, .ref q_a0_partPrime, .ref q_a0_partPower, .int a0_rows, w_a0_row, .long a0_foundLeast, .long a0_foundGreatest, .int a0_foundSquare])), (q_a0_prime, .inl (cI, 9592, .inl a0_prime)), (q_a0_partPrime, .inl (cJ, 16, .inr (.inl a0_partPrime))), (q_a0_partPower, .inl (cI, 16, .inl a0_partPower))] := hD
    refine lv_aload_n hx hb dX9_part_18 rfl (lv_at hl 0 rfl) ?_
    refine lv_lload_n hx hb dX9_part_19 rfl (lv_at hl 1 rfl) ?_
    refine va_put (D := (dC, dI)) (ci := 8) (v := .long p1) (ty := .long) (C := RX9) (T := TX9) (N := 19) hx hb hts hin_X9 tyX9 tyX9_ok nmX9 hown hK hP hD hS 0 rfl rfl 10 (by decide) hw_3 (fun _ h9 => h9) rfl (by decide +kernel) rfl rfl (Nat.le_of_ble_eq_true rfl) dX9_part_20 (fun H locs hP hD hS => ?_)
    have hP : va_P (dC, dI) vwCl [(h_a0, .inr (8, [.int a0_primes, .ref q_a0_prime, w_a0_isNone, .int a0_hasSpan, .long a0_spanFrom, .int a0_spanMany, w_a0_least, w_a0_greatest, w_a0_isSquared, .int (1 : Int32), .long p1, .int a0_partMany, .ref q_a0_partPrime, .ref q_a0_partPower, .int a0_rows, w_a0_row, .long a0_foundLeast, .long a0_foundGreatest, .int a0_foundSquare])), (q_a0_prime, .inl (cI, 9592, .inl a0_prime)), (q_a0_partPrime, .inl (cJ, 16, .inr (.inl a0_partPrime))), (q_a0_partPower, .inl (cI, 16, .inl a0_partPower))] H := hP
    have hD : va_D A [(h_a0, .inr (8, [.int a0_primes, .ref q_a0_prime, w_a0_isNone, .int a0_hasSpan, .long a0_spanFrom, .int a0_spanMany, w_a0_least, w_a0_greatest, w_a0_isSquared, .int (1 : Int32), .long p1, .int a0_partMany, .ref q_a0_partPrime, .ref q_a0_partPower, .int a0_rows, w_a0_row, .long a0_foundLeast, .long a0_foundGreatest, .int a0_foundSquare])), (q_a0_prime, .inl (cI, 9592, .inl a0_prime)), (q_a0_partPrime, .inl (cJ, 16, .inr (.inl a0_partPrime))), (q_a0_partPower, .inl (cI, 16, .inl a0_partPower))] := hD
    refine lv_aload_n hx hb dX9_part_23 rfl (lv_at hl 0 rfl) ?_
    refine lv_lload_n hx hb dX9_part_24 rfl (lv_at hl 1 rfl) ?_
    refine lv_iconst (v := (1 : Int32)) hx hb dX9_part_25 (by decide) ?_
    have hPc := hP.sub (ws' := [(h_a0, .inr (8, [.int a0_primes, .ref q_a0_prime, w_a0_isNone, .int a0_hasSpan, .long a0_spanFrom, .int a0_spanMany, w_a0_least, w_a0_greatest, w_a0_isSquared, .int (1 : Int32), .long p1, .int a0_partMany, .ref q_a0_partPrime, .ref q_a0_partPower, .int a0_rows, w_a0_row, .long a0_foundLeast, .long a0_foundGreatest, .int a0_foundSquare])), (q_a0_prime, .inl (cI, 9592, .inl a0_prime)), (q_a0_partPrime, .inl (cJ, 16, .inr (.inl a0_partPrime))), (q_a0_partPower, .inl (cI, 16, .inl a0_partPower))]) [0, 1, 2, 3] rfl
    have hDc := hD.sub (ws' := [(h_a0, .inr (8, [.int a0_primes, .ref q_a0_prime, w_a0_isNone, .int a0_hasSpan, .long a0_spanFrom, .int a0_spanMany, w_a0_least, w_a0_greatest, w_a0_isSquared, .int (1 : Int32), .long p1, .int a0_partMany, .ref q_a0_partPrime, .ref q_a0_partPower, .int a0_rows, w_a0_row, .long a0_foundLeast, .long a0_foundGreatest, .int a0_foundSquare])), (q_a0_prime, .inl (cI, 9592, .inl a0_prime)), (q_a0_partPrime, .inl (cJ, 16, .inr (.inl a0_partPrime))), (q_a0_partPower, .inl (cI, 16, .inl a0_partPower))]) [0, 1, 2, 3] (by decide) rfl
    have hFc := va_free (wc := [(h_a0, .inr (8, [.int a0_primes, .ref q_a0_prime, w_a0_isNone, .int a0_hasSpan, .long a0_spanFrom, .int a0_spanMany, w_a0_least, w_a0_greatest, w_a0_isSquared, .int (1 : Int32), .long p1, .int a0_partMany, .ref q_a0_partPrime, .ref q_a0_partPower, .int a0_rows, w_a0_row, .long a0_foundLeast, .long a0_foundGreatest, .int a0_foundSquare])), (q_a0_prime, .inl (cI, 9592, .inl a0_prime)), (q_a0_partPrime, .inl (cJ, 16, .inr (.inl a0_partPrime))), (q_a0_partPower, .inl (cI, 16, .inl a0_partPower))]) hD hS hA [0, 1, 2, 3] rfl
    refine va_callv (va_runV (As := [.long p1, .int (1 : Int32)]) (rest := []) ⟨hx, hb, hml, hown, hts⟩ (c_X9_parts l dC dI cI cJ cZ _ h_a0 a0_primes a0_prime q_a0_prime (w_a0_isNone) a0_hasSpan a0_spanFrom a0_spanMany (w_a0_least) (w_a0_greatest) (w_a0_isSquared) (1 : Int32) p1 a0_partMany a0_partPrime q_a0_partPrime a0_partPower q_a0_partPower a0_rows (w_a0_row) a0_foundLeast a0_foundGreatest a0_foundSquare p1 (1 : Int32) _ h) (cwV 2 hts gX9_part_X9_parts rfl rfl rfl (by decide +kernel) ⟨Nat.le_of_ble_eq_true rfl, Nat.le_of_ble_eq_true rfl⟩) ⟨pre_fb, va_recv hK hPc (ci := 8) (q0 := 0) rfl rfl, pre_of hPc hDc hK hN⟩ rfl rfl hl.1 rfl (lv_room (Nat.le_of_ble_eq_true rfl)) dX9_part_26 ⟨by first | exact Nat.le_of_ble_eq_true rfl | exact Nat.le_refl _, by first | exact Nat.le_of_ble_eq_true rfl | exact Nat.le_refl _⟩) hS (fun q _ h => hFc q h) hFc (fun u t H1 locs ht hvm h hB hz1 hk1 hS => ?_)
    obtain ⟨o_3, o_4, o_5, o_6, o_7, o_8⟩ := u
    obtain ⟨hP1, hD1⟩ := hB
    rw [ht] at hP1
    try dsimp only at h
    obtain ⟨hP, hD⟩ := va_join (wr := []) (w1 := [(h_a0, .inr (8, [.int a0_primes, .ref q_a0_prime, w_a0_isNone, .int a0_hasSpan, .long a0_spanFrom, .int a0_spanMany, w_a0_least, w_a0_greatest, w_a0_isSquared, .int (1 : Int32), .long p1, .int o_3, .ref q_a0_partPrime, .ref q_a0_partPower, .int a0_rows, w_a0_row, .long o_4, .long o_5, .int o_6])), (q_a0_prime, .inl (cI, 9592, .inl a0_prime)), (q_a0_partPrime, .inl (cJ, 16, .inr (.inl o_7))), (q_a0_partPower, .inl (cI, 16, .inl o_8))]) hP hD [0, 1, 2, 3] [] rfl rfl (by decide) (by decide) hk1 hFc hP1 hD1
    generalize H1 = H at hP hS ⊢
    have hP : va_P (dC, dI) vwCl [(h_a0, .inr (8, [.int a0_primes, .ref q_a0_prime, w_a0_isNone, .int a0_hasSpan, .long a0_spanFrom, .int a0_spanMany, w_a0_least, w_a0_greatest, w_a0_isSquared, .int (1 : Int32), .long p1, .int o_3, .ref q_a0_partPrime, .ref q_a0_partPower, .int a0_rows, w_a0_row, .long o_4, .long o_5, .int o_6])), (q_a0_prime, .inl (cI, 9592, .inl a0_prime)), (q_a0_partPrime, .inl (cJ, 16, .inr (.inl o_7))), (q_a0_partPower, .inl (cI, 16, .inl o_8))] H := hP
    have hD : va_D A [(h_a0, .inr (8, [.int a0_primes, .ref q_a0_prime, w_a0_isNone, .int a0_hasSpan, .long a0_spanFrom, .int a0_spanMany, w_a0_least, w_a0_greatest, w_a0_isSquared, .int (1 : Int32), .long p1, .int o_3, .ref q_a0_partPrime, .ref q_a0_partPower, .int a0_rows, w_a0_row, .long o_4, .long o_5, .int o_6])), (q_a0_prime, .inl (cI, 9592, .inl a0_prime)), (q_a0_partPrime, .inl (cJ, 16, .inr (.inl o_7))), (q_a0_partPower, .inl (cI, 16, .inl o_8))] := hD
    refine lv_aload_n hx hb dX9_part_29 rfl (lv_at hl 0 rfl) ?_
    refine va_get (D := (dC, dI)) (ci := 8) (v := .int o_3) (C := RX9) (T := TX9) (N := 19) hx hb hts hin_X9 hown hK hP 0 rfl rfl 11 (by decide) hw_4 (fun _ h9 => h9) rfl dX9_part_30 ?_
    have hP9 := hP.sub (ws' := [(h_a0, .inr (8, [.int a0_primes, .ref q_a0_prime, w_a0_isNone, .int a0_hasSpan, .long a0_spanFrom, .int a0_spanMany, w_a0_least, w_a0_greatest, w_a0_isSquared, .int (1 : Int32), .long p1, .int o_3, .ref q_a0_partPrime, .ref q_a0_partPower, .int a0_rows, w_a0_row, .long o_4, .long o_5, .int o_6])), (q_a0_prime, .inl (cI, 9592, .inl a0_prime)), (q_a0_partPrime, .inl (cJ, 16, .inr (.inl o_7))), (q_a0_partPower, .inl (cI, 16, .inl o_8))]) [0, 1, 2, 3] rfl
    have hD9 := hD.sub (ws' := [(h_a0, .inr (8, [.int a0_primes, .ref q_a0_prime, w_a0_isNone, .int a0_hasSpan, .long a0_spanFrom, .int a0_spanMany, w_a0_least, w_a0_greatest, w_a0_isSquared, .int (1 : Int32), .long p1, .int o_3, .ref q_a0_partPrime, .ref q_a0_partPower, .int a0_rows, w_a0_row, .long o_4, .long o_5, .int o_6])), (q_a0_prime, .inl (cI, 9592, .inl a0_prime)), (q_a0_partPrime, .inl (cJ, 16, .inr (.inl o_7))), (q_a0_partPower, .inl (cI, 16, .inl o_8))]) [0, 1, 2, 3] (by decide) rfl
    exact W.iret (v := o_3) hx hb hr (fun t ht hW => ⟨⟨_, ((1 : Int32), p1, o_3, o_4, o_5, o_6, o_7, o_8), rfl, h, by rw [ht]; exact hP9, hD9⟩, hS.F ht⟩) hS.2.2 dX9_part_33
  · replace h := h.1 c_2
    refine lv_iconst (v := (-1 : Int32)) hx hb dX9_part_11 (by decide) ?_
    have hP9 := hP.sub (ws' := [(h_a0, .inr (8, [.int a0_primes, .ref q_a0_prime, w_a0_isNone, .int a0_hasSpan, .long a0_spanFrom, .int a0_spanMany, w_a0_least, w_a0_greatest, w_a0_isSquared, .int a0_hasPart, .long a0_parted, .int a0_partMany, .ref q_a0_partPrime, .ref q_a0_partPower, .int a0_rows, w_a0_row, .long a0_foundLeast, .long a0_foundGreatest, .int a0_foundSquare])), (q_a0_prime, .inl (cI, 9592, .inl a0_prime)), (q_a0_partPrime, .inl (cJ, 16, .inr (.inl a0_partPrime))), (q_a0_partPower, .inl (cI, 16, .inl a0_partPower))]) [0, 1, 2, 3] rfl
    have hD9 := hD.sub (ws' := [(h_a0, .inr (8, [.int a0_primes, .ref q_a0_prime, w_a0_isNone, .int a0_hasSpan, .long a0_spanFrom, .int a0_spanMany, w_a0_least, w_a0_greatest, w_a0_isSquared, .int a0_hasPart, .long a0_parted, .int a0_partMany, .ref q_a0_partPrime, .ref q_a0_partPower, .int a0_rows, w_a0_row, .long a0_foundLeast, .long a0_foundGreatest, .int a0_foundSquare])), (q_a0_prime, .inl (cI, 9592, .inl a0_prime)), (q_a0_partPrime, .inl (cJ, 16, .inr (.inl a0_partPrime))), (q_a0_partPower, .inl (cI, 16, .inl a0_partPower))]) [0, 1, 2, 3] (by decide) rfl
    exact W.iret (v := (-1 : Int32)) hx hb hr (fun t ht hW => ⟨⟨_, (a0_hasPart, a0_parted, a0_partMany, a0_foundLeast, a0_foundGreatest, a0_foundSquare, a0_partPrime, a0_partPower), rfl, h, by rw [ht]; exact hP9, hD9⟩, hS.F ht⟩) hS.2.2 dX9_part_12
def wp_X9_parts_ (a0_hasPart : Int32) (a0_partMany : Int32) (a0_partPrime : Nat → Int64) (a0_partPower : Nat → Int32) (p1 : Int32) (p2 : Int32) (Q : Int64 → Prop) : Prop :=
  ((a0_hasPart = (0 : Int32) → Q (0 : Int64)) ∧ (¬ a0_hasPart = (0 : Int32) → wp_X9_in (p1.toInt64) (0 : Int64) ((a0_partMany - (1 : Int32)).toInt64) (fun r_2 => ((r_2 = (0 : Int32) → Q (0 : Int64)) ∧ (¬ r_2 = (0 : Int32) → ((p2 = (0 : Int32) → (vp_in p1 16 ∧ Q (a0_partPrime p1.toNatClampNeg))) ∧ (¬ p2 = (0 : Int32) → ((p2 = (1 : Int32) → (vp_in p1 16 ∧ Q ((a0_partPower p1.toNatClampNeg).toInt64))) ∧ (¬ p2 = (1 : Int32) → Q (0 : Int64))))))))))
abbrev rm_X9_parts_ : Room := { frames := 1, cells := 0, slots := 0, locals := 25 }
abbrev qc_X9_parts_ (dC : Nat → ClassId) (dI : Nat → Nat → Nat) (cI cJ cZ : ClassId) (h_a0 : Nat) (a0_primes : Int32) (w_a0_prime : Value) (w_a0_isNone : Value) (a0_hasSpan : Int32) (a0_spanFrom : Int64) (a0_spanMany : Int32) (w_a0_least : Value) (w_a0_greatest : Value) (w_a0_isSquared : Value) (a0_hasPart : Int32) (a0_parted : Int64) (a0_partMany : Int32) (a0_partPrime : Nat → Int64) (q_a0_partPrime : Nat) (a0_partPower : Nat → Int32) (q_a0_partPower : Nat) (a0_rows : Int32) (w_a0_row : Value) (a0_foundLeast : Int64) (a0_foundGreatest : Int64) (a0_foundSquare : Int32) (Q : Int64 → Prop) (A : Nat → Prop) : Array Value → State → Outcome → State → Prop := va_Ql (fun (r : Int64) (_ : Unit) => Q r) (post_ dC dI A (fun (u : Unit) => [(h_a0, .inr (8, [.int a0_primes, w_a0_prime, w_a0_isNone, .int a0_hasSpan, .long a0_spanFrom, .int a0_spanMany, w_a0_least, w_a0_greatest, w_a0_isSquared, .int a0_hasPart, .long a0_parted, .int a0_partMany, .ref q_a0_partPrime, .ref q_a0_partPower, .int a0_rows, w_a0_row, .long a0_foundLeast, .long a0_foundGreatest, .int a0_foundSquare])), (q_a0_partPrime, .inl (cJ, 16, .inr (.inl a0_partPrime))), (q_a0_partPower, .inl (cI, 16, .inl a0_partPower))])) A
set_option maxHeartbeats 4000000 in
set_option maxRecDepth 100000 in
theorem c_X9_parts_ (l : Launch) (dC : Nat → ClassId) (dI : Nat → Nat → Nat) (cI cJ cZ : ClassId) (sz : Nat) (h_a0 : Nat) (a0_primes : Int32) (w_a0_prime : Value) (w_a0_isNone : Value) (a0_hasSpan : Int32) (a0_spanFrom : Int64) (a0_spanMany : Int32) (w_a0_least : Value) (w_a0_greatest : Value) (w_a0_isSquared : Value) (a0_hasPart : Int32) (a0_parted : Int64) (a0_partMany : Int32) (a0_partPrime : Nat → Int64) (q_a0_partPrime : Nat) (a0_partPower : Nat → Int32) (q_a0_partPower : Nat) (a0_rows : Int32) (w_a0_row : Value) (a0_foundLeast : Int64) (a0_foundGreatest : Int64) (a0_foundSquare : Int32) (p1 : Int32) (p2 : Int32) (Q : Int64 → Prop) (hQ : wp_X9_parts_ a0_hasPart a0_partMany a0_partPrime a0_partPower p1 p2 Q) : Met l yX9_parts_ wsX9_parts_ rm_X9_parts_ (pre_ dC dI cI cJ cZ [.ref h_a0, .int p1, .int p2] [(h_a0, .inr (8, [.int a0_primes, w_a0_prime, w_a0_isNone, .int a0_hasSpan, .long a0_spanFrom, .int a0_spanMany, w_a0_least, w_a0_greatest, w_a0_isSquared, .int a0_hasPart, .long a0_parted, .int a0_partMany, .ref q_a0_partPrime, .ref q_a0_partPower, .int a0_rows, w_a0_row, .long a0_foundLeast, .long a0_foundGreatest, .int a0_foundSquare])), (q_a0_partPrime, .inl (cJ, 16, .inr (.inl a0_partPrime))), (q_a0_partPower, .inl (cI, 16, .inl a0_partPower))] sz) (qc_X9_parts_ dC dI cI cJ cZ h_a0 a0_primes w_a0_prime w_a0_isNone a0_hasSpan a0_spanFrom a0_spanMany w_a0_least w_a0_greatest w_a0_isSquared a0_hasPart a0_parted a0_partMany a0_partPrime q_a0_partPrime a0_partPower q_a0_partPower a0_rows w_a0_row a0_foundLeast a0_foundGreatest a0_foundSquare Q (va_A [(h_a0, .inr (8, [.int a0_primes, w_a0_prime, w_a0_isNone, .int a0_hasSpan, .long a0_spanFrom, .int a0_spanMany, w_a0_least, w_a0_greatest, w_a0_isSquared, .int a0_hasPart, .long a0_parted, .int a0_partMany, .ref q_a0_partPrime, .ref q_a0_partPower, .int a0_rows, w_a0_row, .long a0_foundLeast, .long a0_foundGreatest, .int a0_foundSquare])), (q_a0_partPrime, .inl (cJ, 16, .inr (.inl a0_partPrime))), (q_a0_partPower, .inl (cI, 16, .inl a0_partPower))] sz)) 0 0 (va_A [(h_a0, .inr (8, [.int a0_primes, w_a0_prime, w_a0_isNone, .int a0_hasSpan, .long a0_spanFrom, .int a0_spanMany, w_a0_least, w_a0_greatest, w_a0_isSquared, .int a0_hasPart, .long a0_parted, .int a0_partMany, .ref q_a0_partPrime, .ref q_a0_partPower, .int a0_rows, w_a0_row, .long a0_foundLeast, .long a0_foundGreatest, .int a0_foundSquare])), (q_a0_partPrime, .inl (cJ, 16, .inr (.inl a0_partPrime))), (q_a0_partPower, .inl (cI, 16, .inl a0_partPower))] sz) := by
  refine Met.ofW (cc := cX9_parts_) (maxL := 3) (ret := (some .long)) (by decide) rfl ?_
  intro p e s m args below meth c s₁ B hml hv
  obtain ⟨rfl, hsz, hP, hK, hN, hD0⟩ := hv
  have hx := B.exec
  have hb := B.bytes
  have hr := B.returns
  have hts := atoms_spec (ws := wsX9_parts_) B.pre
  have hown : s.vm.findClass RX9 = some m.cls := findClass_of_methodNamed B.named
  subst hsz
  have hD := hD0.self (sz := s.heap.size)
  generalize hAe : va_A [(h_a0, .inr (8, [.int a0_primes, w_a0_prime, w_a0_isNone, .int a0_hasSpan, .long a0_spanFrom, .int a0_spanMany, w_a0_least, w_a0_greatest, w_a0_isSquared, .int a0_hasPart, .long a0_parted, .int a0_partMany, .ref q_a0_partPrime, .ref q_a0_partPower, .int a0_rows, w_a0_row, .long a0_foundLeast, .long a0_foundGreatest, .int a0_foundSquare])), (q_a0_partPrime, .inl (cJ, 16, .inr (.inl a0_partPrime))), (q_a0_partPower, .inl (cI, 16, .inl a0_partPower))] s.heap.size = A at hD ⊢
  have hA : ∀ q : Nat, s.heap.size ≤ q → A q := fun q h => by rw [← hAe]; exact Or.inr h
  have hS : va_S A s.heap s.heap [] := va_S.rf
  have hl := lv_entry ([.ref h_a0, .int p1, .int p2]) (n := 3) (Nat.le_of_ble_eq_true rfl)
  rw [lg_entry_eq]
  generalize (lg_sl ([.ref h_a0, .int p1, .int p2]) ++ List.replicate (3 - (lg_sl ([.ref h_a0, .int p1, .int p2])).length) Slot.unset).toArray = ls at hl ⊢
  have hl : lv_has ls 3 [(0, .ref h_a0), (1, .int p1), (2, .int p2)] := hl
  have h := hQ
  unfold wp_X9_parts_ at h
  have hw_0 := hts (.fieldLink RX9 94 "NumberSievesModel" "hasPart" "Z") (by decide +kernel)
  have hin_X9 : ∀ w ∈ wsX90, w ∈ wsX9_parts_ := by decide +kernel
  have hw_2 := hts (.fieldLink RX9 54 "NumberSievesModel" "partMany" "I") (by decide +kernel)
  have hw_3 := hts (.fieldLink RX9 31 "NumberSievesModel" "partPower" "[I") (by decide +kernel)
  have hw_4 := hts (.fieldLink RX9 28 "NumberSievesModel" "partPrime" "[J") (by decide +kernel)
  refine lv_aload_n hx hb dX9_parts__0 rfl (lv_at hl 0 rfl) ?_
  refine va_get (D := (dC, dI)) (ci := 8) (v := .int a0_hasPart) (C := RX9) (T := TX9) (N := 19) hx hb hts hin_X9 hown hK hP 0 rfl rfl 9 (by decide) hw_0 (fun _ h9 => h9) rfl dX9_parts__1 ?_
  refine lv_if_eq (tgt := 23) hx hb dX9_parts__4 (by decide) (fun c_1 => ?_) (fun c_1 => ?_)
  · replace h := h.1 c_1
    refine lv_lconst (v := (0 : Int64)) hx hb dX9_parts__23 (by decide) ?_
    have hP9 := hP.sub (ws' := [(h_a0, .inr (8, [.int a0_primes, w_a0_prime, w_a0_isNone, .int a0_hasSpan, .long a0_spanFrom, .int a0_spanMany, w_a0_least, w_a0_greatest, w_a0_isSquared, .int a0_hasPart, .long a0_parted, .int a0_partMany, .ref q_a0_partPrime, .ref q_a0_partPower, .int a0_rows, w_a0_row, .long a0_foundLeast, .long a0_foundGreatest, .int a0_foundSquare])), (q_a0_partPrime, .inl (cJ, 16, .inr (.inl a0_partPrime))), (q_a0_partPower, .inl (cI, 16, .inl a0_partPower))]) [0, 1, 2] rfl
    have hD9 := hD.sub (ws' := [(h_a0, .inr (8, [.int a0_primes, w_a0_prime, w_a0_isNone, .int a0_hasSpan, .long a0_spanFrom, .int a0_spanMany, w_a0_least, w_a0_greatest, w_a0_isSquared, .int a0_hasPart, .long a0_parted, .int a0_partMany, .ref q_a0_partPrime, .ref q_a0_partPower, .int a0_rows, w_a0_row, .long a0_foundLeast, .long a0_foundGreatest, .int a0_foundSquare])), (q_a0_partPrime, .inl (cJ, 16, .inr (.inl a0_partPrime))), (q_a0_partPower, .inl (cI, 16, .inl a0_partPower))]) [0, 1, 2] (by decide) rfl
    exact W.lret (v := (0 : Int64)) hx hb hr (fun t ht hW => ⟨⟨_, (), rfl, h, by rw [ht]; exact hP9, hD9⟩, hS.F ht⟩) hS.2.2 dX9_parts__24
  · replace h := h.2 c_1
    refine lv_iload_n hx hb dX9_parts__7 rfl (lv_at hl 1 rfl) ?_
    refine lv_i2l hx hb dX9_parts__8 rfl ?_
    refine lv_lconst (v := (0 : Int64)) hx hb dX9_parts__9 (by decide) ?_
    refine lv_aload_n hx hb dX9_parts__10 rfl (lv_at hl 0 rfl) ?_
    refine va_get (D := (dC, dI)) (ci := 8) (v := .int a0_partMany) (C := RX9) (T := TX9) (N := 19) hx hb hts hin_X9 hown hK hP 0 rfl rfl 11 (by decide) hw_2 (fun _ h9 => h9) rfl dX9_parts__11 ?_
    refine lv_iconst (v := (1 : Int32)) hx hb dX9_parts__14 (by decide) ?_
    refine lv_isub hx hb dX9_parts__15 ?_
    refine lv_i2l hx hb dX9_parts__16 rfl ?_
    have hPc := hP.sub (ws' := []) [] rfl
    have hDc := hD.sub (ws' := []) [] (by decide) rfl
    have hFc := va_free (wc := []) hD hS hA [] rfl
    refine va_calli (va_runS (As := [.long p1.toInt64, .long (0 : Int64), .long (a0_partMany - (1 : Int32)).toInt64]) (rest := []) ⟨hx, hb, hml, hown, hts⟩ (c_X9_in l dC dI cI cJ cZ _ (p1.toInt64) (0 : Int64) ((a0_partMany - (1 : Int32)).toInt64) _ h) (va_cwS 3 hts gX9_parts__X9_in rfl rfl rfl (by decide +kernel) ⟨Nat.le_of_ble_eq_true rfl, Nat.le_of_ble_eq_true rfl⟩) ⟨pre_fb, pre_of hPc hDc hK hN⟩ rfl rfl hl.1 rfl (lv_room (Nat.le_of_ble_eq_true rfl)) dX9_parts__17 ⟨by first | exact Nat.le_of_ble_eq_true rfl | exact Nat.le_refl _, by first | exact Nat.le_of_ble_eq_true rfl | exact Nat.le_refl _⟩) hS (fun q _ h => hFc q h) hFc (fun r_2 u t H1 locs ht hvm h hB hz1 hk1 hS => ?_)
    obtain ⟨hP1, hD1⟩ := hB
    rw [ht] at hP1
    try dsimp only at h
    obtain ⟨hP, hD⟩ := va_join (wr := [(h_a0, .inr (8, [.int a0_primes, w_a0_prime, w_a0_isNone, .int a0_hasSpan, .long a0_spanFrom, .int a0_spanMany, w_a0_least, w_a0_greatest, w_a0_isSquared, .int a0_hasPart, .long a0_parted, .int a0_partMany, .ref q_a0_partPrime, .ref q_a0_partPower, .int a0_rows, w_a0_row, .long a0_foundLeast, .long a0_foundGreatest, .int a0_foundSquare])), (q_a0_partPrime, .inl (cJ, 16, .inr (.inl a0_partPrime))), (q_a0_partPower, .inl (cI, 16, .inl a0_partPower))]) (w1 := []) hP hD [] [0, 1, 2] rfl rfl (by decide) (by decide) hk1 hFc hP1 hD1
    generalize H1 = H at hP hS ⊢
    have hP : va_P (dC, dI) vwCl [(h_a0, .inr (8, [.int a0_primes, w_a0_prime, w_a0_isNone, .int a0_hasSpan, .long a0_spanFrom, .int a0_spanMany, w_a0_least, w_a0_greatest, w_a0_isSquared, .int a0_hasPart, .long a0_parted, .int a0_partMany, .ref q_a0_partPrime, .ref q_a0_partPower, .int a0_rows, w_a0_row, .long a0_foundLeast, .long a0_foundGreatest, .int a0_foundSquare])), (q_a0_partPrime, .inl (cJ, 16, .inr (.inl a0_partPrime))), (q_a0_partPower, .inl (cI, 16, .inl a0_partPower))] H := hP
    have hD : va_D A [(h_a0, .inr (8, [.int a0_primes, w_a0_prime, w_a0_isNone, .int a0_hasSpan, .long a0_spanFrom, .int a0_spanMany, w_a0_least, w_a0_greatest, w_a0_isSquared, .int a0_hasPart, .long a0_parted, .int a0_partMany, .ref q_a0_partPrime, .ref q_a0_partPower, .int a0_rows, w_a0_row, .long a0_foundLeast, .long a0_foundGreatest, .int a0_foundSquare])), (q_a0_partPrime, .inl (cJ, 16, .inr (.inl a0_partPrime))), (q_a0_partPower, .inl (cI, 16, .inl a0_partPower))] := hD
    refine lv_if_ne (tgt := 25) hx hb dX9_parts__20 (by decide) (fun c_3 => ?_) (fun c_3 => ?_)
    · replace h := h.2 c_3
      refine lv_iload_n hx hb dX9_parts__25 rfl (lv_at hl 2 rfl) ?_
      refine lv_if_ne (tgt := 38) hx hb dX9_parts__26 (by decide) (fun c_4 => ?_) (fun c_4 => ?_)
      · replace h := h.2 c_4
        refine lv_iload_n hx hb dX9_parts__38 rfl (lv_at hl 2 rfl) ?_
        refine lv_iconst (v := (1 : Int32)) hx hb dX9_parts__39 (by decide) ?_
        refine lv_icmp_ne (tgt := 53) hx hb dX9_parts__40 (by decide) (fun c_5 => ?_) (fun c_5 => ?_)
        · replace h := h.2 c_5
          refine lv_lconst (v := (0 : Int64)) hx hb dX9_parts__53 (by decide) ?_
          have hP9 := hP.sub (ws' := [(h_a0, .inr (8, [.int a0_primes, w_a0_prime, w_a0_isNone, .int a0_hasSpan, .long a0_spanFrom, .int a0_spanMany, w_a0_least, w_a0_greatest, w_a0_isSquared, .int a0_hasPart, .long a0_parted, .int a0_partMany, .ref q_a0_partPrime, .ref q_a0_partPower, .int a0_rows, w_a0_row, .long a0_foundLeast, .long a0_foundGreatest, .int a0_foundSquare])), (q_a0_partPrime, .inl (cJ, 16, .inr (.inl a0_partPrime))), (q_a0_partPower, .inl (cI, 16, .inl a0_partPower))]) [0, 1, 2] rfl
          have hD9 := hD.sub (ws' := [(h_a0, .inr (8, [.int a0_primes, w_a0_prime, w_a0_isNone, .int a0_hasSpan, .long a0_spanFrom, .int a0_spanMany, w_a0_least, w_a0_greatest, w_a0_isSquared, .int a0_hasPart, .long a0_parted, .int a0_partMany, .ref q_a0_partPrime, .ref q_a0_partPower, .int a0_rows, w_a0_row, .long a0_foundLeast, .long a0_foundGreatest, .int a0_foundSquare])), (q_a0_partPrime, .inl (cJ, 16, .inr (.inl a0_partPrime))), (q_a0_partPower, .inl (cI, 16, .inl a0_partPower))]) [0, 1, 2] (by decide) rfl
          exact W.lret (v := (0 : Int64)) hx hb hr (fun t ht hW => ⟨⟨_, (), rfl, h, by rw [ht]; exact hP9, hD9⟩, hS.F ht⟩) hS.2.2 dX9_parts__54
        · replace h := h.1 c_5
          refine lv_aload_n hx hb dX9_parts__43 rfl (lv_at hl 0 rfl) ?_
          refine va_get (D := (dC, dI)) (ci := 8) (v := .ref q_a0_partPower) (C := RX9) (T := TX9) (N := 19) hx hb hts hin_X9 hown hK hP 0 rfl rfl 13 (by decide) hw_3 (fun _ h9 => h9) rfl dX9_parts__44 ?_
          refine lv_iload_n hx hb dX9_parts__47 rfl (lv_at hl 1 rfl) ?_
          obtain ⟨hin_6, h⟩ := h
          refine va_iald hx hb hK hP 2 0 rfl rfl hin_6 dX9_parts__48 ?_
          refine lv_i2l hx hb dX9_parts__49 rfl ?_
          refine lv_goto (tgt := 54) hx hb dX9_parts__50 (by decide) ?_
          have hP9 := hP.sub (ws' := [(h_a0, .inr (8, [.int a0_primes, w_a0_prime, w_a0_isNone, .int a0_hasSpan, .long a0_spanFrom, .int a0_spanMany, w_a0_least, w_a0_greatest, w_a0_isSquared, .int a0_hasPart, .long a0_parted, .int a0_partMany, .ref q_a0_partPrime, .ref q_a0_partPower, .int a0_rows, w_a0_row, .long a0_foundLeast, .long a0_foundGreatest, .int a0_foundSquare])), (q_a0_partPrime, .inl (cJ, 16, .inr (.inl a0_partPrime))), (q_a0_partPower, .inl (cI, 16, .inl a0_partPower))]) [0, 1, 2] rfl
          have hD9 := hD.sub (ws' := [(h_a0, .inr (8, [.int a0_primes, w_a0_prime, w_a0_isNone, .int a0_hasSpan, .long a0_spanFrom, .int a0_spanMany, w_a0_least, w_a0_greatest, w_a0_isSquared, .int a0_hasPart, .long a0_parted, .int a0_partMany, .ref q_a0_partPrime, .ref q_a0_partPower, .int a0_rows, w_a0_row, .long a0_foundLeast, .long a0_foundGreatest, .int a0_foundSquare])), (q_a0_partPrime, .inl (cJ, 16, .inr (.inl a0_partPrime))), (q_a0_partPower, .inl (cI, 16, .inl a0_partPower))]) [0, 1, 2] (by decide) rfl
          exact W.lret (v := (a0_partPower p1.toNatClampNeg).toInt64) hx hb hr (fun t ht hW => ⟨⟨_, (), rfl, h, by rw [ht]; exact hP9, hD9⟩, hS.F ht⟩) hS.2.2 dX9_parts__54
      · replace h := h.1 c_4
        refine lv_aload_n hx hb dX9_parts__29 rfl (lv_at hl 0 rfl) ?_
        refine va_get (D := (dC, dI)) (ci := 8) (v := .ref q_a0_partPrime) (C := RX9) (T := TX9) (N := 19) hx hb hts hin_X9 hown hK hP 0 rfl rfl 12 (by decide) hw_4 (fun _ h9 => h9) rfl dX9_parts__30 ?_
        refine lv_iload_n hx hb dX9_parts__33 rfl (lv_at hl 1 rfl) ?_
        obtain ⟨hin_7, h⟩ := h
        refine va_lald hx hb hK hP 1 1 rfl rfl hin_7 dX9_parts__34 ?_
        refine lv_goto (tgt := 54) hx hb dX9_parts__35 (by decide) ?_
        have hP9 := hP.sub (ws' := [(h_a0, .inr (8, [.int a0_primes, w_a0_prime, w_a0_isNone, .int a0_hasSpan, .long a0_spanFrom, .int a0_spanMany, w_a0_least, w_a0_greatest, w_a0_isSquared, .int a0_hasPart, .long a0_parted, .int a0_partMany, .ref q_a0_partPrime, .ref q_a0_partPower, .int a0_rows, w_a0_row, .long a0_foundLeast, .long a0_foundGreatest, .int a0_foundSquare])), (q_a0_partPrime, .inl (cJ, 16, .inr (.inl a0_partPrime))), (q_a0_partPower, .inl (cI, 16, .inl a0_partPower))]) [0, 1, 2] rfl
        have hD9 := hD.sub (ws' := [(h_a0, .inr (8, [.int a0_primes, w_a0_prime, w_a0_isNone, .int a0_hasSpan, .long a0_spanFrom, .int a0_spanMany, w_a0_least, w_a0_greatest, w_a0_isSquared, .int a0_hasPart, .long a0_parted, .int a0_partMany, .ref q_a0_partPrime, .ref q_a0_partPower, .int a0_rows, w_a0_row, .long a0_foundLeast, .long a0_foundGreatest, .int a0_foundSquare])), (q_a0_partPrime, .inl (cJ, 16, .inr (.inl a0_partPrime))), (q_a0_partPower, .inl (cI, 16, .inl a0_partPower))]) [0, 1, 2] (by decide) rfl
        exact W.lret (v := (a0_partPrime p1.toNatClampNeg)) hx hb hr (fun t ht hW => ⟨⟨_, (), rfl, h, by rw [ht]; exact hP9, hD9⟩, hS.F ht⟩) hS.2.2 dX9_parts__54
    · replace h := h.1 c_3
      refine lv_lconst (v := (0 : Int64)) hx hb dX9_parts__23 (by decide) ?_
      have hP9 := hP.sub (ws' := [(h_a0, .inr (8, [.int a0_primes, w_a0_prime, w_a0_isNone, .int a0_hasSpan, .long a0_spanFrom, .int a0_spanMany, w_a0_least, w_a0_greatest, w_a0_isSquared, .int a0_hasPart, .long a0_parted, .int a0_partMany, .ref q_a0_partPrime, .ref q_a0_partPower, .int a0_rows, w_a0_row, .long a0_foundLeast, .long a0_foundGreatest, .int a0_foundSquare])), (q_a0_partPrime, .inl (cJ, 16, .inr (.inl a0_partPrime))), (q_a0_partPower, .inl (cI, 16, .inl a0_partPower))]) [0, 1, 2] rfl
      have hD9 := hD.sub (ws' := [(h_a0, .inr (8, [.int a0_primes, w_a0_prime, w_a0_isNone, .int a0_hasSpan, .long a0_spanFrom, .int a0_spanMany, w_a0_least, w_a0_greatest, w_a0_isSquared, .int a0_hasPart, .long a0_parted, .int a0_partMany, .ref q_a0_partPrime, .ref q_a0_partPower, .int a0_rows, w_a0_row, .long a0_foundLeast, .long a0_foundGreatest, .int a0_foundSquare])), (q_a0_partPrime, .inl (cJ, 16, .inr (.inl a0_partPrime))), (q_a0_partPower, .inl (cI, 16, .inl a0_partPower))]) [0, 1, 2] (by decide) rfl
      exact W.lret (v := (0 : Int64)) hx hb hr (fun t ht hW => ⟨⟨_, (), rfl, h, by rw [ht]; exact hP9, hD9⟩, hS.F ht⟩) hS.2.2 dX9_parts__24

/-! worlds by their members; lists of cells up to their order; a contract over some cells is one over more -/
theorem P_mem {D : va_G} {cl : List vw_C} {ws : va_W} {H : Heap} : va_P D cl ws H ↔ ∀ q ∈ ws, va_at D cl q H := by
  constructor
  · intro h q hq
    obtain ⟨k, hk⟩ := List.getElem?_of_mem hq
    exact h k q hk
  · intro h k q hk
    exact h q (List.mem_of_getElem? hk)
theorem D_pw {A : Nat → Prop} {ws : va_W} : va_D A ws ↔ ws.Pairwise (fun p q => p.1 ≠ q.1) ∧ ∀ q ∈ ws, A q.1 := by
  constructor
  · intro h
    refine ⟨List.pairwise_iff_getElem.mpr (fun i j hi hj hij e => ?_), fun q hq => ?_⟩
    · have := h.1 i j ws[i] ws[j] (List.getElem?_eq_getElem hi) (List.getElem?_eq_getElem hj) e
      omega
    · obtain ⟨k, hk⟩ := List.getElem?_of_mem hq
      exact h.2 k q hk
  · rintro ⟨h1, h2⟩
    refine ⟨fun i j p q hi hj e => ?_, fun k q hk => h2 q (List.mem_of_getElem? hk)⟩
    obtain ⟨hi', rfl⟩ := List.getElem?_eq_some_iff.mp hi
    obtain ⟨hj', rfl⟩ := List.getElem?_eq_some_iff.mp hj
    rcases Nat.lt_trichotomy i j with h | h | h
    · exact absurd e (List.pairwise_iff_getElem.mp h1 i j hi' hj' h)
    · exact h
    · exact absurd e.symm (List.pairwise_iff_getElem.mp h1 j i hj' hi' h)
theorem A_mem {ws : va_W} {sz q : Nat} : va_A ws sz q ↔ (∃ e, (q, e) ∈ ws) ∨ sz ≤ q := by
  constructor
  · rintro (⟨k, e, h⟩ | h)
    · exact Or.inl ⟨e, List.mem_of_getElem? h⟩
    · exact Or.inr h
  · rintro (⟨e, h⟩ | h)
    · obtain ⟨k, hk⟩ := List.getElem?_of_mem h
      exact Or.inl ⟨k, e, hk⟩
    · exact Or.inr h
theorem P_perm {D : va_G} {cl : List vw_C} {ws ws' : va_W} {H : Heap} (hp : List.Perm ws ws') (h : va_P D cl ws H) : va_P D cl ws' H :=
  P_mem.mpr fun q hq => P_mem.mp h q (hp.mem_iff.mpr hq)
theorem D_perm {A : Nat → Prop} {ws ws' : va_W} (hp : List.Perm ws ws') (h : va_D A ws) : va_D A ws' := by
  obtain ⟨h1, h2⟩ := D_pw.mp h
  exact D_pw.mpr ⟨(hp.pairwise_iff (fun {x y} h => Ne.symm h)).mp h1, fun q hq => h2 q (hp.mem_iff.mpr hq)⟩
theorem P_left {D : va_G} {cl : List vw_C} {a b : va_W} {H : Heap} (h : va_P D cl (a ++ b) H) : va_P D cl a H :=
  P_mem.mpr fun q hq => P_mem.mp h q (List.mem_append_left _ hq)
theorem P_right {D : va_G} {cl : List vw_C} {a b : va_W} {H : Heap} (h : va_P D cl (a ++ b) H) : va_P D cl b H :=
  P_mem.mpr fun q hq => P_mem.mp h q (List.mem_append_right _ hq)
theorem D_left {A : Nat → Prop} {a b : va_W} (h : va_D A (a ++ b)) : va_D A a := by
  obtain ⟨h1, h2⟩ := D_pw.mp h
  exact D_pw.mpr ⟨(List.pairwise_append.mp h1).1, fun q hq => h2 q (List.mem_append_left _ hq)⟩
theorem D_right {A : Nat → Prop} {a b : va_W} (h : va_D A (a ++ b)) : va_D A b := by
  obtain ⟨h1, h2⟩ := D_pw.mp h
  exact D_pw.mpr ⟨(List.pairwise_append.mp h1).2.1, fun q hq => h2 q (List.mem_append_right _ hq)⟩
/-- the frame rule over two blocks of cells -/
theorem frame2 {D : va_G} {cl : List vw_C} {A0 : Nat → Prop} {wc wr w1 : va_W} {H H1 : Heap} (hP : va_P D cl (wc ++ wr) H) (hD : va_D A0 (wc ++ wr)) (hk : ∀ q : Nat, q < H.size → ¬ va_A wc H.size q → H1[q]? = H[q]?) (hF : ∀ q, va_A wc H.size q → A0 q) (hP1 : va_P D cl w1 H1) (hD1 : va_D (va_A wc H.size) w1) : va_P D cl (w1 ++ wr) H1 ∧ va_D A0 (w1 ++ wr) := by
  obtain ⟨h1, h2⟩ := D_pw.mp hD
  obtain ⟨d1, d2⟩ := D_pw.mp hD1
  obtain ⟨hA, hB, hC⟩ := List.pairwise_append.mp h1
  have hout : ∀ q ∈ wr, ¬ va_A wc H.size q.1 := by
    intro q hq ha
    rcases A_mem.mp ha with ⟨e, he⟩ | h
    · exact hC _ he _ hq rfl
    · have := (P_mem.mp hP q (List.mem_append_right _ hq)).lt
      omega
  constructor
  · refine P_mem.mpr fun q hq => ?_
    rcases List.mem_append.mp hq with h | h
    · exact P_mem.mp hP1 q h
    · have ha := P_mem.mp hP q (List.mem_append_right _ h)
      exact ha.kept (hk q.1 ha.lt (hout q h))
  · refine D_pw.mpr ⟨List.pairwise_append.mpr ⟨d1, hB, fun p hp q hq e => ?_⟩, fun q hq => ?_⟩
    · exact hout q hq (by rw [← e]; exact d2 p hp)
    · rcases List.mem_append.mp hq with h | h
      · exact hF _ (d2 q h)
      · exact h2 q (List.mem_append_right _ h)
theorem lift_core {dC : Nat → ClassId} {dI : Nat → Nat → Nat} {ws wc wr cu cT : va_W} {sz : Nat} {st t : State} (hp : List.Perm ws (wc ++ wr)) (hP : va_P (dC, dI) vwCl ws st.heap) (hD : va_D (fun _ => True) ws) (hsz : st.heap.size = sz) (hF : va_F (va_A wc sz) st t) (hP1 : va_P (dC, dI) vwCl cu t.heap) (hD1 : va_D (va_A wc sz) cu) (hc : List.Perm cT (cu ++ wr)) :
    (va_P (dC, dI) vwCl cT t.heap ∧ va_D (va_A ws sz) cT) ∧ va_F (va_A ws sz) st t := by
  subst hsz
  have hin : ∀ q, va_A wc st.heap.size q → va_A ws st.heap.size q := by
    intro q hq
    rcases A_mem.mp hq with ⟨e, he⟩ | h
    · exact A_mem.mpr (Or.inl ⟨e, hp.mem_iff.mpr (List.mem_append_left _ he)⟩)
    · exact A_mem.mpr (Or.inr h)
  have hD' : va_D (va_A ws st.heap.size) (wc ++ wr) := D_perm hp hD.self
  obtain ⟨a, b⟩ := frame2 (P_perm hp hP) hD' (fun q h1 h2 => hF.2 q h1 h2) hin hP1 hD1
  exact ⟨⟨P_perm hc.symm a, D_perm hc.symm b⟩, hF.1, fun q h1 h2 => hF.2 q h1 (fun h => h2 (hin q h))⟩
theorem lift_met {l : Launch} {y : MethodName} {W : List Cond} {rm : Room} {dC : Nat → ClassId} {dI : Nat → Nat → Nat} {cI cJ cZ : ClassId} {av : List Value} {ws wc wr : va_W} {sz mc ms : Nat} {Qc Qt : Array Value → State → Outcome → State → Prop} (hM : Met l y W rm (pre_ dC dI cI cJ cZ av wc sz) Qc mc ms (va_A wc sz)) (hp : List.Perm ws (wc ++ wr)) (hq : ∀ a st o t, va_P (dC, dI) vwCl ws st.heap → va_D (fun _ => True) ws → st.heap.size = sz → Qc a st o t → Qt a st o t) : Met l y W rm (pre_ dC dI cI cJ cZ av ws sz) Qt mc ms (va_A ws sz) := by
  intro p e h1 h2 h3 s m args below hf ha hP hK
  obtain ⟨q0, q1, qP, qK, qN, qD⟩ := hP
  obtain ⟨n, o, a1, a2, a3, b1, L, b2, b3⟩ := hM p e h1 h2 h3 s m args below hf ha ⟨q0, q1, P_left (P_perm hp qP), qK, qN, D_left (D_perm hp qD)⟩ hK
  refine ⟨n, o, a1, a2, a3, hq _ _ _ _ qP qD q1 b1, L, b2, fun q hq => ?_⟩
  rcases A_mem.mp (b3 q hq) with ⟨e, he⟩ | h
  · exact A_mem.mpr (Or.inl ⟨e, hp.mem_iff.mpr (List.mem_append_left _ he)⟩)
  · exact A_mem.mpr (Or.inr h)
theorem lift_i {S T : Type} {l : Launch} {y : MethodName} {W : List Cond} {rm : Room} {dC : Nat → ClassId} {dI : Nat → Nat → Nat} {cI cJ cZ : ClassId} {av : List Value} {ws wc wr : va_W} {sz mc ms : Nat} {post : Int32 → S → Prop} {cells : S → va_W} {postT : Int32 → T → Prop} {cellsT : T → va_W} (hM : Met l y W rm (pre_ dC dI cI cJ cZ av wc sz) (va_Qi post (post_ dC dI (va_A wc sz) cells) (va_A wc sz)) mc ms (va_A wc sz)) (wr0 : va_W) (hwr : wr = wr0) (hp : List.Perm ws (wc ++ wr)) (f : S → T) (hf : ∀ r u, post r u → postT r (f u)) (hc : ∀ u, List.Perm (cellsT (f u)) (cells u ++ wr)) : Met l y W rm (pre_ dC dI cI cJ cZ av ws sz) (va_Qi postT (post_ dC dI (va_A ws sz) cellsT) (va_A ws sz)) mc ms (va_A ws sz) := by
  refine lift_met hM hp (fun a st o t hP hD hs hQ => ?_)
  obtain ⟨⟨r, u, e1, e2, e3, e4⟩, e5⟩ := hQ
  obtain ⟨k1, k2⟩ := lift_core hp hP hD hs e5 e3 e4 (hc u)
  exact ⟨⟨r, f u, e1, hf r u e2, k1⟩, k2⟩
theorem lift_l {S T : Type} {l : Launch} {y : MethodName} {W : List Cond} {rm : Room} {dC : Nat → ClassId} {dI : Nat → Nat → Nat} {cI cJ cZ : ClassId} {av : List Value} {ws wc wr : va_W} {sz mc ms : Nat} {post : Int64 → S → Prop} {cells : S → va_W} {postT : Int64 → T → Prop} {cellsT : T → va_W} (hM : Met l y W rm (pre_ dC dI cI cJ cZ av wc sz) (va_Ql post (post_ dC dI (va_A wc sz) cells) (va_A wc sz)) mc ms (va_A wc sz)) (wr0 : va_W) (hwr : wr = wr0) (hp : List.Perm ws (wc ++ wr)) (f : S → T) (hf : ∀ r u, post r u → postT r (f u)) (hc : ∀ u, List.Perm (cellsT (f u)) (cells u ++ wr)) : Met l y W rm (pre_ dC dI cI cJ cZ av ws sz) (va_Ql postT (post_ dC dI (va_A ws sz) cellsT) (va_A ws sz)) mc ms (va_A ws sz) := by
  refine lift_met hM hp (fun a st o t hP hD hs hQ => ?_)
  obtain ⟨⟨r, u, e1, e2, e3, e4⟩, e5⟩ := hQ
  obtain ⟨k1, k2⟩ := lift_core hp hP hD hs e5 e3 e4 (hc u)
  exact ⟨⟨r, f u, e1, hf r u e2, k1⟩, k2⟩
theorem lift_v {S T : Type} {l : Launch} {y : MethodName} {W : List Cond} {rm : Room} {dC : Nat → ClassId} {dI : Nat → Nat → Nat} {cI cJ cZ : ClassId} {av : List Value} {ws wc wr : va_W} {sz mc ms : Nat} {post : S → Prop} {cells : S → va_W} {postT : T → Prop} {cellsT : T → va_W} (hM : Met l y W rm (pre_ dC dI cI cJ cZ av wc sz) (va_Qv post (post_ dC dI (va_A wc sz) cells) (va_A wc sz)) mc ms (va_A wc sz)) (wr0 : va_W) (hwr : wr = wr0) (hp : List.Perm ws (wc ++ wr)) (f : S → T) (hf : ∀ u, post u → postT (f u)) (hc : ∀ u, List.Perm (cellsT (f u)) (cells u ++ wr)) : Met l y W rm (pre_ dC dI cI cJ cZ av ws sz) (va_Qv postT (post_ dC dI (va_A ws sz) cellsT) (va_A ws sz)) mc ms (va_A ws sz) := by
  refine lift_met hM hp (fun a st o t hP hD hs hQ => ?_)
  obtain ⟨⟨u, e1, e2, e3, e4⟩, e5⟩ := hQ
  obtain ⟨k1, k2⟩ := lift_core hp hP hD hs e5 e3 e4 (hc u)
  exact ⟨⟨f u, e1, hf u e2, k1⟩, k2⟩
theorem blk_perm {a b : va_W} (h : ∀ (i : DecidableEq (Nat × va_E)) (q : Nat × va_E), @List.count _ (@instBEqOfDecidableEq _ i) q a = @List.count _ (@instBEqOfDecidableEq _ i) q b) : List.Perm a b := by
  have i : DecidableEq (Nat × va_E) := fun x y => Classical.propDecidable _
  exact List.perm_iff_count.mpr (fun q => h i q)

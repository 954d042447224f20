/-- the links to private fields of nest mates: they hold at the start, and stay -/
def nw_ (U : State) : Prop := va_Nw (.fieldLinkNest "NumberSieves" 43 "NumberSieves$Span" "many" "I" "NumberSieves") U ∧ va_Nw (.fieldLinkNest "NumberSieves" 26 "NumberSieves$Span" "primeCount" "I" "NumberSieves") U ∧ va_Nw (.fieldLinkNest "NumberSieves" 34 "NumberSieves$Span" "gap" "I" "NumberSieves") U ∧ va_Nw (.fieldLinkNest "NumberSieves" 37 "NumberSieves$Span" "twins" "I" "NumberSieves") U ∧ va_Nw (.fieldLinkNest "NumberSieves" 40 "NumberSieves$Span" "squareFree" "I" "NumberSieves") U ∧ va_Nw (.fieldLinkNest "NumberSieves$Parting" 25 "NumberSieves$Primes" "many" "I" "NumberSieves") U ∧ va_Nw (.fieldLinkNest "NumberSieves$Progression" 33 "NumberSieves$Primes" "many" "I" "NumberSieves") U ∧ va_Nw (.fieldLinkNest "NumberSieves$Span" 50 "NumberSieves$Primes" "many" "I" "NumberSieves") U ∧ va_Nw (.fieldLinkNest "NumberSieves" 88 "NumberSieves$Parting" "number" "J" "NumberSieves") U ∧ va_Nw (.fieldLinkNest "NumberSieves" 80 "NumberSieves$Parting" "many" "I" "NumberSieves") U ∧ va_Nw (.fieldLinkNest "NumberSieves" 175 "NumberSieves$Rows" "many" "I" "NumberSieves") U
theorem nw_moved {s U : State} (hW : s.WarmedH U.vm) (h : nw_ s) : nw_ U := ⟨va_Nw.warmF hW h.1, va_Nw.warmF hW h.2.1, va_Nw.warmF hW h.2.2.1, va_Nw.warmF hW h.2.2.2.1, va_Nw.warmF hW h.2.2.2.2.1, va_Nw.warmF hW h.2.2.2.2.2.1, va_Nw.warmF hW h.2.2.2.2.2.2.1, va_Nw.warmF hW h.2.2.2.2.2.2.2.1, va_Nw.warmF hW h.2.2.2.2.2.2.2.2.1, va_Nw.warmF hW h.2.2.2.2.2.2.2.2.2.1, va_Nw.warmF hW h.2.2.2.2.2.2.2.2.2.2⟩
theorem nw_call {U : State} {g : JFrame} {mk : MethodId} {a : Array Value} (h : nw_ U) : nw_ (U.calling g mk a) := ⟨va_Nw.same rfl rfl h.1, va_Nw.same rfl rfl h.2.1, va_Nw.same rfl rfl h.2.2.1, va_Nw.same rfl rfl h.2.2.2.1, va_Nw.same rfl rfl h.2.2.2.2.1, va_Nw.same rfl rfl h.2.2.2.2.2.1, va_Nw.same rfl rfl h.2.2.2.2.2.2.1, va_Nw.same rfl rfl h.2.2.2.2.2.2.2.1, va_Nw.same rfl rfl h.2.2.2.2.2.2.2.2.1, va_Nw.same rfl rfl h.2.2.2.2.2.2.2.2.2.1, va_Nw.same rfl rfl h.2.2.2.2.2.2.2.2.2.2⟩
theorem nw_0 {U : State} {A : Array Value} (h : nw_ U) : (Cond.fieldLinkNest "NumberSieves" 43 "NumberSieves$Span" "many" "I" "NumberSieves").before A U = true := va_Nw.use rfl h.1
theorem nw_1 {U : State} {A : Array Value} (h : nw_ U) : (Cond.fieldLinkNest "NumberSieves" 26 "NumberSieves$Span" "primeCount" "I" "NumberSieves").before A U = true := va_Nw.use rfl h.2.1
theorem nw_2 {U : State} {A : Array Value} (h : nw_ U) : (Cond.fieldLinkNest "NumberSieves" 34 "NumberSieves$Span" "gap" "I" "NumberSieves").before A U = true := va_Nw.use rfl h.2.2.1
theorem nw_3 {U : State} {A : Array Value} (h : nw_ U) : (Cond.fieldLinkNest "NumberSieves" 37 "NumberSieves$Span" "twins" "I" "NumberSieves").before A U = true := va_Nw.use rfl h.2.2.2.1
theorem nw_4 {U : State} {A : Array Value} (h : nw_ U) : (Cond.fieldLinkNest "NumberSieves" 40 "NumberSieves$Span" "squareFree" "I" "NumberSieves").before A U = true := va_Nw.use rfl h.2.2.2.2.1
theorem nw_5 {U : State} {A : Array Value} (h : nw_ U) : (Cond.fieldLinkNest "NumberSieves$Parting" 25 "NumberSieves$Primes" "many" "I" "NumberSieves").before A U = true := va_Nw.use rfl h.2.2.2.2.2.1
theorem nw_6 {U : State} {A : Array Value} (h : nw_ U) : (Cond.fieldLinkNest "NumberSieves$Progression" 33 "NumberSieves$Primes" "many" "I" "NumberSieves").before A U = true := va_Nw.use rfl h.2.2.2.2.2.2.1
theorem nw_7 {U : State} {A : Array Value} (h : nw_ U) : (Cond.fieldLinkNest "NumberSieves$Span" 50 "NumberSieves$Primes" "many" "I" "NumberSieves").before A U = true := va_Nw.use rfl h.2.2.2.2.2.2.2.1
theorem nw_8 {U : State} {A : Array Value} (h : nw_ U) : (Cond.fieldLinkNest "NumberSieves" 88 "NumberSieves$Parting" "number" "J" "NumberSieves").before A U = true := va_Nw.use rfl h.2.2.2.2.2.2.2.2.1
theorem nw_9 {U : State} {A : Array Value} (h : nw_ U) : (Cond.fieldLinkNest "NumberSieves" 80 "NumberSieves$Parting" "many" "I" "NumberSieves").before A U = true := va_Nw.use rfl h.2.2.2.2.2.2.2.2.2.1
theorem nw_10 {U : State} {A : Array Value} (h : nw_ U) : (Cond.fieldLinkNest "NumberSieves" 175 "NumberSieves$Rows" "many" "I" "NumberSieves").before A U = true := va_Nw.use rfl h.2.2.2.2.2.2.2.2.2.2

abbrev tys_ (cI cJ cZ : ClassId) : List (ClassId × FieldType) := [(cI, .int), (cJ, .long), (cZ, .boolean)]
/-- a contract's start: the cells, the tables, the nest links -/
def pre_ (dC : Nat → ClassId) (dI : Nat → Nat → Nat) (cI cJ cZ : ClassId) (av : List Value) (ws : va_W) (sz : Nat) : Array Value → State → Prop :=
  va_Pc av (fun U => U.heap.size = sz ∧ va_P (dC, dI) vwCl ws U.heap ∧ va_K (dC, dI) vwCl (tys_ cI cJ cZ) U ∧ nw_ U ∧ va_D (fun _ => True) ws)
theorem pre_fb {dC : Nat → ClassId} {dI : Nat → Nat → Nat} {cI cJ cZ : ClassId} {av : List Value} {ws : va_W} {sz : Nat} : FrameBlind (pre_ dC dI cI cJ cZ av ws sz) := by
  intro a U g mk q
  obtain ⟨q0, q1, qP, qK, qN, qD⟩ := q
  exact ⟨q0, q1, qP, va_K.moved (u := U) (U := U.calling g mk a) (Vm.Alike.refl U.vm) qK, nw_call qN, qD⟩
theorem pre_of {dC : Nat → ClassId} {dI : Nat → Nat → Nat} {cI cJ cZ : ClassId} {av : List Value} {ws : va_W} {s : State} {H : Heap} {A : Nat → Prop} (hP : va_P (dC, dI) vwCl ws H) (hD : va_D A ws) (hK : va_K (dC, dI) vwCl (tys_ cI cJ cZ) s) (hN : nw_ s) : ∀ U : State, U.heap = H → s.WarmedH U.vm → pre_ dC dI cI cJ cZ av ws H.size av.toArray U := by
  intro U hU hW
  exact ⟨rfl, by rw [hU], by rw [hU]; exact hP, va_K.moved hW.alike hK, nw_moved hW hN, hD.weaken (fun _ _ _ _ => trivial)⟩
/-- a contract's end: the cells behind it -/
def post_ {S : Type} (dC : Nat → ClassId) (dI : Nat → Nat → Nat) (A : Nat → Prop) (cells : S → va_W) : S → State → Prop := fun u t => va_P (dC, dI) vwCl (cells u) t.heap ∧ va_D A (cells u)
theorem cls_J {D : va_G} {cl : List vw_C} {cI cJ cZ cA : ClassId} {s : State} (h : va_K D cl (tys_ cI cJ cZ ++ [(cA, .long)]) s) : cA = cJ := by
  have h1 := va_nm_long (h.2 3 _ rfl).2
  have h2 := va_nm_long (h.2 1 _ rfl).2
  exact Option.some.inj (h1.symm.trans h2)
theorem cls_I {D : va_G} {cl : List vw_C} {cI cJ cZ cA : ClassId} {s : State} (h : va_K D cl (tys_ cI cJ cZ ++ [(cA, .int)]) s) : cA = cI := by
  have h1 := va_nm_int (h.2 3 _ rfl).2
  have h2 := va_nm_int (h.2 0 _ rfl).2
  exact Option.some.inj (h1.symm.trans h2)
theorem cls_Z {D : va_G} {cl : List vw_C} {cI cJ cZ cA : ClassId} {s : State} (h : va_K D cl (tys_ cI cJ cZ ++ [(cA, .boolean)]) s) : cA = cZ := by
  have h1 := va_nm_boolean (h.2 3 _ rfl).2
  have h2 := va_nm_boolean (h.2 2 _ rfl).2
  exact Option.some.inj (h1.symm.trans h2)
theorem lc_nge {x y : Int64} (h : ¬ 0 ≤ lg_cmp x y) : ¬ y ≤ x := fun q => h ((lg_cmp_ge x y).mpr q)
theorem lc_nle {x y : Int64} (h : ¬ lg_cmp x y ≤ 0) : ¬ x ≤ y := fun q => h ((lg_cmp_le x y).mpr q)
theorem lc_ngt {x y : Int64} (h : ¬ 0 < lg_cmp x y) : ¬ y < x := fun q => h ((lg_cmp_gt x y).mpr q)
theorem lc_nlt {x y : Int64} (h : ¬ lg_cmp x y < 0) : ¬ x < y := fun q => h ((lg_cmp_lt x y).mpr q)
theorem lc_neq {x y : Int64} (h : ¬ lg_cmp x y = 0) : ¬ x = y := fun q => h ((lg_cmp_eq x y).mpr q)


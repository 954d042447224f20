abbrev CP_ : Type := (Nat → Int32) × Int32
abbrev AP_ : Type := Nat × Nat
abbrev CS_ : Type := (Nat → Int64) × (Nat → Int64) × (Nat → Int64) × (Nat → Int64) × Int64 × Int32 × Int32 × Int32 × Int32 × Int32
abbrev AS_ : Type := Nat × Nat × Nat × Nat × Nat × Nat
abbrev CT_ : Type := (Nat → Int64) × (Nat → Int32) × Int64 × Int32
abbrev AT_ : Type := Nat × Nat × Nat
abbrev CU_ : Type := (Nat → Int64) × (Nat → Int64)
abbrev AU_ : Type := Nat × Nat × Nat
abbrev CG_ : Type := (Nat → Int64)
abbrev AG_ : Type := Nat × Nat × Nat
abbrev CR_ : Type := (Nat → Int64) × Int32
abbrev AR_ : Type := Nat × Nat
abbrev XS_ : Type := Option (AP_ × CP_) × Option (AS_ × CS_) × Option (AT_ × CT_) × Option (AU_ × CU_) × Option (AG_ × CG_) × Option (AR_ × CR_)
abbrev XC_ : Type := Option CP_ × Option CS_ × Option CT_ × Option CU_ × Option CG_ × Option CR_
def xc_ (X : XS_) : XC_ := (X.1.map Prod.snd, X.2.1.map Prod.snd, X.2.2.1.map Prod.snd, X.2.2.2.1.map Prod.snd, X.2.2.2.2.1.map Prod.snd, X.2.2.2.2.2.map Prod.snd)
def vP_ (o : Option (AP_ × CP_)) : Value := match o with | none => .null | some w => .ref w.1.1
def kP_ (cI cJ cZ : ClassId) (o : Option (AP_ × CP_)) : va_W := match o with | none => [] | some w => [(w.1.1, .inr (3, [.ref w.1.2, .int w.2.2])), (w.1.2, .inl (cI, 9592, .inl (w.2.1)))]
def vS_ (o : Option (AS_ × CS_)) : Value := match o with | none => .null | some w => .ref w.1.1
def kS_ (cI cJ cZ : ClassId) (o : Option (AS_ × CS_)) : va_W := match o with | none => [] | some w => [(w.1.1, .inr (6, [.ref w.1.2.1, .ref w.1.2.2.1, .ref w.1.2.2.2.1, .ref w.1.2.2.2.2.1, .long w.2.2.2.2.2.1, .int w.2.2.2.2.2.2.1, .int w.2.2.2.2.2.2.2.1, .int w.2.2.2.2.2.2.2.2.1, .int w.2.2.2.2.2.2.2.2.2.1, .int w.2.2.2.2.2.2.2.2.2.2])), (w.1.2.1, .inl (cJ, 5000, .inr (.inl (w.2.1)))), (w.1.2.2.1, .inl (cJ, 5000, .inr (.inl (w.2.2.1)))), (w.1.2.2.2.1, .inl (cJ, 5000, .inr (.inl (w.2.2.2.1)))), (w.1.2.2.2.2.1, .inr (0, [.ref w.1.2.2.2.2.2])), (w.1.2.2.2.2.2, .inl (cJ, 79, .inr (.inl (w.2.2.2.2.1))))]
def vT_ (o : Option (AT_ × CT_)) : Value := match o with | none => .null | some w => .ref w.1.1
def kT_ (cI cJ cZ : ClassId) (o : Option (AT_ × CT_)) : va_W := match o with | none => [] | some w => [(w.1.1, .inr (1, [.ref w.1.2.1, .ref w.1.2.2, .long w.2.2.2.1, .int w.2.2.2.2])), (w.1.2.1, .inl (cJ, 10, .inr (.inl (w.2.1)))), (w.1.2.2, .inl (cI, 10, .inl (w.2.2.1)))]
def vU_ (o : Option (AU_ × CU_)) : Value := match o with | none => .null | some w => .ref w.1.1
def kU_ (cI cJ cZ : ClassId) (o : Option (AU_ × CU_)) : va_W := match o with | none => [] | some w => [(w.1.1, .inr (2, [.ref w.1.2.1, .ref w.1.2.2])), (w.1.2.1, .inl (cJ, 1415, .inr (.inl (w.2.1)))), (w.1.2.2, .inl (cJ, 1415, .inr (.inl (w.2.2))))]
def vG_ (o : Option (AG_ × CG_)) : Value := match o with | none => .null | some w => .ref w.1.1
def kG_ (cI cJ cZ : ClassId) (o : Option (AG_ × CG_)) : va_W := match o with | none => [] | some w => [(w.1.1, .inr (4, [.ref w.1.2.1])), (w.1.2.1, .inr (0, [.ref w.1.2.2])), (w.1.2.2, .inl (cJ, 7813, .inr (.inl (w.2))))]
def vR_ (o : Option (AR_ × CR_)) : Value := match o with | none => .null | some w => .ref w.1.1
def kR_ (cI cJ cZ : ClassId) (o : Option (AR_ × CR_)) : va_W := match o with | none => [] | some w => [(w.1.1, .inr (5, [.ref w.1.2, .int w.2.2])), (w.1.2, .inl (cJ, 9600, .inr (.inl (w.2.1))))]
def xcells (cI cJ cZ : ClassId) (h0 : Nat) (X : XS_) : va_W := [(h0, .inr (7, [vP_ X.1, vS_ X.2.1, vT_ X.2.2.1, vU_ X.2.2.2.1, vG_ X.2.2.2.2.1, vR_ X.2.2.2.2.2]))] ++ (kP_ cI cJ cZ X.1 ++ (kS_ cI cJ cZ X.2.1 ++ (kT_ cI cJ cZ X.2.2.1 ++ (kU_ cI cJ cZ X.2.2.2.1 ++ (kG_ cI cJ cZ X.2.2.2.2.1 ++ (kR_ cI cJ cZ X.2.2.2.2.2))))))
def wpx_least (mc ms : Nat) (X : XC_) (p1 : Int32) (Q : Int64 → XC_ → Prop) : Prop :=
  match X.2.1 with
  | none => mc = 0 ∧ ms = 0 ∧ wp_X8_least_c0 p1 (fun r => Q r (X.1, none, X.2.2.1, X.2.2.2.1, X.2.2.2.2.1, X.2.2.2.2.2))
  | some (a0_sieved_leasts, a0_sieved_greatests, a0_sieved_rests, a0_sieved_squared_words, a0_sieved_from, a0_sieved_many, a0_sieved_primeCount, a0_sieved_gap, a0_sieved_twins, a0_sieved_squareFree) => mc = 0 ∧ ms = 0 ∧ wp_X8_least_c1 a0_sieved_leasts a0_sieved_many p1 (fun r => Q r (X.1, some (a0_sieved_leasts, a0_sieved_greatests, a0_sieved_rests, a0_sieved_squared_words, a0_sieved_from, a0_sieved_many, a0_sieved_primeCount, a0_sieved_gap, a0_sieved_twins, a0_sieved_squareFree), X.2.2.1, X.2.2.2.1, X.2.2.2.2.1, X.2.2.2.2.2))
abbrev rmx_least (mc ms : Nat) : Room := { frames := 1, cells := mc, slots := ms, locals := 21 }
set_option maxHeartbeats 4000000 in
set_option maxRecDepth 100000 in
theorem cx_least (l : Launch) (dC : Nat → ClassId) (dI : Nat → Nat → Nat) (cI cJ cZ : ClassId) (sz : Nat) (h0 mc ms : Nat) (X : XS_) (p1 : Int32) (Q : Int64 → XC_ → Prop) (hQ : wpx_least mc ms (xc_ X) p1 Q) : Met l yX8_least wsX8_least (rmx_least mc ms) (pre_ dC dI cI cJ cZ [.ref h0, .int p1] (xcells cI cJ cZ h0 X) sz) (va_Ql (fun (r : Int64) (X : XS_) => Q r (xc_ X)) (post_ dC dI (va_A (xcells cI cJ cZ h0 X) sz) (xcells cI cJ cZ h0)) (va_A (xcells cI cJ cZ h0 X) sz)) mc ms (va_A (xcells cI cJ cZ h0 X) sz) := by
  obtain ⟨oP, oS, oT, oU, oG, oR⟩ := X
  rcases oS with _ | ⟨⟨h_a0_sieved, q_a0_sieved_leasts, q_a0_sieved_greatests, q_a0_sieved_rests, h_a0_sieved_squared, q_a0_sieved_squared_words⟩, ⟨a0_sieved_leasts, a0_sieved_greatests, a0_sieved_rests, a0_sieved_squared_words, a0_sieved_from, a0_sieved_many, a0_sieved_primeCount, a0_sieved_gap, a0_sieved_twins, a0_sieved_squareFree⟩⟩
  · obtain ⟨rfl, rfl, hQ⟩ := hQ
    refine lift_l (c_X8_least_c0 l dC dI cI cJ cZ sz h0 (vP_ oP) (vT_ oT) (vU_ oU) (vG_ oG) (vR_ oR) p1 _ hQ) (kP_ cI cJ cZ oP ++ (kT_ cI cJ cZ oT ++ (kU_ cI cJ cZ oU ++ (kG_ cI cJ cZ oG ++ (kR_ cI cJ cZ oR))))) rfl ?_ (fun u => (oP, none, oT, oU, oG, oR)) ?_ ?_
    · exact blk_perm (fun i q => by simp only [xcells, vP_, kP_, vS_, kS_, vT_, kT_, vU_, kU_, vG_, kG_, vR_, kR_, List.count_append, List.count_cons, List.count_nil, Nat.zero_add, Nat.add_zero, List.nil_append, List.append_nil] <;> first | rfl | ac_rfl | omega)
    · exact fun r u h => h
    · intro u
      exact blk_perm (fun i q => by simp only [xcells, vP_, kP_, vS_, kS_, vT_, kT_, vU_, kU_, vG_, kG_, vR_, kR_, List.count_append, List.count_cons, List.count_nil, Nat.zero_add, Nat.add_zero, List.nil_append, List.append_nil] <;> first | rfl | ac_rfl | omega)
  · obtain ⟨rfl, rfl, hQ⟩ := hQ
    refine lift_l (c_X8_least_c1 l dC dI cI cJ cZ sz h0 (vP_ oP) h_a0_sieved a0_sieved_leasts q_a0_sieved_leasts a0_sieved_greatests q_a0_sieved_greatests a0_sieved_rests q_a0_sieved_rests h_a0_sieved_squared a0_sieved_squared_words q_a0_sieved_squared_words a0_sieved_from a0_sieved_many a0_sieved_primeCount a0_sieved_gap a0_sieved_twins a0_sieved_squareFree (vT_ oT) (vU_ oU) (vG_ oG) (vR_ oR) p1 _ hQ) (kP_ cI cJ cZ oP ++ (kT_ cI cJ cZ oT ++ (kU_ cI cJ cZ oU ++ (kG_ cI cJ cZ oG ++ (kR_ cI cJ cZ oR))))) rfl ?_ (fun u => (oP, some ((h_a0_sieved, q_a0_sieved_leasts, q_a0_sieved_greatests, q_a0_sieved_rests, h_a0_sieved_squared, q_a0_sieved_squared_words), (a0_sieved_leasts, a0_sieved_greatests, a0_sieved_rests, a0_sieved_squared_words, a0_sieved_from, a0_sieved_many, a0_sieved_primeCount, a0_sieved_gap, a0_sieved_twins, a0_sieved_squareFree)), oT, oU, oG, oR)) ?_ ?_
    · exact blk_perm (fun i q => by simp only [xcells, vP_, kP_, vS_, kS_, vT_, kT_, vU_, kU_, vG_, kG_, vR_, kR_, List.count_append, List.count_cons, List.count_nil, Nat.zero_add, Nat.add_zero, List.nil_append, List.append_nil] <;> first | rfl | ac_rfl | omega)
    · exact fun r u h => h
    · intro u
      exact blk_perm (fun i q => by simp only [xcells, vP_, kP_, vS_, kS_, vT_, kT_, vU_, kU_, vG_, kG_, vR_, kR_, List.count_append, List.count_cons, List.count_nil, Nat.zero_add, Nat.add_zero, List.nil_append, List.append_nil] <;> first | rfl | ac_rfl | omega)
def wpx_spanned (mc ms : Nat) (X : XC_) (p1 : Int32) (Q : Int32 → XC_ → Prop) : Prop :=
  match X.2.1 with
  | none => mc = 0 ∧ ms = 0 ∧ wp_X8_spanned_c0 p1 (fun r => Q r (X.1, none, X.2.2.1, X.2.2.2.1, X.2.2.2.2.1, X.2.2.2.2.2))
  | some (a0_sieved_leasts, a0_sieved_greatests, a0_sieved_rests, a0_sieved_squared_words, a0_sieved_from, a0_sieved_many, a0_sieved_primeCount, a0_sieved_gap, a0_sieved_twins, a0_sieved_squareFree) => mc = 0 ∧ ms = 0 ∧ wp_X8_spanned_c1 a0_sieved_many a0_sieved_primeCount a0_sieved_gap a0_sieved_twins a0_sieved_squareFree p1 (fun r => Q r (X.1, some (a0_sieved_leasts, a0_sieved_greatests, a0_sieved_rests, a0_sieved_squared_words, a0_sieved_from, a0_sieved_many, a0_sieved_primeCount, a0_sieved_gap, a0_sieved_twins, a0_sieved_squareFree), X.2.2.1, X.2.2.2.1, X.2.2.2.2.1, X.2.2.2.2.2))
abbrev rmx_spanned (mc ms : Nat) : Room := { frames := 0, cells := mc, slots := ms, locals := 0 }
set_option maxHeartbeats 4000000 in
set_option maxRecDepth 100000 in
theorem cx_spanned (l : Launch) (dC : Nat → ClassId) (dI : Nat → Nat → Nat) (cI cJ cZ : ClassId) (sz : Nat) (h0 mc ms : Nat) (X : XS_) (p1 : Int32) (Q : Int32 → XC_ → Prop) (hQ : wpx_spanned mc ms (xc_ X) p1 Q) : Met l yX8_spanned wsX8_spanned (rmx_spanned mc ms) (pre_ dC dI cI cJ cZ [.ref h0, .int p1] (xcells cI cJ cZ h0 X) sz) (va_Qi (fun (r : Int32) (X : XS_) => Q r (xc_ X)) (post_ dC dI (va_A (xcells cI cJ cZ h0 X) sz) (xcells cI cJ cZ h0)) (va_A (xcells cI cJ cZ h0 X) sz)) mc ms (va_A (xcells cI cJ cZ h0 X) sz) := by
  obtain ⟨oP, oS, oT, oU, oG, oR⟩ := X
  rcases oS with _ | ⟨⟨h_a0_sieved, q_a0_sieved_leasts, q_a0_sieved_greatests, q_a0_sieved_rests, h_a0_sieved_squared, q_a0_sieved_squared_words⟩, ⟨a0_sieved_leasts, a0_sieved_greatests, a0_sieved_rests, a0_sieved_squared_words, a0_sieved_from, a0_sieved_many, a0_sieved_primeCount, a0_sieved_gap, a0_sieved_twins, a0_sieved_squareFree⟩⟩
  · obtain ⟨rfl, rfl, hQ⟩ := hQ
    refine lift_i (c_X8_spanned_c0 l dC dI cI cJ cZ sz h0 (vP_ oP) (vT_ oT) (vU_ oU) (vG_ oG) (vR_ oR) p1 _ hQ) (kP_ cI cJ cZ oP ++ (kT_ cI cJ cZ oT ++ (kU_ cI cJ cZ oU ++ (kG_ cI cJ cZ oG ++ (kR_ cI cJ cZ oR))))) rfl ?_ (fun u => (oP, none, oT, oU, oG, oR)) ?_ ?_
    · exact blk_perm (fun i q => by simp only [xcells, vP_, kP_, vS_, kS_, vT_, kT_, vU_, kU_, vG_, kG_, vR_, kR_, List.count_append, List.count_cons, List.count_nil, Nat.zero_add, Nat.add_zero, List.nil_append, List.append_nil] <;> first | rfl | ac_rfl | omega)
    · exact fun r u h => h
    · intro u
      exact blk_perm (fun i q => by simp only [xcells, vP_, kP_, vS_, kS_, vT_, kT_, vU_, kU_, vG_, kG_, vR_, kR_, List.count_append, List.count_cons, List.count_nil, Nat.zero_add, Nat.add_zero, List.nil_append, List.append_nil] <;> first | rfl | ac_rfl | omega)
  · obtain ⟨rfl, rfl, hQ⟩ := hQ
    refine lift_i (c_X8_spanned_c1 l dC dI cI cJ cZ sz h0 (vP_ oP) h_a0_sieved a0_sieved_leasts q_a0_sieved_leasts a0_sieved_greatests q_a0_sieved_greatests a0_sieved_rests q_a0_sieved_rests h_a0_sieved_squared a0_sieved_squared_words q_a0_sieved_squared_words a0_sieved_from a0_sieved_many a0_sieved_primeCount a0_sieved_gap a0_sieved_twins a0_sieved_squareFree (vT_ oT) (vU_ oU) (vG_ oG) (vR_ oR) p1 _ hQ) (kP_ cI cJ cZ oP ++ (kT_ cI cJ cZ oT ++ (kU_ cI cJ cZ oU ++ (kG_ cI cJ cZ oG ++ (kR_ cI cJ cZ oR))))) rfl ?_ (fun u => (oP, some ((h_a0_sieved, q_a0_sieved_leasts, q_a0_sieved_greatests, q_a0_sieved_rests, h_a0_sieved_squared, q_a0_sieved_squared_words), (a0_sieved_leasts, a0_sieved_greatests, a0_sieved_rests, a0_sieved_squared_words, a0_sieved_from, a0_sieved_many, a0_sieved_primeCount, a0_sieved_gap, a0_sieved_twins, a0_sieved_squareFree)), oT, oU, oG, oR)) ?_ ?_
    · exact blk_perm (fun i q => by simp only [xcells, vP_, kP_, vS_, kS_, vT_, kT_, vU_, kU_, vG_, kG_, vR_, kR_, List.count_append, List.count_cons, List.count_nil, Nat.zero_add, Nat.add_zero, List.nil_append, List.append_nil] <;> first | rfl | ac_rfl | omega)
    · exact fun r u h => h
    · intro u
      exact blk_perm (fun i q => by simp only [xcells, vP_, kP_, vS_, kS_, vT_, kT_, vU_, kU_, vG_, kG_, vR_, kR_, List.count_append, List.count_cons, List.count_nil, Nat.zero_add, Nat.add_zero, List.nil_append, List.append_nil] <;> first | rfl | ac_rfl | omega)
def wpx_smooth (mc ms : Nat) (X : XC_) (p1 : Int64) (p2 : Int32) (Q : Int32 → XC_ → Prop) : Prop :=
  match X.2.1 with
  | none => mc = 0 ∧ ms = 0 ∧ wp_X8_smooth_c0 p1 p2 (fun r => Q r (X.1, none, X.2.2.1, X.2.2.2.1, X.2.2.2.2.1, X.2.2.2.2.2))
  | some (a0_sieved_leasts, a0_sieved_greatests, a0_sieved_rests, a0_sieved_squared_words, a0_sieved_from, a0_sieved_many, a0_sieved_primeCount, a0_sieved_gap, a0_sieved_twins, a0_sieved_squareFree) => mc = 0 ∧ ms = 0 ∧ wp_X8_smooth_c1 a0_sieved_leasts a0_sieved_greatests a0_sieved_from a0_sieved_many p1 p2 (fun r => Q r (X.1, some (a0_sieved_leasts, a0_sieved_greatests, a0_sieved_rests, a0_sieved_squared_words, a0_sieved_from, a0_sieved_many, a0_sieved_primeCount, a0_sieved_gap, a0_sieved_twins, a0_sieved_squareFree), X.2.2.1, X.2.2.2.1, X.2.2.2.2.1, X.2.2.2.2.2))
abbrev rmx_smooth (mc ms : Nat) : Room := { frames := 1, cells := mc, slots := ms, locals := 24 }
set_option maxHeartbeats 4000000 in
set_option maxRecDepth 100000 in
theorem cx_smooth (l : Launch) (dC : Nat → ClassId) (dI : Nat → Nat → Nat) (cI cJ cZ : ClassId) (sz : Nat) (h0 mc ms : Nat) (X : XS_) (p1 : Int64) (p2 : Int32) (Q : Int32 → XC_ → Prop) (hQ : wpx_smooth mc ms (xc_ X) p1 p2 Q) : Met l yX8_smooth wsX8_smooth (rmx_smooth mc ms) (pre_ dC dI cI cJ cZ [.ref h0, .long p1, .int p2] (xcells cI cJ cZ h0 X) sz) (va_Qi (fun (r : Int32) (X : XS_) => Q r (xc_ X)) (post_ dC dI (va_A (xcells cI cJ cZ h0 X) sz) (xcells cI cJ cZ h0)) (va_A (xcells cI cJ cZ h0 X) sz)) mc ms (va_A (xcells cI cJ cZ h0 X) sz) := by
  obtain ⟨oP, oS, oT, oU, oG, oR⟩ := X
  rcases oS with _ | ⟨⟨h_a0_sieved, q_a0_sieved_leasts, q_a0_sieved_greatests, q_a0_sieved_rests, h_a0_sieved_squared, q_a0_sieved_squared_words⟩, ⟨a0_sieved_leasts, a0_sieved_greatests, a0_sieved_rests, a0_sieved_squared_words, a0_sieved_from, a0_sieved_many, a0_sieved_primeCount, a0_sieved_gap, a0_sieved_twins, a0_sieved_squareFree⟩⟩
  · obtain ⟨rfl, rfl, hQ⟩ := hQ
    refine lift_i (c_X8_smooth_c0 l dC dI cI cJ cZ sz h0 (vP_ oP) (vT_ oT) (vU_ oU) (vG_ oG) (vR_ oR) p1 p2 _ hQ) (kP_ cI cJ cZ oP ++ (kT_ cI cJ cZ oT ++ (kU_ cI cJ cZ oU ++ (kG_ cI cJ cZ oG ++ (kR_ cI cJ cZ oR))))) rfl ?_ (fun u => (oP, none, oT, oU, oG, oR)) ?_ ?_
    · exact blk_perm (fun i q => by simp only [xcells, vP_, kP_, vS_, kS_, vT_, kT_, vU_, kU_, vG_, kG_, vR_, kR_, List.count_append, List.count_cons, List.count_nil, Nat.zero_add, Nat.add_zero, List.nil_append, List.append_nil] <;> first | rfl | ac_rfl | omega)
    · exact fun r u h => h
    · intro u
      exact blk_perm (fun i q => by simp only [xcells, vP_, kP_, vS_, kS_, vT_, kT_, vU_, kU_, vG_, kG_, vR_, kR_, List.count_append, List.count_cons, List.count_nil, Nat.zero_add, Nat.add_zero, List.nil_append, List.append_nil] <;> first | rfl | ac_rfl | omega)
  · obtain ⟨rfl, rfl, hQ⟩ := hQ
    refine lift_i (c_X8_smooth_c1 l dC dI cI cJ cZ sz h0 (vP_ oP) h_a0_sieved a0_sieved_leasts q_a0_sieved_leasts a0_sieved_greatests q_a0_sieved_greatests a0_sieved_rests q_a0_sieved_rests h_a0_sieved_squared a0_sieved_squared_words q_a0_sieved_squared_words a0_sieved_from a0_sieved_many a0_sieved_primeCount a0_sieved_gap a0_sieved_twins a0_sieved_squareFree (vT_ oT) (vU_ oU) (vG_ oG) (vR_ oR) p1 p2 _ hQ) (kP_ cI cJ cZ oP ++ (kT_ cI cJ cZ oT ++ (kU_ cI cJ cZ oU ++ (kG_ cI cJ cZ oG ++ (kR_ cI cJ cZ oR))))) rfl ?_ (fun u => (oP, some ((h_a0_sieved, q_a0_sieved_leasts, q_a0_sieved_greatests, q_a0_sieved_rests, h_a0_sieved_squared, q_a0_sieved_squared_words), (a0_sieved_leasts, a0_sieved_greatests, a0_sieved_rests, a0_sieved_squared_words, a0_sieved_from, a0_sieved_many, a0_sieved_primeCount, a0_sieved_gap, a0_sieved_twins, a0_sieved_squareFree)), oT, oU, oG, oR)) ?_ ?_
    · exact blk_perm (fun i q => by simp only [xcells, vP_, kP_, vS_, kS_, vT_, kT_, vU_, kU_, vG_, kG_, vR_, kR_, List.count_append, List.count_cons, List.count_nil, Nat.zero_add, Nat.add_zero, List.nil_append, List.append_nil] <;> first | rfl | ac_rfl | omega)
    · exact fun r u h => h
    · intro u
      exact blk_perm (fun i q => by simp only [xcells, vP_, kP_, vS_, kS_, vT_, kT_, vU_, kU_, vG_, kG_, vR_, kR_, List.count_append, List.count_cons, List.count_nil, Nat.zero_add, Nat.add_zero, List.nil_append, List.append_nil] <;> first | rfl | ac_rfl | omega)
def wpx_prime (mc ms : Nat) (X : XC_) (p1 : Int64) (Q : Int32 → XC_ → Prop) : Prop :=
  match X.1 with
  | none => wp_X8_prime_c0 mc ms p1 (fun r g0 => Q r (g0, X.2.1, X.2.2.1, X.2.2.2.1, X.2.2.2.2.1, X.2.2.2.2.2))
  | some (a0_primes_table, a0_primes_many) => mc = 0 ∧ ms = 0 ∧ wp_X8_prime_c1 a0_primes_table a0_primes_many p1 (fun r => Q r (some (a0_primes_table, a0_primes_many), X.2.1, X.2.2.1, X.2.2.2.1, X.2.2.2.2.1, X.2.2.2.2.2))
abbrev rmx_prime (mc ms : Nat) : Room := { frames := 5, cells := mc, slots := ms, locals := 111 }
set_option maxHeartbeats 4000000 in
set_option maxRecDepth 100000 in
theorem cx_prime (l : Launch) (dC : Nat → ClassId) (dI : Nat → Nat → Nat) (cI cJ cZ : ClassId) (sz : Nat) (h0 mc ms : Nat) (X : XS_) (p1 : Int64) (Q : Int32 → XC_ → Prop) (hQ : wpx_prime mc ms (xc_ X) p1 Q) : Met l yX8_prime wsX8_prime (rmx_prime mc ms) (pre_ dC dI cI cJ cZ [.ref h0, .long p1] (xcells cI cJ cZ h0 X) sz) (va_Qi (fun (r : Int32) (X : XS_) => Q r (xc_ X)) (post_ dC dI (va_A (xcells cI cJ cZ h0 X) sz) (xcells cI cJ cZ h0)) (va_A (xcells cI cJ cZ h0 X) sz)) mc ms (va_A (xcells cI cJ cZ h0 X) sz) := by
  obtain ⟨oP, oS, oT, oU, oG, oR⟩ := X
  rcases oP with _ | ⟨⟨h_a0_primes, q_a0_primes_table⟩, ⟨a0_primes_table, a0_primes_many⟩⟩
  · replace hQ : wp_X8_prime_c0 mc ms p1 (fun r g0 => Q r (g0, (oS.map Prod.snd), (oT.map Prod.snd), (oU.map Prod.snd), (oG.map Prod.snd), (oR.map Prod.snd))) := hQ
    refine lift_i (c_X8_prime_c0 l dC dI cI cJ cZ sz mc ms h0 (vS_ oS) (vT_ oT) (vU_ oU) (vG_ oG) (vR_ oR) p1 _ hQ) (kS_ cI cJ cZ oS ++ (kT_ cI cJ cZ oT ++ (kU_ cI cJ cZ oU ++ (kG_ cI cJ cZ oG ++ (kR_ cI cJ cZ oR))))) rfl ?_ (fun u => (u, oS, oT, oU, oG, oR)) ?_ ?_
    · exact blk_perm (fun i q => by simp only [xcells, vP_, kP_, vS_, kS_, vT_, kT_, vU_, kU_, vG_, kG_, vR_, kR_, List.count_append, List.count_cons, List.count_nil, Nat.zero_add, Nat.add_zero, List.nil_append, List.append_nil] <;> first | rfl | ac_rfl | omega)
    · exact fun r u h => h
    · intro u
      obtain ⟨g0, rfl⟩ : ∃ z, z = u := ⟨_, rfl⟩
      rcases g0 with _ | ⟨w1, w2⟩ <;> exact blk_perm (fun i q => by simp only [xcells, vP_, kP_, vS_, kS_, vT_, kT_, vU_, kU_, vG_, kG_, vR_, kR_, List.count_append, List.count_cons, List.count_nil, Nat.zero_add, Nat.add_zero, List.nil_append, List.append_nil] <;> first | rfl | ac_rfl | omega)
  · obtain ⟨rfl, rfl, hQ⟩ := hQ
    refine lift_i (c_X8_prime_c1 l dC dI cI cJ cZ sz h0 h_a0_primes a0_primes_table q_a0_primes_table a0_primes_many (vS_ oS) (vT_ oT) (vU_ oU) (vG_ oG) (vR_ oR) p1 _ hQ) (kS_ cI cJ cZ oS ++ (kT_ cI cJ cZ oT ++ (kU_ cI cJ cZ oU ++ (kG_ cI cJ cZ oG ++ (kR_ cI cJ cZ oR))))) rfl ?_ (fun u => (some ((h_a0_primes, q_a0_primes_table), (a0_primes_table, a0_primes_many)), oS, oT, oU, oG, oR)) ?_ ?_
    · exact blk_perm (fun i q => by simp only [xcells, vP_, kP_, vS_, kS_, vT_, kT_, vU_, kU_, vG_, kG_, vR_, kR_, List.count_append, List.count_cons, List.count_nil, Nat.zero_add, Nat.add_zero, List.nil_append, List.append_nil] <;> first | rfl | ac_rfl | omega)
    · exact fun r u h => h
    · intro u
      exact blk_perm (fun i q => by simp only [xcells, vP_, kP_, vS_, kS_, vT_, kT_, vU_, kU_, vG_, kG_, vR_, kR_, List.count_append, List.count_cons, List.count_nil, Nat.zero_add, Nat.add_zero, List.nil_append, List.append_nil] <;> first | rfl | ac_rfl | omega)
def wpx_next (mc ms : Nat) (X : XC_) (p1 : Int64) (p2 : Int32) (Q : Int64 → XC_ → Prop) : Prop :=
  match X.1 with
  | none => wp_X8_next_c0 mc ms p1 p2 (fun r g0 => Q r (g0, X.2.1, X.2.2.1, X.2.2.2.1, X.2.2.2.2.1, X.2.2.2.2.2))
  | some (a0_primes_table, a0_primes_many) => mc = 0 ∧ ms = 0 ∧ wp_X8_next_c1 a0_primes_table a0_primes_many p1 p2 (fun r => Q r (some (a0_primes_table, a0_primes_many), X.2.1, X.2.2.1, X.2.2.2.1, X.2.2.2.2.1, X.2.2.2.2.2))
abbrev rmx_next (mc ms : Nat) : Room := { frames := 5, cells := mc, slots := ms, locals := 111 }
set_option maxHeartbeats 4000000 in
set_option maxRecDepth 100000 in
theorem cx_next (l : Launch) (dC : Nat → ClassId) (dI : Nat → Nat → Nat) (cI cJ cZ : ClassId) (sz : Nat) (h0 mc ms : Nat) (X : XS_) (p1 : Int64) (p2 : Int32) (Q : Int64 → XC_ → Prop) (hQ : wpx_next mc ms (xc_ X) p1 p2 Q) : Met l yX8_next wsX8_next (rmx_next mc ms) (pre_ dC dI cI cJ cZ [.ref h0, .long p1, .int p2] (xcells cI cJ cZ h0 X) sz) (va_Ql (fun (r : Int64) (X : XS_) => Q r (xc_ X)) (post_ dC dI (va_A (xcells cI cJ cZ h0 X) sz) (xcells cI cJ cZ h0)) (va_A (xcells cI cJ cZ h0 X) sz)) mc ms (va_A (xcells cI cJ cZ h0 X) sz) := by
  obtain ⟨oP, oS, oT, oU, oG, oR⟩ := X
  rcases oP with _ | ⟨⟨h_a0_primes, q_a0_primes_table⟩, ⟨a0_primes_table, a0_primes_many⟩⟩
  · replace hQ : wp_X8_next_c0 mc ms p1 p2 (fun r g0 => Q r (g0, (oS.map Prod.snd), (oT.map Prod.snd), (oU.map Prod.snd), (oG.map Prod.snd), (oR.map Prod.snd))) := hQ
    refine lift_l (c_X8_next_c0 l dC dI cI cJ cZ sz mc ms h0 (vS_ oS) (vT_ oT) (vU_ oU) (vG_ oG) (vR_ oR) p1 p2 _ hQ) (kS_ cI cJ cZ oS ++ (kT_ cI cJ cZ oT ++ (kU_ cI cJ cZ oU ++ (kG_ cI cJ cZ oG ++ (kR_ cI cJ cZ oR))))) rfl ?_ (fun u => (u, oS, oT, oU, oG, oR)) ?_ ?_
    · exact blk_perm (fun i q => by simp only [xcells, vP_, kP_, vS_, kS_, vT_, kT_, vU_, kU_, vG_, kG_, vR_, kR_, List.count_append, List.count_cons, List.count_nil, Nat.zero_add, Nat.add_zero, List.nil_append, List.append_nil] <;> first | rfl | ac_rfl | omega)
    · exact fun r u h => h
    · intro u
      obtain ⟨g0, rfl⟩ : ∃ z, z = u := ⟨_, rfl⟩
      rcases g0 with _ | ⟨w1, w2⟩ <;> exact blk_perm (fun i q => by simp only [xcells, vP_, kP_, vS_, kS_, vT_, kT_, vU_, kU_, vG_, kG_, vR_, kR_, List.count_append, List.count_cons, List.count_nil, Nat.zero_add, Nat.add_zero, List.nil_append, List.append_nil] <;> first | rfl | ac_rfl | omega)
  · obtain ⟨rfl, rfl, hQ⟩ := hQ
    refine lift_l (c_X8_next_c1 l dC dI cI cJ cZ sz h0 h_a0_primes a0_primes_table q_a0_primes_table a0_primes_many (vS_ oS) (vT_ oT) (vU_ oU) (vG_ oG) (vR_ oR) p1 p2 _ hQ) (kS_ cI cJ cZ oS ++ (kT_ cI cJ cZ oT ++ (kU_ cI cJ cZ oU ++ (kG_ cI cJ cZ oG ++ (kR_ cI cJ cZ oR))))) rfl ?_ (fun u => (some ((h_a0_primes, q_a0_primes_table), (a0_primes_table, a0_primes_many)), oS, oT, oU, oG, oR)) ?_ ?_
    · exact blk_perm (fun i q => by simp only [xcells, vP_, kP_, vS_, kS_, vT_, kT_, vU_, kU_, vG_, kG_, vR_, kR_, List.count_append, List.count_cons, List.count_nil, Nat.zero_add, Nat.add_zero, List.nil_append, List.append_nil] <;> first | rfl | ac_rfl | omega)
    · exact fun r u h => h
    · intro u
      exact blk_perm (fun i q => by simp only [xcells, vP_, kP_, vS_, kS_, vT_, kT_, vU_, kU_, vG_, kG_, vR_, kR_, List.count_append, List.count_cons, List.count_nil, Nat.zero_add, Nat.add_zero, List.nil_append, List.append_nil] <;> first | rfl | ac_rfl | omega)
def wpx_part (mc ms : Nat) (X : XC_) (p1 : Int64) (Q : Int32 → XC_ → Prop) : Prop :=
  match X.1, X.2.2.1 with
  | none, none => wp_X8_part_c00 mc ms p1 (fun r g0 g1 => Q r (g0, X.2.1, g1, X.2.2.2.1, X.2.2.2.2.1, X.2.2.2.2.2))
  | none, some (a0_parting_factors, a0_parting_powers, a0_parting_number, a0_parting_many) => wp_X8_part_c01 mc ms a0_parting_factors a0_parting_powers a0_parting_number a0_parting_many p1 (fun r o0 o1 o2 o3 g0 => Q r (g0, X.2.1, some (o2, o3, o0, o1), X.2.2.2.1, X.2.2.2.2.1, X.2.2.2.2.2))
  | some (a0_primes_table, a0_primes_many), none => wp_X8_part_c10 mc ms a0_primes_table a0_primes_many p1 (fun r g0 => Q r (some (a0_primes_table, a0_primes_many), X.2.1, g0, X.2.2.2.1, X.2.2.2.2.1, X.2.2.2.2.2))
  | some (a0_primes_table, a0_primes_many), some (a0_parting_factors, a0_parting_powers, a0_parting_number, a0_parting_many) => mc = 0 ∧ ms = 0 ∧ wp_X8_part_c11 a0_primes_table a0_primes_many a0_parting_factors a0_parting_powers a0_parting_number a0_parting_many p1 (fun r o0 o1 o2 o3 => Q r (some (a0_primes_table, a0_primes_many), X.2.1, some (o2, o3, o0, o1), X.2.2.2.1, X.2.2.2.2.1, X.2.2.2.2.2))
abbrev rmx_part (mc ms : Nat) : Room := { frames := 5, cells := mc, slots := ms, locals := 111 }
set_option maxHeartbeats 4000000 in
set_option maxRecDepth 100000 in
theorem cx_part (l : Launch) (dC : Nat → ClassId) (dI : Nat → Nat → Nat) (cI cJ cZ : ClassId) (sz : Nat) (h0 mc ms : Nat) (X : XS_) (p1 : Int64) (Q : Int32 → XC_ → Prop) (hQ : wpx_part mc ms (xc_ X) p1 Q) : Met l yX8_part wsX8_part (rmx_part mc ms) (pre_ dC dI cI cJ cZ [.ref h0, .long p1] (xcells cI cJ cZ h0 X) sz) (va_Qi (fun (r : Int32) (X : XS_) => Q r (xc_ X)) (post_ dC dI (va_A (xcells cI cJ cZ h0 X) sz) (xcells cI cJ cZ h0)) (va_A (xcells cI cJ cZ h0 X) sz)) mc ms (va_A (xcells cI cJ cZ h0 X) sz) := by
  obtain ⟨oP, oS, oT, oU, oG, oR⟩ := X
  rcases oP with _ | ⟨⟨h_a0_primes, q_a0_primes_table⟩, ⟨a0_primes_table, a0_primes_many⟩⟩
  · rcases oT with _ | ⟨⟨h_a0_parting, q_a0_parting_factors, q_a0_parting_powers⟩, ⟨a0_parting_factors, a0_parting_powers, a0_parting_number, a0_parting_many⟩⟩
    · replace hQ : wp_X8_part_c00 mc ms p1 (fun r g0 g1 => Q r (g0, (oS.map Prod.snd), g1, (oU.map Prod.snd), (oG.map Prod.snd), (oR.map Prod.snd))) := hQ
      refine lift_i (c_X8_part_c00 l dC dI cI cJ cZ sz mc ms h0 (vS_ oS) (vU_ oU) (vG_ oG) (vR_ oR) p1 _ hQ) (kS_ cI cJ cZ oS ++ (kU_ cI cJ cZ oU ++ (kG_ cI cJ cZ oG ++ (kR_ cI cJ cZ oR)))) rfl ?_ (fun u => (u.1, oS, u.2, oU, oG, oR)) ?_ ?_
      · exact blk_perm (fun i q => by simp only [xcells, vP_, kP_, vS_, kS_, vT_, kT_, vU_, kU_, vG_, kG_, vR_, kR_, List.count_append, List.count_cons, List.count_nil, Nat.zero_add, Nat.add_zero, List.nil_append, List.append_nil] <;> first | rfl | ac_rfl | omega)
      · exact fun r u h => h
      · intro u
        obtain ⟨g0, g1⟩ := u
        rcases g0 with _ | ⟨w1, w2⟩ <;> rcases g1 with _ | ⟨w1, w2⟩ <;> exact blk_perm (fun i q => by simp only [xcells, vP_, kP_, vS_, kS_, vT_, kT_, vU_, kU_, vG_, kG_, vR_, kR_, List.count_append, List.count_cons, List.count_nil, Nat.zero_add, Nat.add_zero, List.nil_append, List.append_nil] <;> first | rfl | ac_rfl | omega)
    · replace hQ : wp_X8_part_c01 mc ms a0_parting_factors a0_parting_powers a0_parting_number a0_parting_many p1 (fun r o0 o1 o2 o3 g0 => Q r (g0, (oS.map Prod.snd), some (o2, o3, o0, o1), (oU.map Prod.snd), (oG.map Prod.snd), (oR.map Prod.snd))) := hQ
      refine lift_i (c_X8_part_c01 l dC dI cI cJ cZ sz mc ms h0 (vS_ oS) h_a0_parting a0_parting_factors q_a0_parting_factors a0_parting_powers q_a0_parting_powers a0_parting_number a0_parting_many (vU_ oU) (vG_ oG) (vR_ oR) p1 _ hQ) (kS_ cI cJ cZ oS ++ (kU_ cI cJ cZ oU ++ (kG_ cI cJ cZ oG ++ (kR_ cI cJ cZ oR)))) rfl ?_ (fun u => (u.2.2.2.2, oS, some ((h_a0_parting, q_a0_parting_factors, q_a0_parting_powers), (u.2.2.1, u.2.2.2.1, u.1, u.2.1)), oU, oG, oR)) ?_ ?_
      · exact blk_perm (fun i q => by simp only [xcells, vP_, kP_, vS_, kS_, vT_, kT_, vU_, kU_, vG_, kG_, vR_, kR_, List.count_append, List.count_cons, List.count_nil, Nat.zero_add, Nat.add_zero, List.nil_append, List.append_nil] <;> first | rfl | ac_rfl | omega)
      · exact fun r u h => h
      · intro u
        obtain ⟨y0, y1, y2, y3, g0⟩ := u
        rcases g0 with _ | ⟨w1, w2⟩ <;> exact blk_perm (fun i q => by simp only [xcells, vP_, kP_, vS_, kS_, vT_, kT_, vU_, kU_, vG_, kG_, vR_, kR_, List.count_append, List.count_cons, List.count_nil, Nat.zero_add, Nat.add_zero, List.nil_append, List.append_nil] <;> first | rfl | ac_rfl | omega)
  · rcases oT with _ | ⟨⟨h_a0_parting, q_a0_parting_factors, q_a0_parting_powers⟩, ⟨a0_parting_factors, a0_parting_powers, a0_parting_number, a0_parting_many⟩⟩
    · replace hQ : wp_X8_part_c10 mc ms a0_primes_table a0_primes_many p1 (fun r g0 => Q r (some (a0_primes_table, a0_primes_many), (oS.map Prod.snd), g0, (oU.map Prod.snd), (oG.map Prod.snd), (oR.map Prod.snd))) := hQ
      refine lift_i (c_X8_part_c10 l dC dI cI cJ cZ sz mc ms h0 h_a0_primes a0_primes_table q_a0_primes_table a0_primes_many (vS_ oS) (vU_ oU) (vG_ oG) (vR_ oR) p1 _ hQ) (kS_ cI cJ cZ oS ++ (kU_ cI cJ cZ oU ++ (kG_ cI cJ cZ oG ++ (kR_ cI cJ cZ oR)))) rfl ?_ (fun u => (some ((h_a0_primes, q_a0_primes_table), (a0_primes_table, a0_primes_many)), oS, u, oU, oG, oR)) ?_ ?_
      · exact blk_perm (fun i q => by simp only [xcells, vP_, kP_, vS_, kS_, vT_, kT_, vU_, kU_, vG_, kG_, vR_, kR_, List.count_append, List.count_cons, List.count_nil, Nat.zero_add, Nat.add_zero, List.nil_append, List.append_nil] <;> first | rfl | ac_rfl | omega)
      · exact fun r u h => h
      · intro u
        obtain ⟨g0, rfl⟩ : ∃ z, z = u := ⟨_, rfl⟩
        rcases g0 with _ | ⟨w1, w2⟩ <;> exact blk_perm (fun i q => by simp only [xcells, vP_, kP_, vS_, kS_, vT_, kT_, vU_, kU_, vG_, kG_, vR_, kR_, List.count_append, List.count_cons, List.count_nil, Nat.zero_add, Nat.add_zero, List.nil_append, List.append_nil] <;> first | rfl | ac_rfl | omega)
    · obtain ⟨rfl, rfl, hQ⟩ := hQ
      refine lift_i (c_X8_part_c11 l dC dI cI cJ cZ sz h0 h_a0_primes a0_primes_table q_a0_primes_table a0_primes_many (vS_ oS) h_a0_parting a0_parting_factors q_a0_parting_factors a0_parting_powers q_a0_parting_powers a0_parting_number a0_parting_many (vU_ oU) (vG_ oG) (vR_ oR) p1 _ hQ) (kS_ cI cJ cZ oS ++ (kU_ cI cJ cZ oU ++ (kG_ cI cJ cZ oG ++ (kR_ cI cJ cZ oR)))) rfl ?_ (fun u => (some ((h_a0_primes, q_a0_primes_table), (a0_primes_table, a0_primes_many)), oS, some ((h_a0_parting, q_a0_parting_factors, q_a0_parting_powers), (u.2.2.1, u.2.2.2, u.1, u.2.1)), oU, oG, oR)) ?_ ?_
      · exact blk_perm (fun i q => by simp only [xcells, vP_, kP_, vS_, kS_, vT_, kT_, vU_, kU_, vG_, kG_, vR_, kR_, List.count_append, List.count_cons, List.count_nil, Nat.zero_add, Nat.add_zero, List.nil_append, List.append_nil] <;> first | rfl | ac_rfl | omega)
      · exact fun r u h => h
      · intro u
        obtain ⟨y0, y1, y2, y3⟩ := u
        exact blk_perm (fun i q => by simp only [xcells, vP_, kP_, vS_, kS_, vT_, kT_, vU_, kU_, vG_, kG_, vR_, kR_, List.count_append, List.count_cons, List.count_nil, Nat.zero_add, Nat.add_zero, List.nil_append, List.append_nil] <;> first | rfl | ac_rfl | omega)
def wpx_parts (mc ms : Nat) (X : XC_) (p1 : Int32) (p2 : Int32) (Q : Int64 → XC_ → Prop) : Prop :=
  match X.2.2.1 with
  | none => mc = 0 ∧ ms = 0 ∧ wp_X8_parts_c0 p1 p2 (fun r => Q r (X.1, X.2.1, none, X.2.2.2.1, X.2.2.2.2.1, X.2.2.2.2.2))
  | some (a0_parting_factors, a0_parting_powers, a0_parting_number, a0_parting_many) => mc = 0 ∧ ms = 0 ∧ wp_X8_parts_c1 a0_parting_factors a0_parting_powers a0_parting_many p1 p2 (fun r => Q r (X.1, X.2.1, some (a0_parting_factors, a0_parting_powers, a0_parting_number, a0_parting_many), X.2.2.2.1, X.2.2.2.2.1, X.2.2.2.2.2))
abbrev rmx_parts (mc ms : Nat) : Room := { frames := 1, cells := mc, slots := ms, locals := 21 }
set_option maxHeartbeats 4000000 in
set_option maxRecDepth 100000 in
theorem cx_parts (l : Launch) (dC : Nat → ClassId) (dI : Nat → Nat → Nat) (cI cJ cZ : ClassId) (sz : Nat) (h0 mc ms : Nat) (X : XS_) (p1 : Int32) (p2 : Int32) (Q : Int64 → XC_ → Prop) (hQ : wpx_parts mc ms (xc_ X) p1 p2 Q) : Met l yX8_parts wsX8_parts (rmx_parts mc ms) (pre_ dC dI cI cJ cZ [.ref h0, .int p1, .int p2] (xcells cI cJ cZ h0 X) sz) (va_Ql (fun (r : Int64) (X : XS_) => Q r (xc_ X)) (post_ dC dI (va_A (xcells cI cJ cZ h0 X) sz) (xcells cI cJ cZ h0)) (va_A (xcells cI cJ cZ h0 X) sz)) mc ms (va_A (xcells cI cJ cZ h0 X) sz) := by
  obtain ⟨oP, oS, oT, oU, oG, oR⟩ := X
  rcases oT with _ | ⟨⟨h_a0_parting, q_a0_parting_factors, q_a0_parting_powers⟩, ⟨a0_parting_factors, a0_parting_powers, a0_parting_number, a0_parting_many⟩⟩
  · obtain ⟨rfl, rfl, hQ⟩ := hQ
    refine lift_l (c_X8_parts_c0 l dC dI cI cJ cZ sz h0 (vP_ oP) (vS_ oS) (vU_ oU) (vG_ oG) (vR_ oR) p1 p2 _ hQ) (kP_ cI cJ cZ oP ++ (kS_ cI cJ cZ oS ++ (kU_ cI cJ cZ oU ++ (kG_ cI cJ cZ oG ++ (kR_ cI cJ cZ oR))))) rfl ?_ (fun u => (oP, oS, none, oU, oG, oR)) ?_ ?_
    · exact blk_perm (fun i q => by simp only [xcells, vP_, kP_, vS_, kS_, vT_, kT_, vU_, kU_, vG_, kG_, vR_, kR_, List.count_append, List.count_cons, List.count_nil, Nat.zero_add, Nat.add_zero, List.nil_append, List.append_nil] <;> first | rfl | ac_rfl | omega)
    · exact fun r u h => h
    · intro u
      exact blk_perm (fun i q => by simp only [xcells, vP_, kP_, vS_, kS_, vT_, kT_, vU_, kU_, vG_, kG_, vR_, kR_, List.count_append, List.count_cons, List.count_nil, Nat.zero_add, Nat.add_zero, List.nil_append, List.append_nil] <;> first | rfl | ac_rfl | omega)
  · obtain ⟨rfl, rfl, hQ⟩ := hQ
    refine lift_l (c_X8_parts_c1 l dC dI cI cJ cZ sz h0 (vP_ oP) (vS_ oS) h_a0_parting a0_parting_factors q_a0_parting_factors a0_parting_powers q_a0_parting_powers a0_parting_number a0_parting_many (vU_ oU) (vG_ oG) (vR_ oR) p1 p2 _ hQ) (kP_ cI cJ cZ oP ++ (kS_ cI cJ cZ oS ++ (kU_ cI cJ cZ oU ++ (kG_ cI cJ cZ oG ++ (kR_ cI cJ cZ oR))))) rfl ?_ (fun u => (oP, oS, some ((h_a0_parting, q_a0_parting_factors, q_a0_parting_powers), (a0_parting_factors, a0_parting_powers, a0_parting_number, a0_parting_many)), oU, oG, oR)) ?_ ?_
    · exact blk_perm (fun i q => by simp only [xcells, vP_, kP_, vS_, kS_, vT_, kT_, vU_, kU_, vG_, kG_, vR_, kR_, List.count_append, List.count_cons, List.count_nil, Nat.zero_add, Nat.add_zero, List.nil_append, List.append_nil] <;> first | rfl | ac_rfl | omega)
    · exact fun r u h => h
    · intro u
      exact blk_perm (fun i q => by simp only [xcells, vP_, kP_, vS_, kS_, vT_, kT_, vU_, kU_, vG_, kG_, vR_, kR_, List.count_append, List.count_cons, List.count_nil, Nat.zero_add, Nat.add_zero, List.nil_append, List.append_nil] <;> first | rfl | ac_rfl | omega)
def wpx_parted (mc ms : Nat) (X : XC_) (p1 : Int32) (Q : Int64 → XC_ → Prop) : Prop :=
  match X.2.2.1 with
  | none => mc = 0 ∧ ms = 0 ∧ wp_X8_parted_c0 p1 (fun r => Q r (X.1, X.2.1, none, X.2.2.2.1, X.2.2.2.2.1, X.2.2.2.2.2))
  | some (a0_parting_factors, a0_parting_powers, a0_parting_number, a0_parting_many) => mc = 0 ∧ ms = 0 ∧ wp_X8_parted_c1 a0_parting_factors a0_parting_powers a0_parting_number a0_parting_many p1 (fun r => Q r (X.1, X.2.1, some (a0_parting_factors, a0_parting_powers, a0_parting_number, a0_parting_many), X.2.2.2.1, X.2.2.2.2.1, X.2.2.2.2.2))
abbrev rmx_parted (mc ms : Nat) : Room := { frames := 1, cells := mc, slots := ms, locals := 26 }
set_option maxHeartbeats 4000000 in
set_option maxRecDepth 100000 in
theorem cx_parted (l : Launch) (dC : Nat → ClassId) (dI : Nat → Nat → Nat) (cI cJ cZ : ClassId) (sz : Nat) (h0 mc ms : Nat) (X : XS_) (p1 : Int32) (Q : Int64 → XC_ → Prop) (hQ : wpx_parted mc ms (xc_ X) p1 Q) : Met l yX8_parted wsX8_parted (rmx_parted mc ms) (pre_ dC dI cI cJ cZ [.ref h0, .int p1] (xcells cI cJ cZ h0 X) sz) (va_Ql (fun (r : Int64) (X : XS_) => Q r (xc_ X)) (post_ dC dI (va_A (xcells cI cJ cZ h0 X) sz) (xcells cI cJ cZ h0)) (va_A (xcells cI cJ cZ h0 X) sz)) mc ms (va_A (xcells cI cJ cZ h0 X) sz) := by
  obtain ⟨oP, oS, oT, oU, oG, oR⟩ := X
  rcases oT with _ | ⟨⟨h_a0_parting, q_a0_parting_factors, q_a0_parting_powers⟩, ⟨a0_parting_factors, a0_parting_powers, a0_parting_number, a0_parting_many⟩⟩
  · obtain ⟨rfl, rfl, hQ⟩ := hQ
    refine lift_l (c_X8_parted_c0 l dC dI cI cJ cZ sz h0 (vP_ oP) (vS_ oS) (vU_ oU) (vG_ oG) (vR_ oR) p1 _ hQ) (kP_ cI cJ cZ oP ++ (kS_ cI cJ cZ oS ++ (kU_ cI cJ cZ oU ++ (kG_ cI cJ cZ oG ++ (kR_ cI cJ cZ oR))))) rfl ?_ (fun u => (oP, oS, none, oU, oG, oR)) ?_ ?_
    · exact blk_perm (fun i q => by simp only [xcells, vP_, kP_, vS_, kS_, vT_, kT_, vU_, kU_, vG_, kG_, vR_, kR_, List.count_append, List.count_cons, List.count_nil, Nat.zero_add, Nat.add_zero, List.nil_append, List.append_nil] <;> first | rfl | ac_rfl | omega)
    · exact fun r u h => h
    · intro u
      exact blk_perm (fun i q => by simp only [xcells, vP_, kP_, vS_, kS_, vT_, kT_, vU_, kU_, vG_, kG_, vR_, kR_, List.count_append, List.count_cons, List.count_nil, Nat.zero_add, Nat.add_zero, List.nil_append, List.append_nil] <;> first | rfl | ac_rfl | omega)
  · obtain ⟨rfl, rfl, hQ⟩ := hQ
    refine lift_l (c_X8_parted_c1 l dC dI cI cJ cZ sz h0 (vP_ oP) (vS_ oS) h_a0_parting a0_parting_factors q_a0_parting_factors a0_parting_powers q_a0_parting_powers a0_parting_number a0_parting_many (vU_ oU) (vG_ oG) (vR_ oR) p1 _ hQ) (kP_ cI cJ cZ oP ++ (kS_ cI cJ cZ oS ++ (kU_ cI cJ cZ oU ++ (kG_ cI cJ cZ oG ++ (kR_ cI cJ cZ oR))))) rfl ?_ (fun u => (oP, oS, some ((h_a0_parting, q_a0_parting_factors, q_a0_parting_powers), (a0_parting_factors, a0_parting_powers, a0_parting_number, a0_parting_many)), oU, oG, oR)) ?_ ?_
    · exact blk_perm (fun i q => by simp only [xcells, vP_, kP_, vS_, kS_, vT_, kT_, vU_, kU_, vG_, kG_, vR_, kR_, List.count_append, List.count_cons, List.count_nil, Nat.zero_add, Nat.add_zero, List.nil_append, List.append_nil] <;> first | rfl | ac_rfl | omega)
    · exact fun r u h => h
    · intro u
      exact blk_perm (fun i q => by simp only [xcells, vP_, kP_, vS_, kS_, vT_, kT_, vU_, kU_, vG_, kG_, vR_, kR_, List.count_append, List.count_cons, List.count_nil, Nat.zero_add, Nat.add_zero, List.nil_append, List.append_nil] <;> first | rfl | ac_rfl | omega)
def wpx_without (mc ms : Nat) (X : XC_) (p1 : Int64) (Q : Int64 → XC_ → Prop) : Prop :=
  match X.2.2.1 with
  | none => mc = 0 ∧ ms = 0 ∧ wp_X8_without_c0 p1 (fun r => Q r (X.1, X.2.1, none, X.2.2.2.1, X.2.2.2.2.1, X.2.2.2.2.2))
  | some (a0_parting_factors, a0_parting_powers, a0_parting_number, a0_parting_many) => mc = 0 ∧ ms = 0 ∧ wp_X8_without_c1 a0_parting_factors a0_parting_many p1 (fun r => Q r (X.1, X.2.1, some (a0_parting_factors, a0_parting_powers, a0_parting_number, a0_parting_many), X.2.2.2.1, X.2.2.2.2.1, X.2.2.2.2.2))
abbrev rmx_without (mc ms : Nat) : Room := { frames := 2, cells := mc, slots := ms, locals := 50 }
set_option maxHeartbeats 4000000 in
set_option maxRecDepth 100000 in
theorem cx_without (l : Launch) (dC : Nat → ClassId) (dI : Nat → Nat → Nat) (cI cJ cZ : ClassId) (sz : Nat) (h0 mc ms : Nat) (X : XS_) (p1 : Int64) (Q : Int64 → XC_ → Prop) (hQ : wpx_without mc ms (xc_ X) p1 Q) : Met l yX8_without wsX8_without (rmx_without mc ms) (pre_ dC dI cI cJ cZ [.ref h0, .long p1] (xcells cI cJ cZ h0 X) sz) (va_Ql (fun (r : Int64) (X : XS_) => Q r (xc_ X)) (post_ dC dI (va_A (xcells cI cJ cZ h0 X) sz) (xcells cI cJ cZ h0)) (va_A (xcells cI cJ cZ h0 X) sz)) mc ms (va_A (xcells cI cJ cZ h0 X) sz) := by
  obtain ⟨oP, oS, oT, oU, oG, oR⟩ := X
  rcases oT with _ | ⟨⟨h_a0_parting, q_a0_parting_factors, q_a0_parting_powers⟩, ⟨a0_parting_factors, a0_parting_powers, a0_parting_number, a0_parting_many⟩⟩
  · obtain ⟨rfl, rfl, hQ⟩ := hQ
    refine lift_l (c_X8_without_c0 l dC dI cI cJ cZ sz h0 (vP_ oP) (vS_ oS) (vU_ oU) (vG_ oG) (vR_ oR) p1 _ hQ) (kP_ cI cJ cZ oP ++ (kS_ cI cJ cZ oS ++ (kU_ cI cJ cZ oU ++ (kG_ cI cJ cZ oG ++ (kR_ cI cJ cZ oR))))) rfl ?_ (fun u => (oP, oS, none, oU, oG, oR)) ?_ ?_
    · exact blk_perm (fun i q => by simp only [xcells, vP_, kP_, vS_, kS_, vT_, kT_, vU_, kU_, vG_, kG_, vR_, kR_, List.count_append, List.count_cons, List.count_nil, Nat.zero_add, Nat.add_zero, List.nil_append, List.append_nil] <;> first | rfl | ac_rfl | omega)
    · exact fun r u h => h
    · intro u
      exact blk_perm (fun i q => by simp only [xcells, vP_, kP_, vS_, kS_, vT_, kT_, vU_, kU_, vG_, kG_, vR_, kR_, List.count_append, List.count_cons, List.count_nil, Nat.zero_add, Nat.add_zero, List.nil_append, List.append_nil] <;> first | rfl | ac_rfl | omega)
  · obtain ⟨rfl, rfl, hQ⟩ := hQ
    refine lift_l (c_X8_without_c1 l dC dI cI cJ cZ sz h0 (vP_ oP) (vS_ oS) h_a0_parting a0_parting_factors q_a0_parting_factors a0_parting_powers q_a0_parting_powers a0_parting_number a0_parting_many (vU_ oU) (vG_ oG) (vR_ oR) p1 _ hQ) (kP_ cI cJ cZ oP ++ (kS_ cI cJ cZ oS ++ (kU_ cI cJ cZ oU ++ (kG_ cI cJ cZ oG ++ (kR_ cI cJ cZ oR))))) rfl ?_ (fun u => (oP, oS, some ((h_a0_parting, q_a0_parting_factors, q_a0_parting_powers), (a0_parting_factors, a0_parting_powers, a0_parting_number, a0_parting_many)), oU, oG, oR)) ?_ ?_
    · exact blk_perm (fun i q => by simp only [xcells, vP_, kP_, vS_, kS_, vT_, kT_, vU_, kU_, vG_, kG_, vR_, kR_, List.count_append, List.count_cons, List.count_nil, Nat.zero_add, Nat.add_zero, List.nil_append, List.append_nil] <;> first | rfl | ac_rfl | omega)
    · exact fun r u h => h
    · intro u
      exact blk_perm (fun i q => by simp only [xcells, vP_, kP_, vS_, kS_, vT_, kT_, vU_, kU_, vG_, kG_, vR_, kR_, List.count_append, List.count_cons, List.count_nil, Nat.zero_add, Nat.add_zero, List.nil_append, List.append_nil] <;> first | rfl | ac_rfl | omega)
def wpx_span (mc ms : Nat) (X : XC_) (p1 : Int64) (p2 : Int32) (Q : Int32 → XC_ → Prop) : Prop :=
  match X.1, X.2.1 with
  | none, none => wp_X8_span_c00 mc ms p1 p2 (fun r g0 g1 => Q r (g0, g1, X.2.2.1, X.2.2.2.1, X.2.2.2.2.1, X.2.2.2.2.2))
  | none, some (a0_sieved_leasts, a0_sieved_greatests, a0_sieved_rests, a0_sieved_squared_words, a0_sieved_from, a0_sieved_many, a0_sieved_primeCount, a0_sieved_gap, a0_sieved_twins, a0_sieved_squareFree) => wp_X8_span_c01 mc ms a0_sieved_leasts a0_sieved_greatests a0_sieved_rests a0_sieved_squared_words a0_sieved_from a0_sieved_many a0_sieved_primeCount a0_sieved_gap a0_sieved_twins a0_sieved_squareFree p1 p2 (fun r o0 o1 o2 o3 o4 o5 o6 o7 o8 o9 g0 => Q r (g0, some (o6, o7, o8, o9, o0, o1, o2, o3, o4, o5), X.2.2.1, X.2.2.2.1, X.2.2.2.2.1, X.2.2.2.2.2))
  | some (a0_primes_table, a0_primes_many), none => wp_X8_span_c10 mc ms a0_primes_table a0_primes_many p1 p2 (fun r g0 => Q r (some (a0_primes_table, a0_primes_many), g0, X.2.2.1, X.2.2.2.1, X.2.2.2.2.1, X.2.2.2.2.2))
  | some (a0_primes_table, a0_primes_many), some (a0_sieved_leasts, a0_sieved_greatests, a0_sieved_rests, a0_sieved_squared_words, a0_sieved_from, a0_sieved_many, a0_sieved_primeCount, a0_sieved_gap, a0_sieved_twins, a0_sieved_squareFree) => mc = 0 ∧ ms = 0 ∧ wp_X8_span_c11 a0_primes_table a0_primes_many a0_sieved_leasts a0_sieved_greatests a0_sieved_rests a0_sieved_squared_words a0_sieved_from a0_sieved_many a0_sieved_primeCount a0_sieved_gap a0_sieved_twins a0_sieved_squareFree p1 p2 (fun r o0 o1 o2 o3 o4 o5 o6 o7 o8 o9 => Q r (some (a0_primes_table, a0_primes_many), some (o6, o7, o8, o9, o0, o1, o2, o3, o4, o5), X.2.2.1, X.2.2.2.1, X.2.2.2.2.1, X.2.2.2.2.2))
abbrev rmx_span (mc ms : Nat) : Room := { frames := 5, cells := mc, slots := ms, locals := 111 }
set_option maxHeartbeats 4000000 in
set_option maxRecDepth 100000 in
theorem cx_span (l : Launch) (dC : Nat → ClassId) (dI : Nat → Nat → Nat) (cI cJ cZ : ClassId) (sz : Nat) (h0 mc ms : Nat) (X : XS_) (p1 : Int64) (p2 : Int32) (Q : Int32 → XC_ → Prop) (hQ : wpx_span mc ms (xc_ X) p1 p2 Q) : Met l yX8_span wsX8_span (rmx_span mc ms) (pre_ dC dI cI cJ cZ [.ref h0, .long p1, .int p2] (xcells cI cJ cZ h0 X) sz) (va_Qi (fun (r : Int32) (X : XS_) => Q r (xc_ X)) (post_ dC dI (va_A (xcells cI cJ cZ h0 X) sz) (xcells cI cJ cZ h0)) (va_A (xcells cI cJ cZ h0 X) sz)) mc ms (va_A (xcells cI cJ cZ h0 X) sz) := by
  obtain ⟨oP, oS, oT, oU, oG, oR⟩ := X
  rcases oP with _ | ⟨⟨h_a0_primes, q_a0_primes_table⟩, ⟨a0_primes_table, a0_primes_many⟩⟩
  · rcases oS with _ | ⟨⟨h_a0_sieved, q_a0_sieved_leasts, q_a0_sieved_greatests, q_a0_sieved_rests, h_a0_sieved_squared, q_a0_sieved_squared_words⟩, ⟨a0_sieved_leasts, a0_sieved_greatests, a0_sieved_rests, a0_sieved_squared_words, a0_sieved_from, a0_sieved_many, a0_sieved_primeCount, a0_sieved_gap, a0_sieved_twins, a0_sieved_squareFree⟩⟩
    · replace hQ : wp_X8_span_c00 mc ms p1 p2 (fun r g0 g1 => Q r (g0, g1, (oT.map Prod.snd), (oU.map Prod.snd), (oG.map Prod.snd), (oR.map Prod.snd))) := hQ
      refine lift_i (c_X8_span_c00 l dC dI cI cJ cZ sz mc ms h0 (vT_ oT) (vU_ oU) (vG_ oG) (vR_ oR) p1 p2 _ hQ) (kT_ cI cJ cZ oT ++ (kU_ cI cJ cZ oU ++ (kG_ cI cJ cZ oG ++ (kR_ cI cJ cZ oR)))) rfl ?_ (fun u => (u.1, u.2, oT, oU, oG, oR)) ?_ ?_
      · exact blk_perm (fun i q => by simp only [xcells, vP_, kP_, vS_, kS_, vT_, kT_, vU_, kU_, vG_, kG_, vR_, kR_, List.count_append, List.count_cons, List.count_nil, Nat.zero_add, Nat.add_zero, List.nil_append, List.append_nil] <;> first | rfl | ac_rfl | omega)
      · exact fun r u h => h
      · intro u
        obtain ⟨g0, g1⟩ := u
        rcases g0 with _ | ⟨w1, w2⟩ <;> rcases g1 with _ | ⟨w1, w2⟩ <;> exact blk_perm (fun i q => by simp only [xcells, vP_, kP_, vS_, kS_, vT_, kT_, vU_, kU_, vG_, kG_, vR_, kR_, List.count_append, List.count_cons, List.count_nil, Nat.zero_add, Nat.add_zero, List.nil_append, List.append_nil] <;> first | rfl | ac_rfl | omega)
    · replace hQ : wp_X8_span_c01 mc ms a0_sieved_leasts a0_sieved_greatests a0_sieved_rests a0_sieved_squared_words a0_sieved_from a0_sieved_many a0_sieved_primeCount a0_sieved_gap a0_sieved_twins a0_sieved_squareFree p1 p2 (fun r o0 o1 o2 o3 o4 o5 o6 o7 o8 o9 g0 => Q r (g0, some (o6, o7, o8, o9, o0, o1, o2, o3, o4, o5), (oT.map Prod.snd), (oU.map Prod.snd), (oG.map Prod.snd), (oR.map Prod.snd))) := hQ
      refine lift_i (c_X8_span_c01 l dC dI cI cJ cZ sz mc ms h0 h_a0_sieved a0_sieved_leasts q_a0_sieved_leasts a0_sieved_greatests q_a0_sieved_greatests a0_sieved_rests q_a0_sieved_rests h_a0_sieved_squared a0_sieved_squared_words q_a0_sieved_squared_words a0_sieved_from a0_sieved_many a0_sieved_primeCount a0_sieved_gap a0_sieved_twins a0_sieved_squareFree (vT_ oT) (vU_ oU) (vG_ oG) (vR_ oR) p1 p2 _ hQ) (kT_ cI cJ cZ oT ++ (kU_ cI cJ cZ oU ++ (kG_ cI cJ cZ oG ++ (kR_ cI cJ cZ oR)))) rfl ?_ (fun u => (u.2.2.2.2.2.2.2.2.2.2, some ((h_a0_sieved, q_a0_sieved_leasts, q_a0_sieved_greatests, q_a0_sieved_rests, h_a0_sieved_squared, q_a0_sieved_squared_words), (u.2.2.2.2.2.2.1, u.2.2.2.2.2.2.2.1, u.2.2.2.2.2.2.2.2.1, u.2.2.2.2.2.2.2.2.2.1, u.1, u.2.1, u.2.2.1, u.2.2.2.1, u.2.2.2.2.1, u.2.2.2.2.2.1)), oT, oU, oG, oR)) ?_ ?_
      · exact blk_perm (fun i q => by simp only [xcells, vP_, kP_, vS_, kS_, vT_, kT_, vU_, kU_, vG_, kG_, vR_, kR_, List.count_append, List.count_cons, List.count_nil, Nat.zero_add, Nat.add_zero, List.nil_append, List.append_nil] <;> first | rfl | ac_rfl | omega)
      · exact fun r u h => h
      · intro u
        obtain ⟨y0, y1, y2, y3, y4, y5, y6, y7, y8, y9, g0⟩ := u
        rcases g0 with _ | ⟨w1, w2⟩ <;> exact blk_perm (fun i q => by simp only [xcells, vP_, kP_, vS_, kS_, vT_, kT_, vU_, kU_, vG_, kG_, vR_, kR_, List.count_append, List.count_cons, List.count_nil, Nat.zero_add, Nat.add_zero, List.nil_append, List.append_nil] <;> first | rfl | ac_rfl | omega)
  · rcases oS with _ | ⟨⟨h_a0_sieved, q_a0_sieved_leasts, q_a0_sieved_greatests, q_a0_sieved_rests, h_a0_sieved_squared, q_a0_sieved_squared_words⟩, ⟨a0_sieved_leasts, a0_sieved_greatests, a0_sieved_rests, a0_sieved_squared_words, a0_sieved_from, a0_sieved_many, a0_sieved_primeCount, a0_sieved_gap, a0_sieved_twins, a0_sieved_squareFree⟩⟩
    · replace hQ : wp_X8_span_c10 mc ms a0_primes_table a0_primes_many p1 p2 (fun r g0 => Q r (some (a0_primes_table, a0_primes_many), g0, (oT.map Prod.snd), (oU.map Prod.snd), (oG.map Prod.snd), (oR.map Prod.snd))) := hQ
      refine lift_i (c_X8_span_c10 l dC dI cI cJ cZ sz mc ms h0 h_a0_primes a0_primes_table q_a0_primes_table a0_primes_many (vT_ oT) (vU_ oU) (vG_ oG) (vR_ oR) p1 p2 _ hQ) (kT_ cI cJ cZ oT ++ (kU_ cI cJ cZ oU ++ (kG_ cI cJ cZ oG ++ (kR_ cI cJ cZ oR)))) rfl ?_ (fun u => (some ((h_a0_primes, q_a0_primes_table), (a0_primes_table, a0_primes_many)), u, oT, oU, oG, oR)) ?_ ?_
      · exact blk_perm (fun i q => by simp only [xcells, vP_, kP_, vS_, kS_, vT_, kT_, vU_, kU_, vG_, kG_, vR_, kR_, List.count_append, List.count_cons, List.count_nil, Nat.zero_add, Nat.add_zero, List.nil_append, List.append_nil] <;> first | rfl | ac_rfl | omega)
      · exact fun r u h => h
      · intro u
        obtain ⟨g0, rfl⟩ : ∃ z, z = u := ⟨_, rfl⟩
        rcases g0 with _ | ⟨w1, w2⟩ <;> exact blk_perm (fun i q => by simp only [xcells, vP_, kP_, vS_, kS_, vT_, kT_, vU_, kU_, vG_, kG_, vR_, kR_, List.count_append, List.count_cons, List.count_nil, Nat.zero_add, Nat.add_zero, List.nil_append, List.append_nil] <;> first | rfl | ac_rfl | omega)
    · obtain ⟨rfl, rfl, hQ⟩ := hQ
      refine lift_i (c_X8_span_c11 l dC dI cI cJ cZ sz h0 h_a0_primes a0_primes_table q_a0_primes_table a0_primes_many h_a0_sieved a0_sieved_leasts q_a0_sieved_leasts a0_sieved_greatests q_a0_sieved_greatests a0_sieved_rests q_a0_sieved_rests h_a0_sieved_squared a0_sieved_squared_words q_a0_sieved_squared_words a0_sieved_from a0_sieved_many a0_sieved_primeCount a0_sieved_gap a0_sieved_twins a0_sieved_squareFree (vT_ oT) (vU_ oU) (vG_ oG) (vR_ oR) p1 p2 _ hQ) (kT_ cI cJ cZ oT ++ (kU_ cI cJ cZ oU ++ (kG_ cI cJ cZ oG ++ (kR_ cI cJ cZ oR)))) rfl ?_ (fun u => (some ((h_a0_primes, q_a0_primes_table), (a0_primes_table, a0_primes_many)), some ((h_a0_sieved, q_a0_sieved_leasts, q_a0_sieved_greatests, q_a0_sieved_rests, h_a0_sieved_squared, q_a0_sieved_squared_words), (u.2.2.2.2.2.2.1, u.2.2.2.2.2.2.2.1, u.2.2.2.2.2.2.2.2.1, u.2.2.2.2.2.2.2.2.2, u.1, u.2.1, u.2.2.1, u.2.2.2.1, u.2.2.2.2.1, u.2.2.2.2.2.1)), oT, oU, oG, oR)) ?_ ?_
      · exact blk_perm (fun i q => by simp only [xcells, vP_, kP_, vS_, kS_, vT_, kT_, vU_, kU_, vG_, kG_, vR_, kR_, List.count_append, List.count_cons, List.count_nil, Nat.zero_add, Nat.add_zero, List.nil_append, List.append_nil] <;> first | rfl | ac_rfl | omega)
      · exact fun r u h => h
      · intro u
        obtain ⟨y0, y1, y2, y3, y4, y5, y6, y7, y8, y9⟩ := u
        exact blk_perm (fun i q => by simp only [xcells, vP_, kP_, vS_, kS_, vT_, kT_, vU_, kU_, vG_, kG_, vR_, kR_, List.count_append, List.count_cons, List.count_nil, Nat.zero_add, Nat.add_zero, List.nil_append, List.append_nil] <;> first | rfl | ac_rfl | omega)
def wpx_count (mc ms : Nat) (X : XC_) (p1 : Int32) (Q : Int32 → XC_ → Prop) : Prop :=
  match X.2.2.2.1 with
  | none => wp_X8_count_c0 mc ms p1 (fun r g0 => Q r (X.1, X.2.1, X.2.2.1, g0, X.2.2.2.2.1, X.2.2.2.2.2))
  | some (a0_primeSums_low, a0_primeSums_high) => mc = 0 ∧ ms = 0 ∧ wp_X8_count_c1 a0_primeSums_low a0_primeSums_high p1 (fun r o0 o1 => Q r (X.1, X.2.1, X.2.2.1, some (o0, o1), X.2.2.2.2.1, X.2.2.2.2.2))
abbrev rmx_count (mc ms : Nat) : Room := { frames := 3, cells := mc, slots := ms, locals := 78 }
set_option maxHeartbeats 4000000 in
set_option maxRecDepth 100000 in
theorem cx_count (l : Launch) (dC : Nat → ClassId) (dI : Nat → Nat → Nat) (cI cJ cZ : ClassId) (sz : Nat) (h0 mc ms : Nat) (X : XS_) (p1 : Int32) (Q : Int32 → XC_ → Prop) (hQ : wpx_count mc ms (xc_ X) p1 Q) : Met l yX8_count wsX8_count (rmx_count mc ms) (pre_ dC dI cI cJ cZ [.ref h0, .int p1] (xcells cI cJ cZ h0 X) sz) (va_Qi (fun (r : Int32) (X : XS_) => Q r (xc_ X)) (post_ dC dI (va_A (xcells cI cJ cZ h0 X) sz) (xcells cI cJ cZ h0)) (va_A (xcells cI cJ cZ h0 X) sz)) mc ms (va_A (xcells cI cJ cZ h0 X) sz) := by
  obtain ⟨oP, oS, oT, oU, oG, oR⟩ := X
  rcases oU with _ | ⟨⟨h_a0_primeSums, q_a0_primeSums_low, q_a0_primeSums_high⟩, ⟨a0_primeSums_low, a0_primeSums_high⟩⟩
  · replace hQ : wp_X8_count_c0 mc ms p1 (fun r g0 => Q r ((oP.map Prod.snd), (oS.map Prod.snd), (oT.map Prod.snd), g0, (oG.map Prod.snd), (oR.map Prod.snd))) := hQ
    refine lift_i (c_X8_count_c0 l dC dI cI cJ cZ sz mc ms h0 (vP_ oP) (vS_ oS) (vT_ oT) (vG_ oG) (vR_ oR) p1 _ hQ) (kP_ cI cJ cZ oP ++ (kS_ cI cJ cZ oS ++ (kT_ cI cJ cZ oT ++ (kG_ cI cJ cZ oG ++ (kR_ cI cJ cZ oR))))) rfl ?_ (fun u => (oP, oS, oT, u, oG, oR)) ?_ ?_
    · exact blk_perm (fun i q => by simp only [xcells, vP_, kP_, vS_, kS_, vT_, kT_, vU_, kU_, vG_, kG_, vR_, kR_, List.count_append, List.count_cons, List.count_nil, Nat.zero_add, Nat.add_zero, List.nil_append, List.append_nil] <;> first | rfl | ac_rfl | omega)
    · exact fun r u h => h
    · intro u
      obtain ⟨g0, rfl⟩ : ∃ z, z = u := ⟨_, rfl⟩
      rcases g0 with _ | ⟨w1, w2⟩ <;> exact blk_perm (fun i q => by simp only [xcells, vP_, kP_, vS_, kS_, vT_, kT_, vU_, kU_, vG_, kG_, vR_, kR_, List.count_append, List.count_cons, List.count_nil, Nat.zero_add, Nat.add_zero, List.nil_append, List.append_nil] <;> first | rfl | ac_rfl | omega)
  · obtain ⟨rfl, rfl, hQ⟩ := hQ
    refine lift_i (c_X8_count_c1 l dC dI cI cJ cZ sz h0 (vP_ oP) (vS_ oS) (vT_ oT) h_a0_primeSums a0_primeSums_low q_a0_primeSums_low a0_primeSums_high q_a0_primeSums_high (vG_ oG) (vR_ oR) p1 _ hQ) (kP_ cI cJ cZ oP ++ (kS_ cI cJ cZ oS ++ (kT_ cI cJ cZ oT ++ (kG_ cI cJ cZ oG ++ (kR_ cI cJ cZ oR))))) rfl ?_ (fun u => (oP, oS, oT, some ((h_a0_primeSums, q_a0_primeSums_low, q_a0_primeSums_high), (u.1, u.2)), oG, oR)) ?_ ?_
    · exact blk_perm (fun i q => by simp only [xcells, vP_, kP_, vS_, kS_, vT_, kT_, vU_, kU_, vG_, kG_, vR_, kR_, List.count_append, List.count_cons, List.count_nil, Nat.zero_add, Nat.add_zero, List.nil_append, List.append_nil] <;> first | rfl | ac_rfl | omega)
    · exact fun r u h => h
    · intro u
      obtain ⟨y0, y1⟩ := u
      exact blk_perm (fun i q => by simp only [xcells, vP_, kP_, vS_, kS_, vT_, kT_, vU_, kU_, vG_, kG_, vR_, kR_, List.count_append, List.count_cons, List.count_nil, Nat.zero_add, Nat.add_zero, List.nil_append, List.append_nil] <;> first | rfl | ac_rfl | omega)
def wpx_sum (mc ms : Nat) (X : XC_) (p1 : Int32) (Q : Int64 → XC_ → Prop) : Prop :=
  match X.2.2.2.1 with
  | none => wp_X8_sum_c0 mc ms p1 (fun r g0 => Q r (X.1, X.2.1, X.2.2.1, g0, X.2.2.2.2.1, X.2.2.2.2.2))
  | some (a0_primeSums_low, a0_primeSums_high) => mc = 0 ∧ ms = 0 ∧ wp_X8_sum_c1 a0_primeSums_low a0_primeSums_high p1 (fun r o0 o1 => Q r (X.1, X.2.1, X.2.2.1, some (o0, o1), X.2.2.2.2.1, X.2.2.2.2.2))
abbrev rmx_sum (mc ms : Nat) : Room := { frames := 3, cells := mc, slots := ms, locals := 78 }
set_option maxHeartbeats 4000000 in
set_option maxRecDepth 100000 in
theorem cx_sum (l : Launch) (dC : Nat → ClassId) (dI : Nat → Nat → Nat) (cI cJ cZ : ClassId) (sz : Nat) (h0 mc ms : Nat) (X : XS_) (p1 : Int32) (Q : Int64 → XC_ → Prop) (hQ : wpx_sum mc ms (xc_ X) p1 Q) : Met l yX8_sum wsX8_sum (rmx_sum mc ms) (pre_ dC dI cI cJ cZ [.ref h0, .int p1] (xcells cI cJ cZ h0 X) sz) (va_Ql (fun (r : Int64) (X : XS_) => Q r (xc_ X)) (post_ dC dI (va_A (xcells cI cJ cZ h0 X) sz) (xcells cI cJ cZ h0)) (va_A (xcells cI cJ cZ h0 X) sz)) mc ms (va_A (xcells cI cJ cZ h0 X) sz) := by
  obtain ⟨oP, oS, oT, oU, oG, oR⟩ := X
  rcases oU with _ | ⟨⟨h_a0_primeSums, q_a0_primeSums_low, q_a0_primeSums_high⟩, ⟨a0_primeSums_low, a0_primeSums_high⟩⟩
  · replace hQ : wp_X8_sum_c0 mc ms p1 (fun r g0 => Q r ((oP.map Prod.snd), (oS.map Prod.snd), (oT.map Prod.snd), g0, (oG.map Prod.snd), (oR.map Prod.snd))) := hQ
    refine lift_l (c_X8_sum_c0 l dC dI cI cJ cZ sz mc ms h0 (vP_ oP) (vS_ oS) (vT_ oT) (vG_ oG) (vR_ oR) p1 _ hQ) (kP_ cI cJ cZ oP ++ (kS_ cI cJ cZ oS ++ (kT_ cI cJ cZ oT ++ (kG_ cI cJ cZ oG ++ (kR_ cI cJ cZ oR))))) rfl ?_ (fun u => (oP, oS, oT, u, oG, oR)) ?_ ?_
    · exact blk_perm (fun i q => by simp only [xcells, vP_, kP_, vS_, kS_, vT_, kT_, vU_, kU_, vG_, kG_, vR_, kR_, List.count_append, List.count_cons, List.count_nil, Nat.zero_add, Nat.add_zero, List.nil_append, List.append_nil] <;> first | rfl | ac_rfl | omega)
    · exact fun r u h => h
    · intro u
      obtain ⟨g0, rfl⟩ : ∃ z, z = u := ⟨_, rfl⟩
      rcases g0 with _ | ⟨w1, w2⟩ <;> exact blk_perm (fun i q => by simp only [xcells, vP_, kP_, vS_, kS_, vT_, kT_, vU_, kU_, vG_, kG_, vR_, kR_, List.count_append, List.count_cons, List.count_nil, Nat.zero_add, Nat.add_zero, List.nil_append, List.append_nil] <;> first | rfl | ac_rfl | omega)
  · obtain ⟨rfl, rfl, hQ⟩ := hQ
    refine lift_l (c_X8_sum_c1 l dC dI cI cJ cZ sz h0 (vP_ oP) (vS_ oS) (vT_ oT) h_a0_primeSums a0_primeSums_low q_a0_primeSums_low a0_primeSums_high q_a0_primeSums_high (vG_ oG) (vR_ oR) p1 _ hQ) (kP_ cI cJ cZ oP ++ (kS_ cI cJ cZ oS ++ (kT_ cI cJ cZ oT ++ (kG_ cI cJ cZ oG ++ (kR_ cI cJ cZ oR))))) rfl ?_ (fun u => (oP, oS, oT, some ((h_a0_primeSums, q_a0_primeSums_low, q_a0_primeSums_high), (u.1, u.2)), oG, oR)) ?_ ?_
    · exact blk_perm (fun i q => by simp only [xcells, vP_, kP_, vS_, kS_, vT_, kT_, vU_, kU_, vG_, kG_, vR_, kR_, List.count_append, List.count_cons, List.count_nil, Nat.zero_add, Nat.add_zero, List.nil_append, List.append_nil] <;> first | rfl | ac_rfl | omega)
    · exact fun r u h => h
    · intro u
      obtain ⟨y0, y1⟩ := u
      exact blk_perm (fun i q => by simp only [xcells, vP_, kP_, vS_, kS_, vT_, kT_, vU_, kU_, vG_, kG_, vR_, kR_, List.count_append, List.count_cons, List.count_nil, Nat.zero_add, Nat.add_zero, List.nil_append, List.append_nil] <;> first | rfl | ac_rfl | omega)
def wpx_floors (mc ms : Nat) (X : XC_) (p1 : Int32) (p2 : Int32) (p3 : Int32) (p4 : Int32) (Q : Int64 → XC_ → Prop) : Prop :=
  mc = 0 ∧ ms = 0 ∧ wp_X8_floors p1 p2 p3 p4 (fun r => Q r (X.1, X.2.1, X.2.2.1, X.2.2.2.1, X.2.2.2.2.1, X.2.2.2.2.2))
abbrev rmx_floors (mc ms : Nat) : Room := { frames := 1, cells := mc, slots := ms, locals := 34 }
set_option maxHeartbeats 4000000 in
set_option maxRecDepth 100000 in
theorem cx_floors (l : Launch) (dC : Nat → ClassId) (dI : Nat → Nat → Nat) (cI cJ cZ : ClassId) (sz : Nat) (h0 mc ms : Nat) (X : XS_) (p1 : Int32) (p2 : Int32) (p3 : Int32) (p4 : Int32) (Q : Int64 → XC_ → Prop) (hQ : wpx_floors mc ms (xc_ X) p1 p2 p3 p4 Q) : Met l yX8_floors wsX8_floors (rmx_floors mc ms) (pre_ dC dI cI cJ cZ [.ref h0, .int p1, .int p2, .int p3, .int p4] (xcells cI cJ cZ h0 X) sz) (va_Ql (fun (r : Int64) (X : XS_) => Q r (xc_ X)) (post_ dC dI (va_A (xcells cI cJ cZ h0 X) sz) (xcells cI cJ cZ h0)) (va_A (xcells cI cJ cZ h0 X) sz)) mc ms (va_A (xcells cI cJ cZ h0 X) sz) := by
  obtain ⟨oP, oS, oT, oU, oG, oR⟩ := X
  obtain ⟨rfl, rfl, hQ⟩ := hQ
  refine lift_l (c_X8_floors l dC dI cI cJ cZ sz h0 (vP_ oP) (vS_ oS) (vT_ oT) (vU_ oU) (vG_ oG) (vR_ oR) p1 p2 p3 p4 _ hQ) (kP_ cI cJ cZ oP ++ (kS_ cI cJ cZ oS ++ (kT_ cI cJ cZ oT ++ (kU_ cI cJ cZ oU ++ (kG_ cI cJ cZ oG ++ (kR_ cI cJ cZ oR)))))) rfl ?_ (fun u => (oP, oS, oT, oU, oG, oR)) ?_ ?_
  · exact blk_perm (fun i q => by simp only [xcells, vP_, kP_, vS_, kS_, vT_, kT_, vU_, kU_, vG_, kG_, vR_, kR_, List.count_append, List.count_cons, List.count_nil, Nat.zero_add, Nat.add_zero, List.nil_append, List.append_nil] <;> first | rfl | ac_rfl | omega)
  · exact fun r u h => h
  · intro u
    exact blk_perm (fun i q => by simp only [xcells, vP_, kP_, vS_, kS_, vT_, kT_, vU_, kU_, vG_, kG_, vR_, kR_, List.count_append, List.count_cons, List.count_nil, Nat.zero_add, Nat.add_zero, List.nil_append, List.append_nil] <;> first | rfl | ac_rfl | omega)
def wpx_points (mc ms : Nat) (X : XC_) (p1 : Int64) (Q : Int64 → XC_ → Prop) : Prop :=
  mc = 0 ∧ ms = 0 ∧ wp_X8_points p1 (fun r => Q r (X.1, X.2.1, X.2.2.1, X.2.2.2.1, X.2.2.2.2.1, X.2.2.2.2.2))
abbrev rmx_points (mc ms : Nat) : Room := { frames := 2, cells := mc, slots := ms, locals := 53 }
set_option maxHeartbeats 4000000 in
set_option maxRecDepth 100000 in
theorem cx_points (l : Launch) (dC : Nat → ClassId) (dI : Nat → Nat → Nat) (cI cJ cZ : ClassId) (sz : Nat) (h0 mc ms : Nat) (X : XS_) (p1 : Int64) (Q : Int64 → XC_ → Prop) (hQ : wpx_points mc ms (xc_ X) p1 Q) : Met l yX8_points wsX8_points (rmx_points mc ms) (pre_ dC dI cI cJ cZ [.ref h0, .long p1] (xcells cI cJ cZ h0 X) sz) (va_Ql (fun (r : Int64) (X : XS_) => Q r (xc_ X)) (post_ dC dI (va_A (xcells cI cJ cZ h0 X) sz) (xcells cI cJ cZ h0)) (va_A (xcells cI cJ cZ h0 X) sz)) mc ms (va_A (xcells cI cJ cZ h0 X) sz) := by
  obtain ⟨oP, oS, oT, oU, oG, oR⟩ := X
  obtain ⟨rfl, rfl, hQ⟩ := hQ
  refine lift_l (c_X8_points l dC dI cI cJ cZ sz h0 (vP_ oP) (vS_ oS) (vT_ oT) (vU_ oU) (vG_ oG) (vR_ oR) p1 _ hQ) (kP_ cI cJ cZ oP ++ (kS_ cI cJ cZ oS ++ (kT_ cI cJ cZ oT ++ (kU_ cI cJ cZ oU ++ (kG_ cI cJ cZ oG ++ (kR_ cI cJ cZ oR)))))) rfl ?_ (fun u => (oP, oS, oT, oU, oG, oR)) ?_ ?_
  · exact blk_perm (fun i q => by simp only [xcells, vP_, kP_, vS_, kS_, vT_, kT_, vU_, kU_, vG_, kG_, vR_, kR_, List.count_append, List.count_cons, List.count_nil, Nat.zero_add, Nat.add_zero, List.nil_append, List.append_nil] <;> first | rfl | ac_rfl | omega)
  · exact fun r u h => h
  · intro u
    exact blk_perm (fun i q => by simp only [xcells, vP_, kP_, vS_, kS_, vT_, kT_, vU_, kU_, vG_, kG_, vR_, kR_, List.count_append, List.count_cons, List.count_nil, Nat.zero_add, Nat.add_zero, List.nil_append, List.append_nil] <;> first | rfl | ac_rfl | omega)
def wpx_rule (mc ms : Nat) (X : XC_) (p1 : Int32) (Q : Int32 → XC_ → Prop) : Prop :=
  match X.2.2.2.2.2 with
  | none => wp_X8_rule_c0 mc ms p1 (fun r g0 => Q r (X.1, X.2.1, X.2.2.1, X.2.2.2.1, X.2.2.2.2.1, g0))
  | some (a0_rows_values, a0_rows_many) => mc = 0 ∧ ms = 0 ∧ wp_X8_rule_c1 a0_rows_values a0_rows_many p1 (fun r o0 o1 => Q r (X.1, X.2.1, X.2.2.1, X.2.2.2.1, X.2.2.2.2.1, some (o1, o0)))
abbrev rmx_rule (mc ms : Nat) : Room := { frames := 4, cells := mc, slots := ms, locals := 87 }
set_option maxHeartbeats 4000000 in
set_option maxRecDepth 100000 in
theorem cx_rule (l : Launch) (dC : Nat → ClassId) (dI : Nat → Nat → Nat) (cI cJ cZ : ClassId) (sz : Nat) (h0 mc ms : Nat) (X : XS_) (p1 : Int32) (Q : Int32 → XC_ → Prop) (hQ : wpx_rule mc ms (xc_ X) p1 Q) : Met l yX8_rule wsX8_rule (rmx_rule mc ms) (pre_ dC dI cI cJ cZ [.ref h0, .int p1] (xcells cI cJ cZ h0 X) sz) (va_Qi (fun (r : Int32) (X : XS_) => Q r (xc_ X)) (post_ dC dI (va_A (xcells cI cJ cZ h0 X) sz) (xcells cI cJ cZ h0)) (va_A (xcells cI cJ cZ h0 X) sz)) mc ms (va_A (xcells cI cJ cZ h0 X) sz) := by
  obtain ⟨oP, oS, oT, oU, oG, oR⟩ := X
  rcases oR with _ | ⟨⟨h_a0_rows, q_a0_rows_values⟩, ⟨a0_rows_values, a0_rows_many⟩⟩
  · replace hQ : wp_X8_rule_c0 mc ms p1 (fun r g0 => Q r ((oP.map Prod.snd), (oS.map Prod.snd), (oT.map Prod.snd), (oU.map Prod.snd), (oG.map Prod.snd), g0)) := hQ
    refine lift_i (c_X8_rule_c0 l dC dI cI cJ cZ sz mc ms h0 (vP_ oP) (vS_ oS) (vT_ oT) (vU_ oU) (vG_ oG) p1 _ hQ) (kP_ cI cJ cZ oP ++ (kS_ cI cJ cZ oS ++ (kT_ cI cJ cZ oT ++ (kU_ cI cJ cZ oU ++ (kG_ cI cJ cZ oG))))) rfl ?_ (fun u => (oP, oS, oT, oU, oG, u)) ?_ ?_
    · exact blk_perm (fun i q => by simp only [xcells, vP_, kP_, vS_, kS_, vT_, kT_, vU_, kU_, vG_, kG_, vR_, kR_, List.count_append, List.count_cons, List.count_nil, Nat.zero_add, Nat.add_zero, List.nil_append, List.append_nil] <;> first | rfl | ac_rfl | omega)
    · exact fun r u h => h
    · intro u
      obtain ⟨g0, rfl⟩ : ∃ z, z = u := ⟨_, rfl⟩
      rcases g0 with _ | ⟨w1, w2⟩ <;> exact blk_perm (fun i q => by simp only [xcells, vP_, kP_, vS_, kS_, vT_, kT_, vU_, kU_, vG_, kG_, vR_, kR_, List.count_append, List.count_cons, List.count_nil, Nat.zero_add, Nat.add_zero, List.nil_append, List.append_nil] <;> first | rfl | ac_rfl | omega)
  · obtain ⟨rfl, rfl, hQ⟩ := hQ
    refine lift_i (c_X8_rule_c1 l dC dI cI cJ cZ sz h0 (vP_ oP) (vS_ oS) (vT_ oT) (vU_ oU) (vG_ oG) h_a0_rows a0_rows_values q_a0_rows_values a0_rows_many p1 _ hQ) (kP_ cI cJ cZ oP ++ (kS_ cI cJ cZ oS ++ (kT_ cI cJ cZ oT ++ (kU_ cI cJ cZ oU ++ (kG_ cI cJ cZ oG))))) rfl ?_ (fun u => (oP, oS, oT, oU, oG, some ((h_a0_rows, q_a0_rows_values), (u.2, u.1)))) ?_ ?_
    · exact blk_perm (fun i q => by simp only [xcells, vP_, kP_, vS_, kS_, vT_, kT_, vU_, kU_, vG_, kG_, vR_, kR_, List.count_append, List.count_cons, List.count_nil, Nat.zero_add, Nat.add_zero, List.nil_append, List.append_nil] <;> first | rfl | ac_rfl | omega)
    · exact fun r u h => h
    · intro u
      obtain ⟨y0, y1⟩ := u
      exact blk_perm (fun i q => by simp only [xcells, vP_, kP_, vS_, kS_, vT_, kT_, vU_, kU_, vG_, kG_, vR_, kR_, List.count_append, List.count_cons, List.count_nil, Nat.zero_add, Nat.add_zero, List.nil_append, List.append_nil] <;> first | rfl | ac_rfl | omega)
def wpx_sheet (mc ms : Nat) (X : XC_)  (Q : Int32 → XC_ → Prop) : Prop :=
  match X.2.2.2.2.2 with
  | none => mc = 2 ∧ ms = 9602 ∧ wp_X8_sheet_c0  (fun r n0 n1 => Q r (X.1, X.2.1, X.2.2.1, X.2.2.2.1, X.2.2.2.2.1, some (n0, n1)))
  | some (a0_rows_values, a0_rows_many) => mc = 0 ∧ ms = 0 ∧ wp_X8_sheet_c1 a0_rows_values a0_rows_many (fun r o0 o1 => Q r (X.1, X.2.1, X.2.2.1, X.2.2.2.1, X.2.2.2.2.1, some (o1, o0)))
abbrev rmx_sheet (mc ms : Nat) : Room := { frames := 4, cells := mc, slots := ms, locals := 87 }
set_option maxHeartbeats 4000000 in
set_option maxRecDepth 100000 in
theorem cx_sheet (l : Launch) (dC : Nat → ClassId) (dI : Nat → Nat → Nat) (cI cJ cZ : ClassId) (sz : Nat) (h0 mc ms : Nat) (X : XS_)  (Q : Int32 → XC_ → Prop) (hQ : wpx_sheet mc ms (xc_ X)  Q) : Met l yX8_sheet wsX8_sheet (rmx_sheet mc ms) (pre_ dC dI cI cJ cZ [.ref h0] (xcells cI cJ cZ h0 X) sz) (va_Qi (fun (r : Int32) (X : XS_) => Q r (xc_ X)) (post_ dC dI (va_A (xcells cI cJ cZ h0 X) sz) (xcells cI cJ cZ h0)) (va_A (xcells cI cJ cZ h0 X) sz)) mc ms (va_A (xcells cI cJ cZ h0 X) sz) := by
  obtain ⟨oP, oS, oT, oU, oG, oR⟩ := X
  rcases oR with _ | ⟨⟨h_a0_rows, q_a0_rows_values⟩, ⟨a0_rows_values, a0_rows_many⟩⟩
  · obtain ⟨rfl, rfl, hQ⟩ := hQ
    refine lift_i (c_X8_sheet_c0 l dC dI cI cJ cZ sz h0 (vP_ oP) (vS_ oS) (vT_ oT) (vU_ oU) (vG_ oG)  _ hQ) (kP_ cI cJ cZ oP ++ (kS_ cI cJ cZ oS ++ (kT_ cI cJ cZ oT ++ (kU_ cI cJ cZ oU ++ (kG_ cI cJ cZ oG))))) rfl ?_ (fun u => (oP, oS, oT, oU, oG, some ((u.1, u.2.1), (u.2.2.1, u.2.2.2)))) ?_ ?_
    · exact blk_perm (fun i q => by simp only [xcells, vP_, kP_, vS_, kS_, vT_, kT_, vU_, kU_, vG_, kG_, vR_, kR_, List.count_append, List.count_cons, List.count_nil, Nat.zero_add, Nat.add_zero, List.nil_append, List.append_nil] <;> first | rfl | ac_rfl | omega)
    · exact fun r u h => h
    · intro u
      obtain ⟨y0, y1, y2, y3⟩ := u
      exact blk_perm (fun i q => by simp only [xcells, vP_, kP_, vS_, kS_, vT_, kT_, vU_, kU_, vG_, kG_, vR_, kR_, List.count_append, List.count_cons, List.count_nil, Nat.zero_add, Nat.add_zero, List.nil_append, List.append_nil] <;> first | rfl | ac_rfl | omega)
  · obtain ⟨rfl, rfl, hQ⟩ := hQ
    refine lift_i (c_X8_sheet_c1 l dC dI cI cJ cZ sz h0 (vP_ oP) (vS_ oS) (vT_ oT) (vU_ oU) (vG_ oG) h_a0_rows a0_rows_values q_a0_rows_values a0_rows_many  _ hQ) (kP_ cI cJ cZ oP ++ (kS_ cI cJ cZ oS ++ (kT_ cI cJ cZ oT ++ (kU_ cI cJ cZ oU ++ (kG_ cI cJ cZ oG))))) rfl ?_ (fun u => (oP, oS, oT, oU, oG, some ((h_a0_rows, q_a0_rows_values), (u.2, u.1)))) ?_ ?_
    · exact blk_perm (fun i q => by simp only [xcells, vP_, kP_, vS_, kS_, vT_, kT_, vU_, kU_, vG_, kG_, vR_, kR_, List.count_append, List.count_cons, List.count_nil, Nat.zero_add, Nat.add_zero, List.nil_append, List.append_nil] <;> first | rfl | ac_rfl | omega)
    · exact fun r u h => h
    · intro u
      obtain ⟨y0, y1⟩ := u
      exact blk_perm (fun i q => by simp only [xcells, vP_, kP_, vS_, kS_, vT_, kT_, vU_, kU_, vG_, kG_, vR_, kR_, List.count_append, List.count_cons, List.count_nil, Nat.zero_add, Nat.add_zero, List.nil_append, List.append_nil] <;> first | rfl | ac_rfl | omega)
def wpx_tell (mc ms : Nat) (X : XC_) (p1 : Int32) (p2 : Int32) (p3 : Int64) (Q : Int32 → XC_ → Prop) : Prop :=
  match X.2.2.2.2.2 with
  | none => mc = 0 ∧ ms = 0 ∧ wp_X8_tell_c0 p1 p2 p3 (fun r => Q r (X.1, X.2.1, X.2.2.1, X.2.2.2.1, X.2.2.2.2.1, none))
  | some (a0_rows_values, a0_rows_many) => mc = 0 ∧ ms = 0 ∧ wp_X8_tell_c1 a0_rows_values a0_rows_many p1 p2 p3 (fun r o0 => Q r (X.1, X.2.1, X.2.2.1, X.2.2.2.1, X.2.2.2.2.1, some (o0, a0_rows_many)))
abbrev rmx_tell (mc ms : Nat) : Room := { frames := 2, cells := mc, slots := ms, locals := 45 }
set_option maxHeartbeats 4000000 in
set_option maxRecDepth 100000 in
theorem cx_tell (l : Launch) (dC : Nat → ClassId) (dI : Nat → Nat → Nat) (cI cJ cZ : ClassId) (sz : Nat) (h0 mc ms : Nat) (X : XS_) (p1 : Int32) (p2 : Int32) (p3 : Int64) (Q : Int32 → XC_ → Prop) (hQ : wpx_tell mc ms (xc_ X) p1 p2 p3 Q) : Met l yX8_tell wsX8_tell (rmx_tell mc ms) (pre_ dC dI cI cJ cZ [.ref h0, .int p1, .int p2, .long p3] (xcells cI cJ cZ h0 X) sz) (va_Qi (fun (r : Int32) (X : XS_) => Q r (xc_ X)) (post_ dC dI (va_A (xcells cI cJ cZ h0 X) sz) (xcells cI cJ cZ h0)) (va_A (xcells cI cJ cZ h0 X) sz)) mc ms (va_A (xcells cI cJ cZ h0 X) sz) := by
  obtain ⟨oP, oS, oT, oU, oG, oR⟩ := X
  rcases oR with _ | ⟨⟨h_a0_rows, q_a0_rows_values⟩, ⟨a0_rows_values, a0_rows_many⟩⟩
  · obtain ⟨rfl, rfl, hQ⟩ := hQ
    refine lift_i (c_X8_tell_c0 l dC dI cI cJ cZ sz h0 (vP_ oP) (vS_ oS) (vT_ oT) (vU_ oU) (vG_ oG) p1 p2 p3 _ hQ) (kP_ cI cJ cZ oP ++ (kS_ cI cJ cZ oS ++ (kT_ cI cJ cZ oT ++ (kU_ cI cJ cZ oU ++ (kG_ cI cJ cZ oG))))) rfl ?_ (fun u => (oP, oS, oT, oU, oG, none)) ?_ ?_
    · exact blk_perm (fun i q => by simp only [xcells, vP_, kP_, vS_, kS_, vT_, kT_, vU_, kU_, vG_, kG_, vR_, kR_, List.count_append, List.count_cons, List.count_nil, Nat.zero_add, Nat.add_zero, List.nil_append, List.append_nil] <;> first | rfl | ac_rfl | omega)
    · exact fun r u h => h
    · intro u
      exact blk_perm (fun i q => by simp only [xcells, vP_, kP_, vS_, kS_, vT_, kT_, vU_, kU_, vG_, kG_, vR_, kR_, List.count_append, List.count_cons, List.count_nil, Nat.zero_add, Nat.add_zero, List.nil_append, List.append_nil] <;> first | rfl | ac_rfl | omega)
  · obtain ⟨rfl, rfl, hQ⟩ := hQ
    refine lift_i (c_X8_tell_c1 l dC dI cI cJ cZ sz h0 (vP_ oP) (vS_ oS) (vT_ oT) (vU_ oU) (vG_ oG) h_a0_rows a0_rows_values q_a0_rows_values a0_rows_many p1 p2 p3 _ hQ) (kP_ cI cJ cZ oP ++ (kS_ cI cJ cZ oS ++ (kT_ cI cJ cZ oT ++ (kU_ cI cJ cZ oU ++ (kG_ cI cJ cZ oG))))) rfl ?_ (fun u => (oP, oS, oT, oU, oG, some ((h_a0_rows, q_a0_rows_values), (u, a0_rows_many)))) ?_ ?_
    · exact blk_perm (fun i q => by simp only [xcells, vP_, kP_, vS_, kS_, vT_, kT_, vU_, kU_, vG_, kG_, vR_, kR_, List.count_append, List.count_cons, List.count_nil, Nat.zero_add, Nat.add_zero, List.nil_append, List.append_nil] <;> first | rfl | ac_rfl | omega)
    · exact fun r u h => h
    · intro u
      obtain ⟨y0, rfl⟩ : ∃ z, z = u := ⟨_, rfl⟩
      exact blk_perm (fun i q => by simp only [xcells, vP_, kP_, vS_, kS_, vT_, kT_, vU_, kU_, vG_, kG_, vR_, kR_, List.count_append, List.count_cons, List.count_nil, Nat.zero_add, Nat.add_zero, List.nil_append, List.append_nil] <;> first | rfl | ac_rfl | omega)
def wpx_product (mc ms : Nat) (X : XC_) (p1 : Int32) (p2 : Int32) (Q : Int32 → XC_ → Prop) : Prop :=
  match X.2.2.2.2.2 with
  | none => wp_X8_product_c0 mc ms p1 p2 (fun r g0 => Q r (X.1, X.2.1, X.2.2.1, X.2.2.2.1, X.2.2.2.2.1, g0))
  | some (a0_rows_values, a0_rows_many) => mc = 0 ∧ ms = 0 ∧ wp_X8_product_c1 a0_rows_values a0_rows_many p1 p2 (fun r o0 o1 => Q r (X.1, X.2.1, X.2.2.1, X.2.2.2.1, X.2.2.2.2.1, some (o1, o0)))
abbrev rmx_product (mc ms : Nat) : Room := { frames := 4, cells := mc, slots := ms, locals := 96 }
set_option maxHeartbeats 4000000 in
set_option maxRecDepth 100000 in
theorem cx_product (l : Launch) (dC : Nat → ClassId) (dI : Nat → Nat → Nat) (cI cJ cZ : ClassId) (sz : Nat) (h0 mc ms : Nat) (X : XS_) (p1 : Int32) (p2 : Int32) (Q : Int32 → XC_ → Prop) (hQ : wpx_product mc ms (xc_ X) p1 p2 Q) : Met l yX8_product wsX8_product (rmx_product mc ms) (pre_ dC dI cI cJ cZ [.ref h0, .int p1, .int p2] (xcells cI cJ cZ h0 X) sz) (va_Qi (fun (r : Int32) (X : XS_) => Q r (xc_ X)) (post_ dC dI (va_A (xcells cI cJ cZ h0 X) sz) (xcells cI cJ cZ h0)) (va_A (xcells cI cJ cZ h0 X) sz)) mc ms (va_A (xcells cI cJ cZ h0 X) sz) := by
  obtain ⟨oP, oS, oT, oU, oG, oR⟩ := X
  rcases oR with _ | ⟨⟨h_a0_rows, q_a0_rows_values⟩, ⟨a0_rows_values, a0_rows_many⟩⟩
  · replace hQ : wp_X8_product_c0 mc ms p1 p2 (fun r g0 => Q r ((oP.map Prod.snd), (oS.map Prod.snd), (oT.map Prod.snd), (oU.map Prod.snd), (oG.map Prod.snd), g0)) := hQ
    refine lift_i (c_X8_product_c0 l dC dI cI cJ cZ sz mc ms h0 (vP_ oP) (vS_ oS) (vT_ oT) (vU_ oU) (vG_ oG) p1 p2 _ hQ) (kP_ cI cJ cZ oP ++ (kS_ cI cJ cZ oS ++ (kT_ cI cJ cZ oT ++ (kU_ cI cJ cZ oU ++ (kG_ cI cJ cZ oG))))) rfl ?_ (fun u => (oP, oS, oT, oU, oG, u)) ?_ ?_
    · exact blk_perm (fun i q => by simp only [xcells, vP_, kP_, vS_, kS_, vT_, kT_, vU_, kU_, vG_, kG_, vR_, kR_, List.count_append, List.count_cons, List.count_nil, Nat.zero_add, Nat.add_zero, List.nil_append, List.append_nil] <;> first | rfl | ac_rfl | omega)
    · exact fun r u h => h
    · intro u
      obtain ⟨g0, rfl⟩ : ∃ z, z = u := ⟨_, rfl⟩
      rcases g0 with _ | ⟨w1, w2⟩ <;> exact blk_perm (fun i q => by simp only [xcells, vP_, kP_, vS_, kS_, vT_, kT_, vU_, kU_, vG_, kG_, vR_, kR_, List.count_append, List.count_cons, List.count_nil, Nat.zero_add, Nat.add_zero, List.nil_append, List.append_nil] <;> first | rfl | ac_rfl | omega)
  · obtain ⟨rfl, rfl, hQ⟩ := hQ
    refine lift_i (c_X8_product_c1 l dC dI cI cJ cZ sz h0 (vP_ oP) (vS_ oS) (vT_ oT) (vU_ oU) (vG_ oG) h_a0_rows a0_rows_values q_a0_rows_values a0_rows_many p1 p2 _ hQ) (kP_ cI cJ cZ oP ++ (kS_ cI cJ cZ oS ++ (kT_ cI cJ cZ oT ++ (kU_ cI cJ cZ oU ++ (kG_ cI cJ cZ oG))))) rfl ?_ (fun u => (oP, oS, oT, oU, oG, some ((h_a0_rows, q_a0_rows_values), (u.2, u.1)))) ?_ ?_
    · exact blk_perm (fun i q => by simp only [xcells, vP_, kP_, vS_, kS_, vT_, kT_, vU_, kU_, vG_, kG_, vR_, kR_, List.count_append, List.count_cons, List.count_nil, Nat.zero_add, Nat.add_zero, List.nil_append, List.append_nil] <;> first | rfl | ac_rfl | omega)
    · exact fun r u h => h
    · intro u
      obtain ⟨y0, y1⟩ := u
      exact blk_perm (fun i q => by simp only [xcells, vP_, kP_, vS_, kS_, vT_, kT_, vU_, kU_, vG_, kG_, vR_, kR_, List.count_append, List.count_cons, List.count_nil, Nat.zero_add, Nat.add_zero, List.nil_append, List.append_nil] <;> first | rfl | ac_rfl | omega)
def wpx_turned (mc ms : Nat) (X : XC_) (p1 : Int32) (Q : Int32 → XC_ → Prop) : Prop :=
  match X.2.2.2.2.2 with
  | none => mc = 0 ∧ ms = 0 ∧ wp_X8_turned_c0 p1 (fun r => Q r (X.1, X.2.1, X.2.2.1, X.2.2.2.1, X.2.2.2.2.1, none))
  | some (a0_rows_values, a0_rows_many) => mc = 0 ∧ ms = 0 ∧ wp_X8_turned_c1 a0_rows_values a0_rows_many p1 (fun r o0 o1 => Q r (X.1, X.2.1, X.2.2.1, X.2.2.2.1, X.2.2.2.2.1, some (o1, o0)))
abbrev rmx_turned (mc ms : Nat) : Room := { frames := 4, cells := mc, slots := ms, locals := 97 }
set_option maxHeartbeats 4000000 in
set_option maxRecDepth 100000 in
theorem cx_turned (l : Launch) (dC : Nat → ClassId) (dI : Nat → Nat → Nat) (cI cJ cZ : ClassId) (sz : Nat) (h0 mc ms : Nat) (X : XS_) (p1 : Int32) (Q : Int32 → XC_ → Prop) (hQ : wpx_turned mc ms (xc_ X) p1 Q) : Met l yX8_turned wsX8_turned (rmx_turned mc ms) (pre_ dC dI cI cJ cZ [.ref h0, .int p1] (xcells cI cJ cZ h0 X) sz) (va_Qi (fun (r : Int32) (X : XS_) => Q r (xc_ X)) (post_ dC dI (va_A (xcells cI cJ cZ h0 X) sz) (xcells cI cJ cZ h0)) (va_A (xcells cI cJ cZ h0 X) sz)) mc ms (va_A (xcells cI cJ cZ h0 X) sz) := by
  obtain ⟨oP, oS, oT, oU, oG, oR⟩ := X
  rcases oR with _ | ⟨⟨h_a0_rows, q_a0_rows_values⟩, ⟨a0_rows_values, a0_rows_many⟩⟩
  · obtain ⟨rfl, rfl, hQ⟩ := hQ
    refine lift_i (c_X8_turned_c0 l dC dI cI cJ cZ sz h0 (vP_ oP) (vS_ oS) (vT_ oT) (vU_ oU) (vG_ oG) p1 _ hQ) (kP_ cI cJ cZ oP ++ (kS_ cI cJ cZ oS ++ (kT_ cI cJ cZ oT ++ (kU_ cI cJ cZ oU ++ (kG_ cI cJ cZ oG))))) rfl ?_ (fun u => (oP, oS, oT, oU, oG, none)) ?_ ?_
    · exact blk_perm (fun i q => by simp only [xcells, vP_, kP_, vS_, kS_, vT_, kT_, vU_, kU_, vG_, kG_, vR_, kR_, List.count_append, List.count_cons, List.count_nil, Nat.zero_add, Nat.add_zero, List.nil_append, List.append_nil] <;> first | rfl | ac_rfl | omega)
    · exact fun r u h => h
    · intro u
      exact blk_perm (fun i q => by simp only [xcells, vP_, kP_, vS_, kS_, vT_, kT_, vU_, kU_, vG_, kG_, vR_, kR_, List.count_append, List.count_cons, List.count_nil, Nat.zero_add, Nat.add_zero, List.nil_append, List.append_nil] <;> first | rfl | ac_rfl | omega)
  · obtain ⟨rfl, rfl, hQ⟩ := hQ
    refine lift_i (c_X8_turned_c1 l dC dI cI cJ cZ sz h0 (vP_ oP) (vS_ oS) (vT_ oT) (vU_ oU) (vG_ oG) h_a0_rows a0_rows_values q_a0_rows_values a0_rows_many p1 _ hQ) (kP_ cI cJ cZ oP ++ (kS_ cI cJ cZ oS ++ (kT_ cI cJ cZ oT ++ (kU_ cI cJ cZ oU ++ (kG_ cI cJ cZ oG))))) rfl ?_ (fun u => (oP, oS, oT, oU, oG, some ((h_a0_rows, q_a0_rows_values), (u.2, u.1)))) ?_ ?_
    · exact blk_perm (fun i q => by simp only [xcells, vP_, kP_, vS_, kS_, vT_, kT_, vU_, kU_, vG_, kG_, vR_, kR_, List.count_append, List.count_cons, List.count_nil, Nat.zero_add, Nat.add_zero, List.nil_append, List.append_nil] <;> first | rfl | ac_rfl | omega)
    · exact fun r u h => h
    · intro u
      obtain ⟨y0, y1⟩ := u
      exact blk_perm (fun i q => by simp only [xcells, vP_, kP_, vS_, kS_, vT_, kT_, vU_, kU_, vG_, kG_, vR_, kR_, List.count_append, List.count_cons, List.count_nil, Nat.zero_add, Nat.add_zero, List.nil_append, List.append_nil] <;> first | rfl | ac_rfl | omega)
def wpx_clear (mc ms : Nat) (X : XC_)  (Q : XC_ → Prop) : Prop :=
  match X.2.2.2.2.2 with
  | none => mc = 0 ∧ ms = 0 ∧ wp_X8_clear_c0  (Q (X.1, X.2.1, X.2.2.1, X.2.2.2.1, X.2.2.2.2.1, none))
  | some (a0_rows_values, a0_rows_many) => mc = 0 ∧ ms = 0 ∧ wp_X8_clear_c1 a0_rows_many (fun o0 => Q (X.1, X.2.1, X.2.2.1, X.2.2.2.1, X.2.2.2.2.1, some (a0_rows_values, o0)))
abbrev rmx_clear (mc ms : Nat) : Room := { frames := 0, cells := mc, slots := ms, locals := 0 }
set_option maxHeartbeats 4000000 in
set_option maxRecDepth 100000 in
theorem cx_clear (l : Launch) (dC : Nat → ClassId) (dI : Nat → Nat → Nat) (cI cJ cZ : ClassId) (sz : Nat) (h0 mc ms : Nat) (X : XS_)  (Q : XC_ → Prop) (hQ : wpx_clear mc ms (xc_ X)  Q) : Met l yX8_clear wsX8_clear (rmx_clear mc ms) (pre_ dC dI cI cJ cZ [.ref h0] (xcells cI cJ cZ h0 X) sz) (va_Qv (fun (X : XS_) => Q (xc_ X)) (post_ dC dI (va_A (xcells cI cJ cZ h0 X) sz) (xcells cI cJ cZ h0)) (va_A (xcells cI cJ cZ h0 X) sz)) mc ms (va_A (xcells cI cJ cZ h0 X) sz) := by
  obtain ⟨oP, oS, oT, oU, oG, oR⟩ := X
  rcases oR with _ | ⟨⟨h_a0_rows, q_a0_rows_values⟩, ⟨a0_rows_values, a0_rows_many⟩⟩
  · obtain ⟨rfl, rfl, hQ⟩ := hQ
    refine lift_v (c_X8_clear_c0 l dC dI cI cJ cZ sz h0 (vP_ oP) (vS_ oS) (vT_ oT) (vU_ oU) (vG_ oG)  _ hQ) (kP_ cI cJ cZ oP ++ (kS_ cI cJ cZ oS ++ (kT_ cI cJ cZ oT ++ (kU_ cI cJ cZ oU ++ (kG_ cI cJ cZ oG))))) rfl ?_ (fun u => (oP, oS, oT, oU, oG, none)) ?_ ?_
    · exact blk_perm (fun i q => by simp only [xcells, vP_, kP_, vS_, kS_, vT_, kT_, vU_, kU_, vG_, kG_, vR_, kR_, List.count_append, List.count_cons, List.count_nil, Nat.zero_add, Nat.add_zero, List.nil_append, List.append_nil] <;> first | rfl | ac_rfl | omega)
    · exact fun u h => h
    · intro u
      exact blk_perm (fun i q => by simp only [xcells, vP_, kP_, vS_, kS_, vT_, kT_, vU_, kU_, vG_, kG_, vR_, kR_, List.count_append, List.count_cons, List.count_nil, Nat.zero_add, Nat.add_zero, List.nil_append, List.append_nil] <;> first | rfl | ac_rfl | omega)
  · obtain ⟨rfl, rfl, hQ⟩ := hQ
    refine lift_v (c_X8_clear_c1 l dC dI cI cJ cZ sz h0 (vP_ oP) (vS_ oS) (vT_ oT) (vU_ oU) (vG_ oG) h_a0_rows a0_rows_values q_a0_rows_values a0_rows_many  _ hQ) (kP_ cI cJ cZ oP ++ (kS_ cI cJ cZ oS ++ (kT_ cI cJ cZ oT ++ (kU_ cI cJ cZ oU ++ (kG_ cI cJ cZ oG))))) rfl ?_ (fun u => (oP, oS, oT, oU, oG, some ((h_a0_rows, q_a0_rows_values), (a0_rows_values, u)))) ?_ ?_
    · exact blk_perm (fun i q => by simp only [xcells, vP_, kP_, vS_, kS_, vT_, kT_, vU_, kU_, vG_, kG_, vR_, kR_, List.count_append, List.count_cons, List.count_nil, Nat.zero_add, Nat.add_zero, List.nil_append, List.append_nil] <;> first | rfl | ac_rfl | omega)
    · exact fun u h => h
    · intro u
      obtain ⟨y0, rfl⟩ : ∃ z, z = u := ⟨_, rfl⟩
      exact blk_perm (fun i q => by simp only [xcells, vP_, kP_, vS_, kS_, vT_, kT_, vU_, kU_, vG_, kG_, vR_, kR_, List.count_append, List.count_cons, List.count_nil, Nat.zero_add, Nat.add_zero, List.nil_append, List.append_nil] <;> first | rfl | ac_rfl | omega)
def wpx_at (mc ms : Nat) (X : XC_) (p1 : Int32) (p2 : Int32) (Q : Int64 → XC_ → Prop) : Prop :=
  match X.2.2.2.2.2 with
  | none => mc = 0 ∧ ms = 0 ∧ wp_X8_at_c0 p1 p2 (fun r => Q r (X.1, X.2.1, X.2.2.1, X.2.2.2.1, X.2.2.2.2.1, none))
  | some (a0_rows_values, a0_rows_many) => mc = 0 ∧ ms = 0 ∧ wp_X8_at_c1 a0_rows_values a0_rows_many p1 p2 (fun r => Q r (X.1, X.2.1, X.2.2.1, X.2.2.2.1, X.2.2.2.2.1, some (a0_rows_values, a0_rows_many)))
abbrev rmx_at (mc ms : Nat) : Room := { frames := 2, cells := mc, slots := ms, locals := 43 }
set_option maxHeartbeats 4000000 in
set_option maxRecDepth 100000 in
theorem cx_at (l : Launch) (dC : Nat → ClassId) (dI : Nat → Nat → Nat) (cI cJ cZ : ClassId) (sz : Nat) (h0 mc ms : Nat) (X : XS_) (p1 : Int32) (p2 : Int32) (Q : Int64 → XC_ → Prop) (hQ : wpx_at mc ms (xc_ X) p1 p2 Q) : Met l yX8_at wsX8_at (rmx_at mc ms) (pre_ dC dI cI cJ cZ [.ref h0, .int p1, .int p2] (xcells cI cJ cZ h0 X) sz) (va_Ql (fun (r : Int64) (X : XS_) => Q r (xc_ X)) (post_ dC dI (va_A (xcells cI cJ cZ h0 X) sz) (xcells cI cJ cZ h0)) (va_A (xcells cI cJ cZ h0 X) sz)) mc ms (va_A (xcells cI cJ cZ h0 X) sz) := by
  obtain ⟨oP, oS, oT, oU, oG, oR⟩ := X
  rcases oR with _ | ⟨⟨h_a0_rows, q_a0_rows_values⟩, ⟨a0_rows_values, a0_rows_many⟩⟩
  · obtain ⟨rfl, rfl, hQ⟩ := hQ
    refine lift_l (c_X8_at_c0 l dC dI cI cJ cZ sz h0 (vP_ oP) (vS_ oS) (vT_ oT) (vU_ oU) (vG_ oG) p1 p2 _ hQ) (kP_ cI cJ cZ oP ++ (kS_ cI cJ cZ oS ++ (kT_ cI cJ cZ oT ++ (kU_ cI cJ cZ oU ++ (kG_ cI cJ cZ oG))))) rfl ?_ (fun u => (oP, oS, oT, oU, oG, none)) ?_ ?_
    · exact blk_perm (fun i q => by simp only [xcells, vP_, kP_, vS_, kS_, vT_, kT_, vU_, kU_, vG_, kG_, vR_, kR_, List.count_append, List.count_cons, List.count_nil, Nat.zero_add, Nat.add_zero, List.nil_append, List.append_nil] <;> first | rfl | ac_rfl | omega)
    · exact fun r u h => h
    · intro u
      exact blk_perm (fun i q => by simp only [xcells, vP_, kP_, vS_, kS_, vT_, kT_, vU_, kU_, vG_, kG_, vR_, kR_, List.count_append, List.count_cons, List.count_nil, Nat.zero_add, Nat.add_zero, List.nil_append, List.append_nil] <;> first | rfl | ac_rfl | omega)
  · obtain ⟨rfl, rfl, hQ⟩ := hQ
    refine lift_l (c_X8_at_c1 l dC dI cI cJ cZ sz h0 (vP_ oP) (vS_ oS) (vT_ oT) (vU_ oU) (vG_ oG) h_a0_rows a0_rows_values q_a0_rows_values a0_rows_many p1 p2 _ hQ) (kP_ cI cJ cZ oP ++ (kS_ cI cJ cZ oS ++ (kT_ cI cJ cZ oT ++ (kU_ cI cJ cZ oU ++ (kG_ cI cJ cZ oG))))) rfl ?_ (fun u => (oP, oS, oT, oU, oG, some ((h_a0_rows, q_a0_rows_values), (a0_rows_values, a0_rows_many)))) ?_ ?_
    · exact blk_perm (fun i q => by simp only [xcells, vP_, kP_, vS_, kS_, vT_, kT_, vU_, kU_, vG_, kG_, vR_, kR_, List.count_append, List.count_cons, List.count_nil, Nat.zero_add, Nat.add_zero, List.nil_append, List.append_nil] <;> first | rfl | ac_rfl | omega)
    · exact fun r u h => h
    · intro u
      exact blk_perm (fun i q => by simp only [xcells, vP_, kP_, vS_, kS_, vT_, kT_, vU_, kU_, vG_, kG_, vR_, kR_, List.count_append, List.count_cons, List.count_nil, Nat.zero_add, Nat.add_zero, List.nil_append, List.append_nil] <;> first | rfl | ac_rfl | omega)
def wpx_sumOf (mc ms : Nat) (X : XC_) (p1 : Int32) (p2 : Int32) (Q : Int64 → XC_ → Prop) : Prop :=
  match X.2.2.2.2.2 with
  | none => mc = 0 ∧ ms = 0 ∧ wp_X8_sumOf_c0 p1 p2 (fun r => Q r (X.1, X.2.1, X.2.2.1, X.2.2.2.1, X.2.2.2.2.1, none))
  | some (a0_rows_values, a0_rows_many) => mc = 0 ∧ ms = 0 ∧ wp_X8_sumOf_c1 a0_rows_values a0_rows_many p1 p2 (fun r => Q r (X.1, X.2.1, X.2.2.1, X.2.2.2.1, X.2.2.2.2.1, some (a0_rows_values, a0_rows_many)))
abbrev rmx_sumOf (mc ms : Nat) : Room := { frames := 3, cells := mc, slots := ms, locals := 68 }
set_option maxHeartbeats 4000000 in
set_option maxRecDepth 100000 in
theorem cx_sumOf (l : Launch) (dC : Nat → ClassId) (dI : Nat → Nat → Nat) (cI cJ cZ : ClassId) (sz : Nat) (h0 mc ms : Nat) (X : XS_) (p1 : Int32) (p2 : Int32) (Q : Int64 → XC_ → Prop) (hQ : wpx_sumOf mc ms (xc_ X) p1 p2 Q) : Met l yX8_sumOf wsX8_sumOf (rmx_sumOf mc ms) (pre_ dC dI cI cJ cZ [.ref h0, .int p1, .int p2] (xcells cI cJ cZ h0 X) sz) (va_Ql (fun (r : Int64) (X : XS_) => Q r (xc_ X)) (post_ dC dI (va_A (xcells cI cJ cZ h0 X) sz) (xcells cI cJ cZ h0)) (va_A (xcells cI cJ cZ h0 X) sz)) mc ms (va_A (xcells cI cJ cZ h0 X) sz) := by
  obtain ⟨oP, oS, oT, oU, oG, oR⟩ := X
  rcases oR with _ | ⟨⟨h_a0_rows, q_a0_rows_values⟩, ⟨a0_rows_values, a0_rows_many⟩⟩
  · obtain ⟨rfl, rfl, hQ⟩ := hQ
    refine lift_l (c_X8_sumOf_c0 l dC dI cI cJ cZ sz h0 (vP_ oP) (vS_ oS) (vT_ oT) (vU_ oU) (vG_ oG) p1 p2 _ hQ) (kP_ cI cJ cZ oP ++ (kS_ cI cJ cZ oS ++ (kT_ cI cJ cZ oT ++ (kU_ cI cJ cZ oU ++ (kG_ cI cJ cZ oG))))) rfl ?_ (fun u => (oP, oS, oT, oU, oG, none)) ?_ ?_
    · exact blk_perm (fun i q => by simp only [xcells, vP_, kP_, vS_, kS_, vT_, kT_, vU_, kU_, vG_, kG_, vR_, kR_, List.count_append, List.count_cons, List.count_nil, Nat.zero_add, Nat.add_zero, List.nil_append, List.append_nil] <;> first | rfl | ac_rfl | omega)
    · exact fun r u h => h
    · intro u
      exact blk_perm (fun i q => by simp only [xcells, vP_, kP_, vS_, kS_, vT_, kT_, vU_, kU_, vG_, kG_, vR_, kR_, List.count_append, List.count_cons, List.count_nil, Nat.zero_add, Nat.add_zero, List.nil_append, List.append_nil] <;> first | rfl | ac_rfl | omega)
  · obtain ⟨rfl, rfl, hQ⟩ := hQ
    refine lift_l (c_X8_sumOf_c1 l dC dI cI cJ cZ sz h0 (vP_ oP) (vS_ oS) (vT_ oT) (vU_ oU) (vG_ oG) h_a0_rows a0_rows_values q_a0_rows_values a0_rows_many p1 p2 _ hQ) (kP_ cI cJ cZ oP ++ (kS_ cI cJ cZ oS ++ (kT_ cI cJ cZ oT ++ (kU_ cI cJ cZ oU ++ (kG_ cI cJ cZ oG))))) rfl ?_ (fun u => (oP, oS, oT, oU, oG, some ((h_a0_rows, q_a0_rows_values), (a0_rows_values, a0_rows_many)))) ?_ ?_
    · exact blk_perm (fun i q => by simp only [xcells, vP_, kP_, vS_, kS_, vT_, kT_, vU_, kU_, vG_, kG_, vR_, kR_, List.count_append, List.count_cons, List.count_nil, Nat.zero_add, Nat.add_zero, List.nil_append, List.append_nil] <;> first | rfl | ac_rfl | omega)
    · exact fun r u h => h
    · intro u
      exact blk_perm (fun i q => by simp only [xcells, vP_, kP_, vS_, kS_, vT_, kT_, vU_, kU_, vG_, kG_, vR_, kR_, List.count_append, List.count_cons, List.count_nil, Nat.zero_add, Nat.add_zero, List.nil_append, List.append_nil] <;> first | rfl | ac_rfl | omega)
def wpx_same (mc ms : Nat) (X : XC_) (p1 : Int32) (p2 : Int32) (Q : Int32 → XC_ → Prop) : Prop :=
  match X.2.2.2.2.2 with
  | none => mc = 0 ∧ ms = 0 ∧ wp_X8_same_c0 p1 p2 (fun r => Q r (X.1, X.2.1, X.2.2.1, X.2.2.2.1, X.2.2.2.2.1, none))
  | some (a0_rows_values, a0_rows_many) => mc = 0 ∧ ms = 0 ∧ wp_X8_same_c1 a0_rows_values a0_rows_many p1 p2 (fun r => Q r (X.1, X.2.1, X.2.2.1, X.2.2.2.1, X.2.2.2.2.1, some (a0_rows_values, a0_rows_many)))
abbrev rmx_same (mc ms : Nat) : Room := { frames := 3, cells := mc, slots := ms, locals := 66 }
set_option maxHeartbeats 4000000 in
set_option maxRecDepth 100000 in
theorem cx_same (l : Launch) (dC : Nat → ClassId) (dI : Nat → Nat → Nat) (cI cJ cZ : ClassId) (sz : Nat) (h0 mc ms : Nat) (X : XS_) (p1 : Int32) (p2 : Int32) (Q : Int32 → XC_ → Prop) (hQ : wpx_same mc ms (xc_ X) p1 p2 Q) : Met l yX8_same wsX8_same (rmx_same mc ms) (pre_ dC dI cI cJ cZ [.ref h0, .int p1, .int p2] (xcells cI cJ cZ h0 X) sz) (va_Qi (fun (r : Int32) (X : XS_) => Q r (xc_ X)) (post_ dC dI (va_A (xcells cI cJ cZ h0 X) sz) (xcells cI cJ cZ h0)) (va_A (xcells cI cJ cZ h0 X) sz)) mc ms (va_A (xcells cI cJ cZ h0 X) sz) := by
  obtain ⟨oP, oS, oT, oU, oG, oR⟩ := X
  rcases oR with _ | ⟨⟨h_a0_rows, q_a0_rows_values⟩, ⟨a0_rows_values, a0_rows_many⟩⟩
  · obtain ⟨rfl, rfl, hQ⟩ := hQ
    refine lift_i (c_X8_same_c0 l dC dI cI cJ cZ sz h0 (vP_ oP) (vS_ oS) (vT_ oT) (vU_ oU) (vG_ oG) p1 p2 _ hQ) (kP_ cI cJ cZ oP ++ (kS_ cI cJ cZ oS ++ (kT_ cI cJ cZ oT ++ (kU_ cI cJ cZ oU ++ (kG_ cI cJ cZ oG))))) rfl ?_ (fun u => (oP, oS, oT, oU, oG, none)) ?_ ?_
    · exact blk_perm (fun i q => by simp only [xcells, vP_, kP_, vS_, kS_, vT_, kT_, vU_, kU_, vG_, kG_, vR_, kR_, List.count_append, List.count_cons, List.count_nil, Nat.zero_add, Nat.add_zero, List.nil_append, List.append_nil] <;> first | rfl | ac_rfl | omega)
    · exact fun r u h => h
    · intro u
      exact blk_perm (fun i q => by simp only [xcells, vP_, kP_, vS_, kS_, vT_, kT_, vU_, kU_, vG_, kG_, vR_, kR_, List.count_append, List.count_cons, List.count_nil, Nat.zero_add, Nat.add_zero, List.nil_append, List.append_nil] <;> first | rfl | ac_rfl | omega)
  · obtain ⟨rfl, rfl, hQ⟩ := hQ
    refine lift_i (c_X8_same_c1 l dC dI cI cJ cZ sz h0 (vP_ oP) (vS_ oS) (vT_ oT) (vU_ oU) (vG_ oG) h_a0_rows a0_rows_values q_a0_rows_values a0_rows_many p1 p2 _ hQ) (kP_ cI cJ cZ oP ++ (kS_ cI cJ cZ oS ++ (kT_ cI cJ cZ oT ++ (kU_ cI cJ cZ oU ++ (kG_ cI cJ cZ oG))))) rfl ?_ (fun u => (oP, oS, oT, oU, oG, some ((h_a0_rows, q_a0_rows_values), (a0_rows_values, a0_rows_many)))) ?_ ?_
    · exact blk_perm (fun i q => by simp only [xcells, vP_, kP_, vS_, kS_, vT_, kT_, vU_, kU_, vG_, kG_, vR_, kR_, List.count_append, List.count_cons, List.count_nil, Nat.zero_add, Nat.add_zero, List.nil_append, List.append_nil] <;> first | rfl | ac_rfl | omega)
    · exact fun r u h => h
    · intro u
      exact blk_perm (fun i q => by simp only [xcells, vP_, kP_, vS_, kS_, vT_, kT_, vU_, kU_, vG_, kG_, vR_, kR_, List.count_append, List.count_cons, List.count_nil, Nat.zero_add, Nat.add_zero, List.nil_append, List.append_nil] <;> first | rfl | ac_rfl | omega)
def wpx_far (mc ms : Nat) (X : XC_) (p1 : Int32) (p2 : Int32) (p3 : Int32) (Q : Int64 → XC_ → Prop) : Prop :=
  mc = 0 ∧ ms = 0 ∧ wp_X8_far p1 p2 p3 (fun r => Q r (X.1, X.2.1, X.2.2.1, X.2.2.2.1, X.2.2.2.2.1, X.2.2.2.2.2))
abbrev rmx_far (mc ms : Nat) : Room := { frames := 3, cells := mc, slots := ms, locals := 77 }
set_option maxHeartbeats 4000000 in
set_option maxRecDepth 100000 in
theorem cx_far (l : Launch) (dC : Nat → ClassId) (dI : Nat → Nat → Nat) (cI cJ cZ : ClassId) (sz : Nat) (h0 mc ms : Nat) (X : XS_) (p1 : Int32) (p2 : Int32) (p3 : Int32) (Q : Int64 → XC_ → Prop) (hQ : wpx_far mc ms (xc_ X) p1 p2 p3 Q) : Met l yX8_far wsX8_far (rmx_far mc ms) (pre_ dC dI cI cJ cZ [.ref h0, .int p1, .int p2, .int p3] (xcells cI cJ cZ h0 X) sz) (va_Ql (fun (r : Int64) (X : XS_) => Q r (xc_ X)) (post_ dC dI (va_A (xcells cI cJ cZ h0 X) sz) (xcells cI cJ cZ h0)) (va_A (xcells cI cJ cZ h0 X) sz)) mc ms (va_A (xcells cI cJ cZ h0 X) sz) := by
  obtain ⟨oP, oS, oT, oU, oG, oR⟩ := X
  obtain ⟨rfl, rfl, hQ⟩ := hQ
  refine lift_l (c_X8_far l dC dI cI cJ cZ sz h0 (vP_ oP) (vS_ oS) (vT_ oT) (vU_ oU) (vG_ oG) (vR_ oR) p1 p2 p3 _ hQ) (kP_ cI cJ cZ oP ++ (kS_ cI cJ cZ oS ++ (kT_ cI cJ cZ oT ++ (kU_ cI cJ cZ oU ++ (kG_ cI cJ cZ oG ++ (kR_ cI cJ cZ oR)))))) rfl ?_ (fun u => (oP, oS, oT, oU, oG, oR)) ?_ ?_
  · exact blk_perm (fun i q => by simp only [xcells, vP_, kP_, vS_, kS_, vT_, kT_, vU_, kU_, vG_, kG_, vR_, kR_, List.count_append, List.count_cons, List.count_nil, Nat.zero_add, Nat.add_zero, List.nil_append, List.append_nil] <;> first | rfl | ac_rfl | omega)
  · exact fun r u h => h
  · intro u
    exact blk_perm (fun i q => by simp only [xcells, vP_, kP_, vS_, kS_, vT_, kT_, vU_, kU_, vG_, kG_, vR_, kR_, List.count_append, List.count_cons, List.count_nil, Nat.zero_add, Nat.add_zero, List.nil_append, List.append_nil] <;> first | rfl | ac_rfl | omega)
def wpx_about (mc ms : Nat) (X : XC_) (p1 : Int32) (Q : Int32 → XC_ → Prop) : Prop :=
  match X.2.1, X.2.2.1, X.2.2.2.2.2 with
  | none, none, none => mc = 0 ∧ ms = 0 ∧ wp_X8_about_c000 p1 (fun r => Q r (X.1, none, none, X.2.2.2.1, X.2.2.2.2.1, none))
  | none, none, some (a0_rows_values, a0_rows_many) => mc = 0 ∧ ms = 0 ∧ wp_X8_about_c001 a0_rows_many p1 (fun r => Q r (X.1, none, none, X.2.2.2.1, X.2.2.2.2.1, some (a0_rows_values, a0_rows_many)))
  | none, some (a0_parting_factors, a0_parting_powers, a0_parting_number, a0_parting_many), none => mc = 0 ∧ ms = 0 ∧ wp_X8_about_c010 a0_parting_many p1 (fun r => Q r (X.1, none, some (a0_parting_factors, a0_parting_powers, a0_parting_number, a0_parting_many), X.2.2.2.1, X.2.2.2.2.1, none))
  | none, some (a0_parting_factors, a0_parting_powers, a0_parting_number, a0_parting_many), some (a0_rows_values, a0_rows_many) => mc = 0 ∧ ms = 0 ∧ wp_X8_about_c011 a0_parting_many a0_rows_many p1 (fun r => Q r (X.1, none, some (a0_parting_factors, a0_parting_powers, a0_parting_number, a0_parting_many), X.2.2.2.1, X.2.2.2.2.1, some (a0_rows_values, a0_rows_many)))
  | some (a0_sieved_leasts, a0_sieved_greatests, a0_sieved_rests, a0_sieved_squared_words, a0_sieved_from, a0_sieved_many, a0_sieved_primeCount, a0_sieved_gap, a0_sieved_twins, a0_sieved_squareFree), none, none => mc = 0 ∧ ms = 0 ∧ wp_X8_about_c100 a0_sieved_many p1 (fun r => Q r (X.1, some (a0_sieved_leasts, a0_sieved_greatests, a0_sieved_rests, a0_sieved_squared_words, a0_sieved_from, a0_sieved_many, a0_sieved_primeCount, a0_sieved_gap, a0_sieved_twins, a0_sieved_squareFree), none, X.2.2.2.1, X.2.2.2.2.1, none))
  | some (a0_sieved_leasts, a0_sieved_greatests, a0_sieved_rests, a0_sieved_squared_words, a0_sieved_from, a0_sieved_many, a0_sieved_primeCount, a0_sieved_gap, a0_sieved_twins, a0_sieved_squareFree), none, some (a0_rows_values, a0_rows_many) => mc = 0 ∧ ms = 0 ∧ wp_X8_about_c101 a0_sieved_many a0_rows_many p1 (fun r => Q r (X.1, some (a0_sieved_leasts, a0_sieved_greatests, a0_sieved_rests, a0_sieved_squared_words, a0_sieved_from, a0_sieved_many, a0_sieved_primeCount, a0_sieved_gap, a0_sieved_twins, a0_sieved_squareFree), none, X.2.2.2.1, X.2.2.2.2.1, some (a0_rows_values, a0_rows_many)))
  | some (a0_sieved_leasts, a0_sieved_greatests, a0_sieved_rests, a0_sieved_squared_words, a0_sieved_from, a0_sieved_many, a0_sieved_primeCount, a0_sieved_gap, a0_sieved_twins, a0_sieved_squareFree), some (a0_parting_factors, a0_parting_powers, a0_parting_number, a0_parting_many), none => mc = 0 ∧ ms = 0 ∧ wp_X8_about_c110 a0_sieved_many a0_parting_many p1 (fun r => Q r (X.1, some (a0_sieved_leasts, a0_sieved_greatests, a0_sieved_rests, a0_sieved_squared_words, a0_sieved_from, a0_sieved_many, a0_sieved_primeCount, a0_sieved_gap, a0_sieved_twins, a0_sieved_squareFree), some (a0_parting_factors, a0_parting_powers, a0_parting_number, a0_parting_many), X.2.2.2.1, X.2.2.2.2.1, none))
  | some (a0_sieved_leasts, a0_sieved_greatests, a0_sieved_rests, a0_sieved_squared_words, a0_sieved_from, a0_sieved_many, a0_sieved_primeCount, a0_sieved_gap, a0_sieved_twins, a0_sieved_squareFree), some (a0_parting_factors, a0_parting_powers, a0_parting_number, a0_parting_many), some (a0_rows_values, a0_rows_many) => mc = 0 ∧ ms = 0 ∧ wp_X8_about_c111 a0_sieved_many a0_parting_many a0_rows_many p1 (fun r => Q r (X.1, some (a0_sieved_leasts, a0_sieved_greatests, a0_sieved_rests, a0_sieved_squared_words, a0_sieved_from, a0_sieved_many, a0_sieved_primeCount, a0_sieved_gap, a0_sieved_twins, a0_sieved_squareFree), some (a0_parting_factors, a0_parting_powers, a0_parting_number, a0_parting_many), X.2.2.2.1, X.2.2.2.2.1, some (a0_rows_values, a0_rows_many)))
abbrev rmx_about (mc ms : Nat) : Room := { frames := 0, cells := mc, slots := ms, locals := 0 }
set_option maxHeartbeats 4000000 in
set_option maxRecDepth 100000 in
theorem cx_about (l : Launch) (dC : Nat → ClassId) (dI : Nat → Nat → Nat) (cI cJ cZ : ClassId) (sz : Nat) (h0 mc ms : Nat) (X : XS_) (p1 : Int32) (Q : Int32 → XC_ → Prop) (hQ : wpx_about mc ms (xc_ X) p1 Q) : Met l yX8_about wsX8_about (rmx_about mc ms) (pre_ dC dI cI cJ cZ [.ref h0, .int p1] (xcells cI cJ cZ h0 X) sz) (va_Qi (fun (r : Int32) (X : XS_) => Q r (xc_ X)) (post_ dC dI (va_A (xcells cI cJ cZ h0 X) sz) (xcells cI cJ cZ h0)) (va_A (xcells cI cJ cZ h0 X) sz)) mc ms (va_A (xcells cI cJ cZ h0 X) sz) := by
  obtain ⟨oP, oS, oT, oU, oG, oR⟩ := X
  rcases oS with _ | ⟨⟨h_a0_sieved, q_a0_sieved_leasts, q_a0_sieved_greatests, q_a0_sieved_rests, h_a0_sieved_squared, q_a0_sieved_squared_words⟩, ⟨a0_sieved_leasts, a0_sieved_greatests, a0_sieved_rests, a0_sieved_squared_words, a0_sieved_from, a0_sieved_many, a0_sieved_primeCount, a0_sieved_gap, a0_sieved_twins, a0_sieved_squareFree⟩⟩
  · rcases oT with _ | ⟨⟨h_a0_parting, q_a0_parting_factors, q_a0_parting_powers⟩, ⟨a0_parting_factors, a0_parting_powers, a0_parting_number, a0_parting_many⟩⟩
    · rcases oR with _ | ⟨⟨h_a0_rows, q_a0_rows_values⟩, ⟨a0_rows_values, a0_rows_many⟩⟩
      · obtain ⟨rfl, rfl, hQ⟩ := hQ
        refine lift_i (c_X8_about_c000 l dC dI cI cJ cZ sz h0 (vP_ oP) (vU_ oU) (vG_ oG) p1 _ hQ) (kP_ cI cJ cZ oP ++ (kU_ cI cJ cZ oU ++ (kG_ cI cJ cZ oG))) rfl ?_ (fun u => (oP, none, none, oU, oG, none)) ?_ ?_
        · exact blk_perm (fun i q => by simp only [xcells, vP_, kP_, vS_, kS_, vT_, kT_, vU_, kU_, vG_, kG_, vR_, kR_, List.count_append, List.count_cons, List.count_nil, Nat.zero_add, Nat.add_zero, List.nil_append, List.append_nil] <;> first | rfl | ac_rfl | omega)
        · exact fun r u h => h
        · intro u
          exact blk_perm (fun i q => by simp only [xcells, vP_, kP_, vS_, kS_, vT_, kT_, vU_, kU_, vG_, kG_, vR_, kR_, List.count_append, List.count_cons, List.count_nil, Nat.zero_add, Nat.add_zero, List.nil_append, List.append_nil] <;> first | rfl | ac_rfl | omega)
      · obtain ⟨rfl, rfl, hQ⟩ := hQ
        refine lift_i (c_X8_about_c001 l dC dI cI cJ cZ sz h0 (vP_ oP) (vU_ oU) (vG_ oG) h_a0_rows a0_rows_values q_a0_rows_values a0_rows_many p1 _ hQ) (kP_ cI cJ cZ oP ++ (kU_ cI cJ cZ oU ++ (kG_ cI cJ cZ oG))) rfl ?_ (fun u => (oP, none, none, oU, oG, some ((h_a0_rows, q_a0_rows_values), (a0_rows_values, a0_rows_many)))) ?_ ?_
        · exact blk_perm (fun i q => by simp only [xcells, vP_, kP_, vS_, kS_, vT_, kT_, vU_, kU_, vG_, kG_, vR_, kR_, List.count_append, List.count_cons, List.count_nil, Nat.zero_add, Nat.add_zero, List.nil_append, List.append_nil] <;> first | rfl | ac_rfl | omega)
        · exact fun r u h => h
        · intro u
          exact blk_perm (fun i q => by simp only [xcells, vP_, kP_, vS_, kS_, vT_, kT_, vU_, kU_, vG_, kG_, vR_, kR_, List.count_append, List.count_cons, List.count_nil, Nat.zero_add, Nat.add_zero, List.nil_append, List.append_nil] <;> first | rfl | ac_rfl | omega)
    · rcases oR with _ | ⟨⟨h_a0_rows, q_a0_rows_values⟩, ⟨a0_rows_values, a0_rows_many⟩⟩
      · obtain ⟨rfl, rfl, hQ⟩ := hQ
        refine lift_i (c_X8_about_c010 l dC dI cI cJ cZ sz h0 (vP_ oP) h_a0_parting a0_parting_factors q_a0_parting_factors a0_parting_powers q_a0_parting_powers a0_parting_number a0_parting_many (vU_ oU) (vG_ oG) p1 _ hQ) (kP_ cI cJ cZ oP ++ (kU_ cI cJ cZ oU ++ (kG_ cI cJ cZ oG))) rfl ?_ (fun u => (oP, none, some ((h_a0_parting, q_a0_parting_factors, q_a0_parting_powers), (a0_parting_factors, a0_parting_powers, a0_parting_number, a0_parting_many)), oU, oG, none)) ?_ ?_
        · exact blk_perm (fun i q => by simp only [xcells, vP_, kP_, vS_, kS_, vT_, kT_, vU_, kU_, vG_, kG_, vR_, kR_, List.count_append, List.count_cons, List.count_nil, Nat.zero_add, Nat.add_zero, List.nil_append, List.append_nil] <;> first | rfl | ac_rfl | omega)
        · exact fun r u h => h
        · intro u
          exact blk_perm (fun i q => by simp only [xcells, vP_, kP_, vS_, kS_, vT_, kT_, vU_, kU_, vG_, kG_, vR_, kR_, List.count_append, List.count_cons, List.count_nil, Nat.zero_add, Nat.add_zero, List.nil_append, List.append_nil] <;> first | rfl | ac_rfl | omega)
      · obtain ⟨rfl, rfl, hQ⟩ := hQ
        refine lift_i (c_X8_about_c011 l dC dI cI cJ cZ sz h0 (vP_ oP) h_a0_parting a0_parting_factors q_a0_parting_factors a0_parting_powers q_a0_parting_powers a0_parting_number a0_parting_many (vU_ oU) (vG_ oG) h_a0_rows a0_rows_values q_a0_rows_values a0_rows_many p1 _ hQ) (kP_ cI cJ cZ oP ++ (kU_ cI cJ cZ oU ++ (kG_ cI cJ cZ oG))) rfl ?_ (fun u => (oP, none, some ((h_a0_parting, q_a0_parting_factors, q_a0_parting_powers), (a0_parting_factors, a0_parting_powers, a0_parting_number, a0_parting_many)), oU, oG, some ((h_a0_rows, q_a0_rows_values), (a0_rows_values, a0_rows_many)))) ?_ ?_
        · exact blk_perm (fun i q => by simp only [xcells, vP_, kP_, vS_, kS_, vT_, kT_, vU_, kU_, vG_, kG_, vR_, kR_, List.count_append, List.count_cons, List.count_nil, Nat.zero_add, Nat.add_zero, List.nil_append, List.append_nil] <;> first | rfl | ac_rfl | omega)
        · exact fun r u h => h
        · intro u
          exact blk_perm (fun i q => by simp only [xcells, vP_, kP_, vS_, kS_, vT_, kT_, vU_, kU_, vG_, kG_, vR_, kR_, List.count_append, List.count_cons, List.count_nil, Nat.zero_add, Nat.add_zero, List.nil_append, List.append_nil] <;> first | rfl | ac_rfl | omega)
  · rcases oT with _ | ⟨⟨h_a0_parting, q_a0_parting_factors, q_a0_parting_powers⟩, ⟨a0_parting_factors, a0_parting_powers, a0_parting_number, a0_parting_many⟩⟩
    · rcases oR with _ | ⟨⟨h_a0_rows, q_a0_rows_values⟩, ⟨a0_rows_values, a0_rows_many⟩⟩
      · obtain ⟨rfl, rfl, hQ⟩ := hQ
        refine lift_i (c_X8_about_c100 l dC dI cI cJ cZ sz h0 (vP_ oP) h_a0_sieved a0_sieved_leasts q_a0_sieved_leasts a0_sieved_greatests q_a0_sieved_greatests a0_sieved_rests q_a0_sieved_rests h_a0_sieved_squared a0_sieved_squared_words q_a0_sieved_squared_words a0_sieved_from a0_sieved_many a0_sieved_primeCount a0_sieved_gap a0_sieved_twins a0_sieved_squareFree (vU_ oU) (vG_ oG) p1 _ hQ) (kP_ cI cJ cZ oP ++ (kU_ cI cJ cZ oU ++ (kG_ cI cJ cZ oG))) rfl ?_ (fun u => (oP, some ((h_a0_sieved, q_a0_sieved_leasts, q_a0_sieved_greatests, q_a0_sieved_rests, h_a0_sieved_squared, q_a0_sieved_squared_words), (a0_sieved_leasts, a0_sieved_greatests, a0_sieved_rests, a0_sieved_squared_words, a0_sieved_from, a0_sieved_many, a0_sieved_primeCount, a0_sieved_gap, a0_sieved_twins, a0_sieved_squareFree)), none, oU, oG, none)) ?_ ?_
        · exact blk_perm (fun i q => by simp only [xcells, vP_, kP_, vS_, kS_, vT_, kT_, vU_, kU_, vG_, kG_, vR_, kR_, List.count_append, List.count_cons, List.count_nil, Nat.zero_add, Nat.add_zero, List.nil_append, List.append_nil] <;> first | rfl | ac_rfl | omega)
        · exact fun r u h => h
        · intro u
          exact blk_perm (fun i q => by simp only [xcells, vP_, kP_, vS_, kS_, vT_, kT_, vU_, kU_, vG_, kG_, vR_, kR_, List.count_append, List.count_cons, List.count_nil, Nat.zero_add, Nat.add_zero, List.nil_append, List.append_nil] <;> first | rfl | ac_rfl | omega)
      · obtain ⟨rfl, rfl, hQ⟩ := hQ
        refine lift_i (c_X8_about_c101 l dC dI cI cJ cZ sz h0 (vP_ oP) h_a0_sieved a0_sieved_leasts q_a0_sieved_leasts a0_sieved_greatests q_a0_sieved_greatests a0_sieved_rests q_a0_sieved_rests h_a0_sieved_squared a0_sieved_squared_words q_a0_sieved_squared_words a0_sieved_from a0_sieved_many a0_sieved_primeCount a0_sieved_gap a0_sieved_twins a0_sieved_squareFree (vU_ oU) (vG_ oG) h_a0_rows a0_rows_values q_a0_rows_values a0_rows_many p1 _ hQ) (kP_ cI cJ cZ oP ++ (kU_ cI cJ cZ oU ++ (kG_ cI cJ cZ oG))) rfl ?_ (fun u => (oP, some ((h_a0_sieved, q_a0_sieved_leasts, q_a0_sieved_greatests, q_a0_sieved_rests, h_a0_sieved_squared, q_a0_sieved_squared_words), (a0_sieved_leasts, a0_sieved_greatests, a0_sieved_rests, a0_sieved_squared_words, a0_sieved_from, a0_sieved_many, a0_sieved_primeCount, a0_sieved_gap, a0_sieved_twins, a0_sieved_squareFree)), none, oU, oG, some ((h_a0_rows, q_a0_rows_values), (a0_rows_values, a0_rows_many)))) ?_ ?_
        · exact blk_perm (fun i q => by simp only [xcells, vP_, kP_, vS_, kS_, vT_, kT_, vU_, kU_, vG_, kG_, vR_, kR_, List.count_append, List.count_cons, List.count_nil, Nat.zero_add, Nat.add_zero, List.nil_append, List.append_nil] <;> first | rfl | ac_rfl | omega)
        · exact fun r u h => h
        · intro u
          exact blk_perm (fun i q => by simp only [xcells, vP_, kP_, vS_, kS_, vT_, kT_, vU_, kU_, vG_, kG_, vR_, kR_, List.count_append, List.count_cons, List.count_nil, Nat.zero_add, Nat.add_zero, List.nil_append, List.append_nil] <;> first | rfl | ac_rfl | omega)
    · rcases oR with _ | ⟨⟨h_a0_rows, q_a0_rows_values⟩, ⟨a0_rows_values, a0_rows_many⟩⟩
      · obtain ⟨rfl, rfl, hQ⟩ := hQ
        refine lift_i (c_X8_about_c110 l dC dI cI cJ cZ sz h0 (vP_ oP) h_a0_sieved a0_sieved_leasts q_a0_sieved_leasts a0_sieved_greatests q_a0_sieved_greatests a0_sieved_rests q_a0_sieved_rests h_a0_sieved_squared a0_sieved_squared_words q_a0_sieved_squared_words a0_sieved_from a0_sieved_many a0_sieved_primeCount a0_sieved_gap a0_sieved_twins a0_sieved_squareFree h_a0_parting a0_parting_factors q_a0_parting_factors a0_parting_powers q_a0_parting_powers a0_parting_number a0_parting_many (vU_ oU) (vG_ oG) p1 _ hQ) (kP_ cI cJ cZ oP ++ (kU_ cI cJ cZ oU ++ (kG_ cI cJ cZ oG))) rfl ?_ (fun u => (oP, some ((h_a0_sieved, q_a0_sieved_leasts, q_a0_sieved_greatests, q_a0_sieved_rests, h_a0_sieved_squared, q_a0_sieved_squared_words), (a0_sieved_leasts, a0_sieved_greatests, a0_sieved_rests, a0_sieved_squared_words, a0_sieved_from, a0_sieved_many, a0_sieved_primeCount, a0_sieved_gap, a0_sieved_twins, a0_sieved_squareFree)), some ((h_a0_parting, q_a0_parting_factors, q_a0_parting_powers), (a0_parting_factors, a0_parting_powers, a0_parting_number, a0_parting_many)), oU, oG, none)) ?_ ?_
        · exact blk_perm (fun i q => by simp only [xcells, vP_, kP_, vS_, kS_, vT_, kT_, vU_, kU_, vG_, kG_, vR_, kR_, List.count_append, List.count_cons, List.count_nil, Nat.zero_add, Nat.add_zero, List.nil_append, List.append_nil] <;> first | rfl | ac_rfl | omega)
        · exact fun r u h => h
        · intro u
          exact blk_perm (fun i q => by simp only [xcells, vP_, kP_, vS_, kS_, vT_, kT_, vU_, kU_, vG_, kG_, vR_, kR_, List.count_append, List.count_cons, List.count_nil, Nat.zero_add, Nat.add_zero, List.nil_append, List.append_nil] <;> first | rfl | ac_rfl | omega)
      · obtain ⟨rfl, rfl, hQ⟩ := hQ
        refine lift_i (c_X8_about_c111 l dC dI cI cJ cZ sz h0 (vP_ oP) h_a0_sieved a0_sieved_leasts q_a0_sieved_leasts a0_sieved_greatests q_a0_sieved_greatests a0_sieved_rests q_a0_sieved_rests h_a0_sieved_squared a0_sieved_squared_words q_a0_sieved_squared_words a0_sieved_from a0_sieved_many a0_sieved_primeCount a0_sieved_gap a0_sieved_twins a0_sieved_squareFree h_a0_parting a0_parting_factors q_a0_parting_factors a0_parting_powers q_a0_parting_powers a0_parting_number a0_parting_many (vU_ oU) (vG_ oG) h_a0_rows a0_rows_values q_a0_rows_values a0_rows_many p1 _ hQ) (kP_ cI cJ cZ oP ++ (kU_ cI cJ cZ oU ++ (kG_ cI cJ cZ oG))) rfl ?_ (fun u => (oP, some ((h_a0_sieved, q_a0_sieved_leasts, q_a0_sieved_greatests, q_a0_sieved_rests, h_a0_sieved_squared, q_a0_sieved_squared_words), (a0_sieved_leasts, a0_sieved_greatests, a0_sieved_rests, a0_sieved_squared_words, a0_sieved_from, a0_sieved_many, a0_sieved_primeCount, a0_sieved_gap, a0_sieved_twins, a0_sieved_squareFree)), some ((h_a0_parting, q_a0_parting_factors, q_a0_parting_powers), (a0_parting_factors, a0_parting_powers, a0_parting_number, a0_parting_many)), oU, oG, some ((h_a0_rows, q_a0_rows_values), (a0_rows_values, a0_rows_many)))) ?_ ?_
        · exact blk_perm (fun i q => by simp only [xcells, vP_, kP_, vS_, kS_, vT_, kT_, vU_, kU_, vG_, kG_, vR_, kR_, List.count_append, List.count_cons, List.count_nil, Nat.zero_add, Nat.add_zero, List.nil_append, List.append_nil] <;> first | rfl | ac_rfl | omega)
        · exact fun r u h => h
        · intro u
          exact blk_perm (fun i q => by simp only [xcells, vP_, kP_, vS_, kS_, vT_, kT_, vU_, kU_, vG_, kG_, vR_, kR_, List.count_append, List.count_cons, List.count_nil, Nat.zero_add, Nat.add_zero, List.nil_append, List.append_nil] <;> first | rfl | ac_rfl | omega)
def wpx_among (mc ms : Nat) (X : XC_) (p1 : Int32) (p2 : Int32) (p3 : Int32) (Q : Int32 → XC_ → Prop) : Prop :=
  match X.1, X.2.2.2.1, X.2.2.2.2.1 with
  | none, none, none => wp_X8_among_c000 mc ms p1 p2 p3 (fun r g0 g1 g2 => Q r (g0, X.2.1, X.2.2.1, g1, g2, X.2.2.2.2.2))
  | none, none, some (a0_progression_struck_words) => wp_X8_among_c001 mc ms a0_progression_struck_words p1 p2 p3 (fun r o0 g0 g1 => Q r (g0, X.2.1, X.2.2.1, g1, some (o0), X.2.2.2.2.2))
  | none, some (a0_primeSums_low, a0_primeSums_high), none => wp_X8_among_c010 mc ms a0_primeSums_low a0_primeSums_high p1 p2 p3 (fun r o0 o1 g0 g1 => Q r (g0, X.2.1, X.2.2.1, some (o0, o1), g1, X.2.2.2.2.2))
  | none, some (a0_primeSums_low, a0_primeSums_high), some (a0_progression_struck_words) => wp_X8_among_c011 mc ms a0_primeSums_low a0_primeSums_high a0_progression_struck_words p1 p2 p3 (fun r o0 o1 o2 g0 => Q r (g0, X.2.1, X.2.2.1, some (o0, o1), some (o2), X.2.2.2.2.2))
  | some (a0_primes_table, a0_primes_many), none, none => wp_X8_among_c100 mc ms a0_primes_table a0_primes_many p1 p2 p3 (fun r g0 g1 => Q r (some (a0_primes_table, a0_primes_many), X.2.1, X.2.2.1, g0, g1, X.2.2.2.2.2))
  | some (a0_primes_table, a0_primes_many), none, some (a0_progression_struck_words) => wp_X8_among_c101 mc ms a0_primes_table a0_primes_many a0_progression_struck_words p1 p2 p3 (fun r o0 g0 => Q r (some (a0_primes_table, a0_primes_many), X.2.1, X.2.2.1, g0, some (o0), X.2.2.2.2.2))
  | some (a0_primes_table, a0_primes_many), some (a0_primeSums_low, a0_primeSums_high), none => wp_X8_among_c110 mc ms a0_primes_table a0_primes_many a0_primeSums_low a0_primeSums_high p1 p2 p3 (fun r o0 o1 g0 => Q r (some (a0_primes_table, a0_primes_many), X.2.1, X.2.2.1, some (o0, o1), g0, X.2.2.2.2.2))
  | some (a0_primes_table, a0_primes_many), some (a0_primeSums_low, a0_primeSums_high), some (a0_progression_struck_words) => mc = 0 ∧ ms = 0 ∧ wp_X8_among_c111 a0_primes_table a0_primes_many a0_primeSums_low a0_primeSums_high a0_progression_struck_words p1 p2 p3 (fun r o0 o1 o2 => Q r (some (a0_primes_table, a0_primes_many), X.2.1, X.2.2.1, some (o0, o1), some (o2), X.2.2.2.2.2))
abbrev rmx_among (mc ms : Nat) : Room := { frames := 6, cells := mc, slots := ms, locals := 136 }
set_option maxHeartbeats 4000000 in
set_option maxRecDepth 100000 in
theorem cx_among (l : Launch) (dC : Nat → ClassId) (dI : Nat → Nat → Nat) (cI cJ cZ : ClassId) (sz : Nat) (h0 mc ms : Nat) (X : XS_) (p1 : Int32) (p2 : Int32) (p3 : Int32) (Q : Int32 → XC_ → Prop) (hQ : wpx_among mc ms (xc_ X) p1 p2 p3 Q) : Met l yX8_among wsX8_among (rmx_among mc ms) (pre_ dC dI cI cJ cZ [.ref h0, .int p1, .int p2, .int p3] (xcells cI cJ cZ h0 X) sz) (va_Qi (fun (r : Int32) (X : XS_) => Q r (xc_ X)) (post_ dC dI (va_A (xcells cI cJ cZ h0 X) sz) (xcells cI cJ cZ h0)) (va_A (xcells cI cJ cZ h0 X) sz)) mc ms (va_A (xcells cI cJ cZ h0 X) sz) := by
  obtain ⟨oP, oS, oT, oU, oG, oR⟩ := X
  rcases oP with _ | ⟨⟨h_a0_primes, q_a0_primes_table⟩, ⟨a0_primes_table, a0_primes_many⟩⟩
  · rcases oU with _ | ⟨⟨h_a0_primeSums, q_a0_primeSums_low, q_a0_primeSums_high⟩, ⟨a0_primeSums_low, a0_primeSums_high⟩⟩
    · rcases oG with _ | ⟨⟨h_a0_progression, h_a0_progression_struck, q_a0_progression_struck_words⟩, a0_progression_struck_words⟩
      · replace hQ : wp_X8_among_c000 mc ms p1 p2 p3 (fun r g0 g1 g2 => Q r (g0, (oS.map Prod.snd), (oT.map Prod.snd), g1, g2, (oR.map Prod.snd))) := hQ
        refine lift_i (c_X8_among_c000 l dC dI cI cJ cZ sz mc ms h0 (vS_ oS) (vT_ oT) (vR_ oR) p1 p2 p3 _ hQ) (kS_ cI cJ cZ oS ++ (kT_ cI cJ cZ oT ++ (kR_ cI cJ cZ oR))) rfl ?_ (fun u => (u.1, oS, oT, u.2.1, u.2.2, oR)) ?_ ?_
        · exact blk_perm (fun i q => by simp only [xcells, vP_, kP_, vS_, kS_, vT_, kT_, vU_, kU_, vG_, kG_, vR_, kR_, List.count_append, List.count_cons, List.count_nil, Nat.zero_add, Nat.add_zero, List.nil_append, List.append_nil] <;> first | rfl | ac_rfl | omega)
        · exact fun r u h => h
        · intro u
          obtain ⟨g0, g1, g2⟩ := u
          rcases g0 with _ | ⟨w1, w2⟩ <;> rcases g1 with _ | ⟨w1, w2⟩ <;> rcases g2 with _ | ⟨w1, w2⟩ <;> exact blk_perm (fun i q => by simp only [xcells, vP_, kP_, vS_, kS_, vT_, kT_, vU_, kU_, vG_, kG_, vR_, kR_, List.count_append, List.count_cons, List.count_nil, Nat.zero_add, Nat.add_zero, List.nil_append, List.append_nil] <;> first | rfl | ac_rfl | omega)
      · replace hQ : wp_X8_among_c001 mc ms a0_progression_struck_words p1 p2 p3 (fun r o0 g0 g1 => Q r (g0, (oS.map Prod.snd), (oT.map Prod.snd), g1, some (o0), (oR.map Prod.snd))) := hQ
        refine lift_i (c_X8_among_c001 l dC dI cI cJ cZ sz mc ms h0 (vS_ oS) (vT_ oT) h_a0_progression h_a0_progression_struck a0_progression_struck_words q_a0_progression_struck_words (vR_ oR) p1 p2 p3 _ hQ) (kS_ cI cJ cZ oS ++ (kT_ cI cJ cZ oT ++ (kR_ cI cJ cZ oR))) rfl ?_ (fun u => (u.2.1, oS, oT, u.2.2, some ((h_a0_progression, h_a0_progression_struck, q_a0_progression_struck_words), (u.1)), oR)) ?_ ?_
        · exact blk_perm (fun i q => by simp only [xcells, vP_, kP_, vS_, kS_, vT_, kT_, vU_, kU_, vG_, kG_, vR_, kR_, List.count_append, List.count_cons, List.count_nil, Nat.zero_add, Nat.add_zero, List.nil_append, List.append_nil] <;> first | rfl | ac_rfl | omega)
        · exact fun r u h => h
        · intro u
          obtain ⟨y0, g0, g1⟩ := u
          rcases g0 with _ | ⟨w1, w2⟩ <;> rcases g1 with _ | ⟨w1, w2⟩ <;> exact blk_perm (fun i q => by simp only [xcells, vP_, kP_, vS_, kS_, vT_, kT_, vU_, kU_, vG_, kG_, vR_, kR_, List.count_append, List.count_cons, List.count_nil, Nat.zero_add, Nat.add_zero, List.nil_append, List.append_nil] <;> first | rfl | ac_rfl | omega)
    · rcases oG with _ | ⟨⟨h_a0_progression, h_a0_progression_struck, q_a0_progression_struck_words⟩, a0_progression_struck_words⟩
      · replace hQ : wp_X8_among_c010 mc ms a0_primeSums_low a0_primeSums_high p1 p2 p3 (fun r o0 o1 g0 g1 => Q r (g0, (oS.map Prod.snd), (oT.map Prod.snd), some (o0, o1), g1, (oR.map Prod.snd))) := hQ
        refine lift_i (c_X8_among_c010 l dC dI cI cJ cZ sz mc ms h0 (vS_ oS) (vT_ oT) h_a0_primeSums a0_primeSums_low q_a0_primeSums_low a0_primeSums_high q_a0_primeSums_high (vR_ oR) p1 p2 p3 _ hQ) (kS_ cI cJ cZ oS ++ (kT_ cI cJ cZ oT ++ (kR_ cI cJ cZ oR))) rfl ?_ (fun u => (u.2.2.1, oS, oT, some ((h_a0_primeSums, q_a0_primeSums_low, q_a0_primeSums_high), (u.1, u.2.1)), u.2.2.2, oR)) ?_ ?_
        · exact blk_perm (fun i q => by simp only [xcells, vP_, kP_, vS_, kS_, vT_, kT_, vU_, kU_, vG_, kG_, vR_, kR_, List.count_append, List.count_cons, List.count_nil, Nat.zero_add, Nat.add_zero, List.nil_append, List.append_nil] <;> first | rfl | ac_rfl | omega)
        · exact fun r u h => h
        · intro u
          obtain ⟨y0, y1, g0, g1⟩ := u
          rcases g0 with _ | ⟨w1, w2⟩ <;> rcases g1 with _ | ⟨w1, w2⟩ <;> exact blk_perm (fun i q => by simp only [xcells, vP_, kP_, vS_, kS_, vT_, kT_, vU_, kU_, vG_, kG_, vR_, kR_, List.count_append, List.count_cons, List.count_nil, Nat.zero_add, Nat.add_zero, List.nil_append, List.append_nil] <;> first | rfl | ac_rfl | omega)
      · replace hQ : wp_X8_among_c011 mc ms a0_primeSums_low a0_primeSums_high a0_progression_struck_words p1 p2 p3 (fun r o0 o1 o2 g0 => Q r (g0, (oS.map Prod.snd), (oT.map Prod.snd), some (o0, o1), some (o2), (oR.map Prod.snd))) := hQ
        refine lift_i (c_X8_among_c011 l dC dI cI cJ cZ sz mc ms h0 (vS_ oS) (vT_ oT) h_a0_primeSums a0_primeSums_low q_a0_primeSums_low a0_primeSums_high q_a0_primeSums_high h_a0_progression h_a0_progression_struck a0_progression_struck_words q_a0_progression_struck_words (vR_ oR) p1 p2 p3 _ hQ) (kS_ cI cJ cZ oS ++ (kT_ cI cJ cZ oT ++ (kR_ cI cJ cZ oR))) rfl ?_ (fun u => (u.2.2.2, oS, oT, some ((h_a0_primeSums, q_a0_primeSums_low, q_a0_primeSums_high), (u.1, u.2.1)), some ((h_a0_progression, h_a0_progression_struck, q_a0_progression_struck_words), (u.2.2.1)), oR)) ?_ ?_
        · exact blk_perm (fun i q => by simp only [xcells, vP_, kP_, vS_, kS_, vT_, kT_, vU_, kU_, vG_, kG_, vR_, kR_, List.count_append, List.count_cons, List.count_nil, Nat.zero_add, Nat.add_zero, List.nil_append, List.append_nil] <;> first | rfl | ac_rfl | omega)
        · exact fun r u h => h
        · intro u
          obtain ⟨y0, y1, y2, g0⟩ := u
          rcases g0 with _ | ⟨w1, w2⟩ <;> exact blk_perm (fun i q => by simp only [xcells, vP_, kP_, vS_, kS_, vT_, kT_, vU_, kU_, vG_, kG_, vR_, kR_, List.count_append, List.count_cons, List.count_nil, Nat.zero_add, Nat.add_zero, List.nil_append, List.append_nil] <;> first | rfl | ac_rfl | omega)
  · rcases oU with _ | ⟨⟨h_a0_primeSums, q_a0_primeSums_low, q_a0_primeSums_high⟩, ⟨a0_primeSums_low, a0_primeSums_high⟩⟩
    · rcases oG with _ | ⟨⟨h_a0_progression, h_a0_progression_struck, q_a0_progression_struck_words⟩, a0_progression_struck_words⟩
      · replace hQ : wp_X8_among_c100 mc ms a0_primes_table a0_primes_many p1 p2 p3 (fun r g0 g1 => Q r (some (a0_primes_table, a0_primes_many), (oS.map Prod.snd), (oT.map Prod.snd), g0, g1, (oR.map Prod.snd))) := hQ
        refine lift_i (c_X8_among_c100 l dC dI cI cJ cZ sz mc ms h0 h_a0_primes a0_primes_table q_a0_primes_table a0_primes_many (vS_ oS) (vT_ oT) (vR_ oR) p1 p2 p3 _ hQ) (kS_ cI cJ cZ oS ++ (kT_ cI cJ cZ oT ++ (kR_ cI cJ cZ oR))) rfl ?_ (fun u => (some ((h_a0_primes, q_a0_primes_table), (a0_primes_table, a0_primes_many)), oS, oT, u.1, u.2, oR)) ?_ ?_
        · exact blk_perm (fun i q => by simp only [xcells, vP_, kP_, vS_, kS_, vT_, kT_, vU_, kU_, vG_, kG_, vR_, kR_, List.count_append, List.count_cons, List.count_nil, Nat.zero_add, Nat.add_zero, List.nil_append, List.append_nil] <;> first | rfl | ac_rfl | omega)
        · exact fun r u h => h
        · intro u
          obtain ⟨g0, g1⟩ := u
          rcases g0 with _ | ⟨w1, w2⟩ <;> rcases g1 with _ | ⟨w1, w2⟩ <;> exact blk_perm (fun i q => by simp only [xcells, vP_, kP_, vS_, kS_, vT_, kT_, vU_, kU_, vG_, kG_, vR_, kR_, List.count_append, List.count_cons, List.count_nil, Nat.zero_add, Nat.add_zero, List.nil_append, List.append_nil] <;> first | rfl | ac_rfl | omega)
      · replace hQ : wp_X8_among_c101 mc ms a0_primes_table a0_primes_many a0_progression_struck_words p1 p2 p3 (fun r o0 g0 => Q r (some (a0_primes_table, a0_primes_many), (oS.map Prod.snd), (oT.map Prod.snd), g0, some (o0), (oR.map Prod.snd))) := hQ
        refine lift_i (c_X8_among_c101 l dC dI cI cJ cZ sz mc ms h0 h_a0_primes a0_primes_table q_a0_primes_table a0_primes_many (vS_ oS) (vT_ oT) h_a0_progression h_a0_progression_struck a0_progression_struck_words q_a0_progression_struck_words (vR_ oR) p1 p2 p3 _ hQ) (kS_ cI cJ cZ oS ++ (kT_ cI cJ cZ oT ++ (kR_ cI cJ cZ oR))) rfl ?_ (fun u => (some ((h_a0_primes, q_a0_primes_table), (a0_primes_table, a0_primes_many)), oS, oT, u.2, some ((h_a0_progression, h_a0_progression_struck, q_a0_progression_struck_words), (u.1)), oR)) ?_ ?_
        · exact blk_perm (fun i q => by simp only [xcells, vP_, kP_, vS_, kS_, vT_, kT_, vU_, kU_, vG_, kG_, vR_, kR_, List.count_append, List.count_cons, List.count_nil, Nat.zero_add, Nat.add_zero, List.nil_append, List.append_nil] <;> first | rfl | ac_rfl | omega)
        · exact fun r u h => h
        · intro u
          obtain ⟨y0, g0⟩ := u
          rcases g0 with _ | ⟨w1, w2⟩ <;> exact blk_perm (fun i q => by simp only [xcells, vP_, kP_, vS_, kS_, vT_, kT_, vU_, kU_, vG_, kG_, vR_, kR_, List.count_append, List.count_cons, List.count_nil, Nat.zero_add, Nat.add_zero, List.nil_append, List.append_nil] <;> first | rfl | ac_rfl | omega)
    · rcases oG with _ | ⟨⟨h_a0_progression, h_a0_progression_struck, q_a0_progression_struck_words⟩, a0_progression_struck_words⟩
      · replace hQ : wp_X8_among_c110 mc ms a0_primes_table a0_primes_many a0_primeSums_low a0_primeSums_high p1 p2 p3 (fun r o0 o1 g0 => Q r (some (a0_primes_table, a0_primes_many), (oS.map Prod.snd), (oT.map Prod.snd), some (o0, o1), g0, (oR.map Prod.snd))) := hQ
        refine lift_i (c_X8_among_c110 l dC dI cI cJ cZ sz mc ms h0 h_a0_primes a0_primes_table q_a0_primes_table a0_primes_many (vS_ oS) (vT_ oT) h_a0_primeSums a0_primeSums_low q_a0_primeSums_low a0_primeSums_high q_a0_primeSums_high (vR_ oR) p1 p2 p3 _ hQ) (kS_ cI cJ cZ oS ++ (kT_ cI cJ cZ oT ++ (kR_ cI cJ cZ oR))) rfl ?_ (fun u => (some ((h_a0_primes, q_a0_primes_table), (a0_primes_table, a0_primes_many)), oS, oT, some ((h_a0_primeSums, q_a0_primeSums_low, q_a0_primeSums_high), (u.1, u.2.1)), u.2.2, oR)) ?_ ?_
        · exact blk_perm (fun i q => by simp only [xcells, vP_, kP_, vS_, kS_, vT_, kT_, vU_, kU_, vG_, kG_, vR_, kR_, List.count_append, List.count_cons, List.count_nil, Nat.zero_add, Nat.add_zero, List.nil_append, List.append_nil] <;> first | rfl | ac_rfl | omega)
        · exact fun r u h => h
        · intro u
          obtain ⟨y0, y1, g0⟩ := u
          rcases g0 with _ | ⟨w1, w2⟩ <;> exact blk_perm (fun i q => by simp only [xcells, vP_, kP_, vS_, kS_, vT_, kT_, vU_, kU_, vG_, kG_, vR_, kR_, List.count_append, List.count_cons, List.count_nil, Nat.zero_add, Nat.add_zero, List.nil_append, List.append_nil] <;> first | rfl | ac_rfl | omega)
      · obtain ⟨rfl, rfl, hQ⟩ := hQ
        refine lift_i (c_X8_among_c111 l dC dI cI cJ cZ sz h0 h_a0_primes a0_primes_table q_a0_primes_table a0_primes_many (vS_ oS) (vT_ oT) h_a0_primeSums a0_primeSums_low q_a0_primeSums_low a0_primeSums_high q_a0_primeSums_high h_a0_progression h_a0_progression_struck a0_progression_struck_words q_a0_progression_struck_words (vR_ oR) p1 p2 p3 _ hQ) (kS_ cI cJ cZ oS ++ (kT_ cI cJ cZ oT ++ (kR_ cI cJ cZ oR))) rfl ?_ (fun u => (some ((h_a0_primes, q_a0_primes_table), (a0_primes_table, a0_primes_many)), oS, oT, some ((h_a0_primeSums, q_a0_primeSums_low, q_a0_primeSums_high), (u.1, u.2.1)), some ((h_a0_progression, h_a0_progression_struck, q_a0_progression_struck_words), (u.2.2)), oR)) ?_ ?_
        · exact blk_perm (fun i q => by simp only [xcells, vP_, kP_, vS_, kS_, vT_, kT_, vU_, kU_, vG_, kG_, vR_, kR_, List.count_append, List.count_cons, List.count_nil, Nat.zero_add, Nat.add_zero, List.nil_append, List.append_nil] <;> first | rfl | ac_rfl | omega)
        · exact fun r u h => h
        · intro u
          obtain ⟨y0, y1, y2⟩ := u
          exact blk_perm (fun i q => by simp only [xcells, vP_, kP_, vS_, kS_, vT_, kT_, vU_, kU_, vG_, kG_, vR_, kR_, List.count_append, List.count_cons, List.count_nil, Nat.zero_add, Nat.add_zero, List.nil_append, List.append_nil] <;> first | rfl | ac_rfl | omega)

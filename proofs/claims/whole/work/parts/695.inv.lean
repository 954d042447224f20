/-! the invariant of both objects -/
noncomputable def lastP (P : Nat → Prop) : Nat → Nat
  | 0 => 0
  | i + 1 => @ite Nat (P i) (Classical.propDecidable _) (i + 1) (lastP P i)
noncomputable def gapP (P : Nat → Prop) : Nat → Nat
  | 0 => 0
  | i + 1 => @ite Nat (P i ∧ lastP P i ≠ 0 ∧ gapP P i < i + 1 - lastP P i) (Classical.propDecidable _) (i + 1 - lastP P i) (gapP P i)
def RS_ (o : Option CS_) (hs : Int32) (fr : Int64) (mn : Int32) (le ge : Nat → Int64) (sq : Nat → Int32) : Prop := match o with
  | none => hs = 0
  | some (lv, gv, _, _, fr', mn', pc, gp, tw, sf) => hs = 1 ∧ ∃ F m : Nat, 1 ≤ F ∧ 1 ≤ m ∧ m ≤ 5000 ∧ F + m ≤ 10000000001 ∧ fr = lN F ∧ mn = nI m ∧ fr' = lN F ∧ mn' = nI m ∧ (∀ i, i < m → ∃ a, LP_ (F + i) a ∧ lv i = lN a ∧ le i = lN a) ∧ (∀ i, i < m → ∃ g, GP_ (F + i) g ∧ gv i = lN g ∧ ge i = lN g) ∧ (∀ i, i < m → (sq i = 1 ∧ SQ_ (F + i)) ∨ (sq i = 0 ∧ ¬ SQ_ (F + i))) ∧ pc = nI (cntQ (fun i => isP (F + i)) m) ∧ gp = nI (gapP (fun i => isP (F + i)) m) ∧ tw = nI (cntQ (fun i => isP (F + i) ∧ i + 2 < m ∧ isP (F + (i + 2))) m) ∧ sf = nI (cntQ (fun i => ¬ SQ_ (F + i)) m)
def Inv_ (X : XC_) (M : MC_) : Prop := tabO_ X.1 ∧ tab_ (m_prime M) (m_primes M) ∧ nn_ (m_isNone M) ∧ RS_ X.2.1 (m_hasSpan M) (m_spanFrom M) (m_spanMany M) (m_least M) (m_greatest M) (m_isSquared M) ∧ RP_ X.2.2.1 (m_hasPart M) (m_parted M) (m_partMany M) (m_partPrime M) (m_partPower M) ∧ RR_ X.2.2.2.2.2 (m_rows M) (m_row M)
theorem Inv_HR : HR Inv_ := fun _ _ h => h.2.2.2.2.2
theorem Inv_UR : UR Inv_ := by
  intro oP oS oT oU oG oR oR2 m0 m1 m2 m3 m4 m5 m6 m7 m8 m9 m10 m11 m12 m13 m14 m15 m16 m17 m18 rows row h hR
  exact ⟨h.1, h.2.1, h.2.2.1, h.2.2.2.1, h.2.2.2.2.1, hR⟩
theorem cc_PN {w : CP_} {oS : Option CS_} {oT : Option CT_} {oU : Option CU_} {oG : Option CG_} {oR : Option CR_} : cc_ (none, oS, oT, oU, oG, oR) + 4 ≤ cc_ (some w, oS, oT, oU, oG, oR) := by
  unfold cc_
  dsimp only
  omega
theorem cs_PN {w : CP_} {oS : Option CS_} {oT : Option CT_} {oU : Option CU_} {oG : Option CG_} {oR : Option CR_} : cs_ (none, oS, oT, oU, oG, oR) + 11158 ≤ cs_ (some w, oS, oT, oU, oG, oR) := by
  unfold cs_
  dsimp only
  omega
theorem cc_T {oP : Option CP_} {oS : Option CS_} {w w' : CT_} {oU : Option CU_} {oG : Option CG_} {oR : Option CR_} : cc_ (oP, oS, some w, oU, oG, oR) + 0 ≤ cc_ (oP, oS, some w', oU, oG, oR) := Nat.le_of_eq (Nat.add_zero _)
theorem cs_T {oP : Option CP_} {oS : Option CS_} {w w' : CT_} {oU : Option CU_} {oG : Option CG_} {oR : Option CR_} : cs_ (oP, oS, some w, oU, oG, oR) + 0 ≤ cs_ (oP, oS, some w', oU, oG, oR) := Nat.le_of_eq (Nat.add_zero _)
theorem cc_PTN {w : CP_} {oS : Option CS_} {v : CT_} {oU : Option CU_} {oG : Option CG_} {oR : Option CR_} : cc_ (none, oS, none, oU, oG, oR) + 7 ≤ cc_ (some w, oS, some v, oU, oG, oR) := by
  unfold cc_
  dsimp only
  omega
theorem cs_PTN {w : CP_} {oS : Option CS_} {v : CT_} {oU : Option CU_} {oG : Option CG_} {oR : Option CR_} : cs_ (none, oS, none, oU, oG, oR) + 11182 ≤ cs_ (some w, oS, some v, oU, oG, oR) := by
  unfold cs_
  dsimp only
  omega
theorem cc_PT {w : CP_} {oS : Option CS_} {v v' : CT_} {oU : Option CU_} {oG : Option CG_} {oR : Option CR_} : cc_ (none, oS, some v, oU, oG, oR) + 4 ≤ cc_ (some w, oS, some v', oU, oG, oR) := by
  unfold cc_
  dsimp only
  omega
theorem cs_PT {w : CP_} {oS : Option CS_} {v v' : CT_} {oU : Option CU_} {oG : Option CG_} {oR : Option CR_} : cs_ (none, oS, some v, oU, oG, oR) + 11158 ≤ cs_ (some w, oS, some v', oU, oG, oR) := by
  unfold cs_
  dsimp only
  omega
theorem cc_TN {oP : Option CP_} {oS : Option CS_} {v : CT_} {oU : Option CU_} {oG : Option CG_} {oR : Option CR_} : cc_ (oP, oS, none, oU, oG, oR) + 3 ≤ cc_ (oP, oS, some v, oU, oG, oR) := by
  unfold cc_
  dsimp only
  omega
theorem cs_TN {oP : Option CP_} {oS : Option CS_} {v : CT_} {oU : Option CU_} {oG : Option CG_} {oR : Option CR_} : cs_ (oP, oS, none, oU, oG, oR) + 24 ≤ cs_ (oP, oS, some v, oU, oG, oR) := by
  unfold cs_
  dsimp only
  omega
theorem s_isIn {n : Nat} (h1 : 1 ≤ n) (hn : n ≤ 10000000000) {Q : Int32 → Prop} (h : Q 1) : wp_X8_isInRange (lN n) Q := by
  unfold wp_X8_isInRange
  refine ⟨fun c => ?_, fun _ => ⟨fun c => ?_, fun _ => h⟩⟩
  · have := (pk_lLT (a := n) (b := 1) (by omega) (by omega)).mp c
    omega
  · have := (pk_lLT (a := 10000000000) (b := n) (by omega) (by omega)).mp c
    omega
theorem s_isInN {p : Int64} (hp : p.toInt < 1 ∨ 10000000000 < p.toInt) {Q : Int32 → Prop} (h : Q 0) : wp_X8_isInRange p Q := by
  unfold wp_X8_isInRange
  refine ⟨fun _ => h, fun c => ⟨fun _ => h, fun d => ?_⟩⟩
  have c' : ¬ p.toInt < 1 := fun q => c (llt.mpr q)
  have d' : ¬ (10000000000 : Int) < p.toInt := fun q => d (llt.mpr q)
  omega
theorem l_cases (p : Int64) : (p.toInt < 1 ∨ 10000000000 < p.toInt) ∨ ∃ n : Nat, 1 ≤ n ∧ n ≤ 10000000000 ∧ p = lN n := by
  by_cases q : p.toInt < 1 ∨ 10000000000 < p.toInt
  · exact Or.inl q
  · obtain ⟨n, a, b, c⟩ := l_nat (a := p) (by omega)
    exact Or.inr ⟨n, by omega, by omega, b⟩
theorem s_in10N {p : Int64} (h : p.toInt < 1 ∨ 10000000000 < p.toInt) {Q : Int32 → Prop} (hq : Q 0) : wp_X9_in p (1 : Int64) (10000000000 : Int64) Q := by
  refine s_in (fun a b => ?_) (fun _ => hq)
  have a' : (1 : Int) ≤ p.toInt := a
  have b' : p.toInt ≤ (10000000000 : Int) := b
  omega
theorem s_in10 {n : Nat} (h1 : 1 ≤ n) (hn : n ≤ 10000000000) {Q : Int32 → Prop} (hq : Q 1) : wp_X9_in (lN n) (1 : Int64) (10000000000 : Int64) Q := by
  refine s_in (fun _ _ => hq) (fun a => ?_)
  rw [tl (by omega)] at a
  have a' : (n : Int) < 1 ∨ (10000000000 : Int) < (n : Int) := a
  omega
theorem s_prime9 {f : Nat → Int32} {m : Int32} (ht : tab_ f m) {n : Nat} (h1 : 1 ≤ n) (hn : n ≤ 10000000000) {Q : Int32 → Prop} (g1 : isP n → Q 1) (g0 : ¬ isP n → Q 0) : wp_X9_prime m f (lN n) Q := by
  unfold wp_X9_prime
  refine s_in10 h1 hn ⟨fun c => absurd c (by decide), fun _ => ?_⟩
  exact s_isP9 ht hn (fun q => ⟨fun c => absurd c (by decide), fun _ => g1 q⟩) (fun q => ⟨fun _ => g0 q, fun c => absurd rfl c⟩)
theorem s_prime9N {f : Nat → Int32} {m : Int32} {p : Int64} (h : p.toInt < 1 ∨ 10000000000 < p.toInt) {Q : Int32 → Prop} (g : Q (-1)) : wp_X9_prime m f p Q := by
  unfold wp_X9_prime
  exact s_in10N h ⟨fun _ => g, fun c => absurd rfl c⟩
theorem t_prime : st_prime Inv_ := by
  rintro ⟨oP, oS, oT, oU, oG, oR⟩ ⟨m0, m1, m2, m3, m4, m5, m6, m7, m8, m9, m10, m11, m12, m13, m14, m15, m16, m17, m18⟩ p1 hI
  obtain ⟨iP, iT, iN, iS, iQ, iR⟩ := id hI
  rcases l_cases p1 with hp | ⟨n, h1, hn, rfl⟩
  · refine ⟨0, 0, by omega, by omega, ?_⟩
    rcases oP with _ | ⟨tb, mn⟩
    · unfold wpx_prime
      dsimp only
      unfold wp_X8_prime_c0
      exact s_isInN hp ⟨fun _ => ⟨le00, le00, s_prime9N hp ⟨rfl, hI⟩⟩, fun c => absurd rfl c⟩
    · unfold wpx_prime
      dsimp only
      refine ⟨rfl, rfl, ?_⟩
      unfold wp_X8_prime_c1
      exact s_isInN hp ⟨fun _ => ⟨le00, le00, s_prime9N hp ⟨rfl, hI⟩⟩, fun c => absurd rfl c⟩
  · rcases oP with _ | ⟨tb, mn⟩
    · refine ⟨4, 11158, by omega, by omega, ?_⟩
      unfold wpx_prime
      dsimp only
      unfold wp_X8_prime_c0 wp_X8_knownPrimes_c0
      refine s_isIn h1 hn ⟨fun c => absurd c (by decide), fun _ => ⟨by omega, by omega, ?_⟩⟩
      refine s_init3 (fun f m hf => ?_)
      refine s_isP5 hf hn (fun q => ⟨fun c => absurd c (by decide), fun _ => ⟨cc_PN, cs_PN, ?_⟩⟩) (fun q => ⟨fun _ => ⟨cc_PN, cs_PN, ?_⟩, fun c => absurd rfl c⟩)
      · exact s_prime9 iT h1 hn (fun _ => ⟨rfl, hf, iT, iN, iS, iQ, iR⟩) (fun z => absurd q z)
      · exact s_prime9 iT h1 hn (fun z => absurd z q) (fun _ => ⟨rfl, hf, iT, iN, iS, iQ, iR⟩)
    · refine ⟨0, 0, by omega, by omega, ?_⟩
      unfold wpx_prime
      dsimp only
      refine ⟨rfl, rfl, ?_⟩
      unfold wp_X8_prime_c1 wp_X8_knownPrimes_c1
      refine s_isIn h1 hn ⟨fun c => absurd c (by decide), fun _ => ?_⟩
      refine s_isP5 iP hn (fun q => ⟨fun c => absurd c (by decide), fun _ => ⟨le00, le00, ?_⟩⟩) (fun q => ⟨fun _ => ⟨le00, le00, ?_⟩, fun c => absurd rfl c⟩)
      · exact s_prime9 iT h1 hn (fun _ => ⟨rfl, hI⟩) (fun z => absurd q z)
      · exact s_prime9 iT h1 hn (fun z => absurd z q) (fun _ => ⟨rfl, hI⟩)
theorem s_next9N {f : Nat → Int32} {m : Int32} {p : Int64} {p2 : Int32} (h : p.toInt < 1 ∨ 10000000000 < p.toInt) {Q : Int64 → Prop} (g : Q 0) : wp_X9_next m f p p2 Q := by
  unfold wp_X9_next
  exact s_in10N h ⟨fun _ => g, fun c => absurd rfl c⟩
theorem t_next : st_next Inv_ := by
  rintro ⟨oP, oS, oT, oU, oG, oR⟩ ⟨m0, m1, m2, m3, m4, m5, m6, m7, m8, m9, m10, m11, m12, m13, m14, m15, m16, m17, m18⟩ p1 p2 hI
  obtain ⟨iP, iT, iN, iS, iQ, iR⟩ := id hI
  rcases l_cases p1 with hp | ⟨n, h1, hn, rfl⟩
  · refine ⟨0, 0, by omega, by omega, ?_⟩
    rcases oP with _ | ⟨tb, mn⟩
    · unfold wpx_next
      dsimp only
      unfold wp_X8_next_c0
      exact s_isInN hp ⟨fun _ => ⟨le00, le00, s_next9N hp ⟨rfl, hI⟩⟩, fun c => absurd rfl c⟩
    · unfold wpx_next
      dsimp only
      refine ⟨rfl, rfl, ?_⟩
      unfold wp_X8_next_c1
      exact s_isInN hp ⟨fun _ => ⟨le00, le00, s_next9N hp ⟨rfl, hI⟩⟩, fun c => absurd rfl c⟩
  · rcases oP with _ | ⟨tb, mn⟩
    · refine ⟨4, 11158, by omega, by omega, ?_⟩
      unfold wpx_next
      dsimp only
      unfold wp_X8_next_c0 wp_X8_knownPrimes_c0
      refine s_isIn h1 hn ⟨fun c => absurd c (by decide), fun _ => ⟨fun e => ⟨by omega, by omega, ?_⟩, fun e => ⟨by omega, by omega, ?_⟩⟩⟩
      · subst e
        exact s_init3 (fun f m hf => s_above hf hn (fun r hr => ⟨cc_PN, cs_PN, s_next9U iT h1 hn (fun r' hr' => ⟨by rw [nx_uq hr hr'], hf, iT, iN, iS, iQ, iR⟩)⟩))
      · exact s_init3 (fun f m hf => s_below hf h1 hn (fun r hr => ⟨cc_PN, cs_PN, s_next9D iT h1 hn e (fun r' hr' => ⟨by rw [pv_uq hr hr'], hf, iT, iN, iS, iQ, iR⟩)⟩))
    · refine ⟨0, 0, by omega, by omega, ?_⟩
      unfold wpx_next
      dsimp only
      refine ⟨rfl, rfl, ?_⟩
      unfold wp_X8_next_c1 wp_X8_knownPrimes_c1
      refine s_isIn h1 hn ⟨fun c => absurd c (by decide), fun _ => ⟨fun e => ?_, fun e => ?_⟩⟩
      · subst e
        exact s_above iP hn (fun r hr => ⟨le00, le00, s_next9U iT h1 hn (fun r' hr' => ⟨by rw [nx_uq hr hr'], hI⟩)⟩)
      · exact s_below iP h1 hn (fun r hr => ⟨le00, le00, s_next9D iT h1 hn e (fun r' hr' => ⟨by rw [pv_uq hr hr'], hI⟩)⟩)
/-! part -/
theorem s_part9N {pr : Int32} {f : Nat → Int32} {a : Int32} {b : Int64} {c : Int32} {d : Nat → Int64} {e : Nat → Int32} {fl fg : Int64} {fs : Int32} {p : Int64} (h : p.toInt < 1 ∨ 10000000000 < p.toInt) {Q : Int32 → Int32 → Int64 → Int32 → Int64 → Int64 → Int32 → (Nat → Int64) → (Nat → Int32) → Prop} (g : Q (-1) a b c fl fg fs d e) : wp_X9_part pr f a b c d e fl fg fs p Q := by
  unfold wp_X9_part
  exact s_in10N h ⟨fun _ => g, fun c => absurd rfl c⟩
theorem s_part9 {pr : Int32} {f : Nat → Int32} (ht : tab_ f pr) {a : Int32} {b : Int64} {c : Int32} {d : Nat → Int64} {e : Nat → Int32} {fl fg : Int64} {fs : Int32} {n : Nat} (h1 : 1 ≤ n) (hn : n ≤ 10000000000) {Q : Int32 → Int32 → Int64 → Int32 → Int64 → Int64 → Int32 → (Nat → Int64) → (Nat → Int32) → Prop} (g : ∀ many fl fg fs pp pw, FIN_ n many pp pw → Q many 1 (lN n) many fl fg fs pp pw) : wp_X9_part pr f a b c d e fl fg fs (lN n) Q := by
  unfold wp_X9_part
  refine s_in10 h1 hn ⟨fun c => absurd c (by decide), fun _ => ?_⟩
  exact s_parts9 ht h1 hn (fun q => absurd q (by decide)) (fun _ many fl fg fs pp pw hF => g many fl fg fs pp pw hF)
theorem t_part : st_part Inv_ := by
  rintro ⟨oP, oS, oT, oU, oG, oR⟩ ⟨m0, m1, m2, m3, m4, m5, m6, m7, m8, m9, m10, m11, m12, m13, m14, m15, m16, m17, m18⟩ p1 hI
  obtain ⟨iP, iT, iN, iS, iQ, iR⟩ := id hI
  rcases l_cases p1 with hp | ⟨n, h1, hn, rfl⟩
  · refine ⟨0, 0, by omega, by omega, ?_⟩
    rcases oP with _ | ⟨tb, mn⟩ <;> rcases oT with _ | ⟨fa, po, nu, ma⟩
    · unfold wpx_part
      dsimp only
      unfold wp_X8_part_c00
      exact s_isInN hp ⟨fun _ => ⟨le00, le00, s_part9N hp ⟨rfl, hI⟩⟩, fun c => absurd rfl c⟩
    · unfold wpx_part
      dsimp only
      unfold wp_X8_part_c01
      exact s_isInN hp ⟨fun _ => ⟨le00, le00, s_part9N hp ⟨rfl, hI⟩⟩, fun c => absurd rfl c⟩
    · unfold wpx_part
      dsimp only
      unfold wp_X8_part_c10
      exact s_isInN hp ⟨fun _ => ⟨le00, le00, s_part9N hp ⟨rfl, hI⟩⟩, fun c => absurd rfl c⟩
    · unfold wpx_part
      dsimp only
      refine ⟨rfl, rfl, ?_⟩
      unfold wp_X8_part_c11
      exact s_isInN hp ⟨fun _ => ⟨le00, le00, s_part9N hp ⟨rfl, hI⟩⟩, fun c => absurd rfl c⟩
  · rcases oP with _ | ⟨tb, mn⟩ <;> rcases oT with _ | ⟨fa, po, nu, ma⟩
    · refine ⟨7, 11182, by omega, by omega, ?_⟩
      unfold wpx_part
      dsimp only
      unfold wp_X8_part_c00 wp_X8_knownPrimes_c0 wp_X1_init
      refine s_isIn h1 hn ⟨fun c => absurd c (by decide), fun _ => ⟨by omega, by omega, by omega, by omega, by omega, by omega, ?_⟩⟩
      exact s_init3 (fun f m hf => s_take hf h1 hn (fun many fac pow hF => ⟨cc_PTN, cs_PTN, s_part9 iT h1 hn (fun many' fl fg fs pp pw hF' => ⟨(FIN_RP h1 hn hF hF').1, hf, iT, iN, iS, (FIN_RP h1 hn hF hF').2, iR⟩)⟩))
    · refine ⟨4, 11158, by omega, by omega, ?_⟩
      unfold wpx_part
      dsimp only
      unfold wp_X8_part_c01 wp_X8_knownPrimes_c0
      refine s_isIn h1 hn ⟨fun c => absurd c (by decide), fun _ => ⟨by omega, by omega, ?_⟩⟩
      exact s_init3 (fun f m hf => s_take hf h1 hn (fun many fac pow hF => ⟨cc_PT, cs_PT, s_part9 iT h1 hn (fun many' fl fg fs pp pw hF' => ⟨(FIN_RP h1 hn hF hF').1, hf, iT, iN, iS, (FIN_RP h1 hn hF hF').2, iR⟩)⟩))
    · refine ⟨3, 24, by omega, by omega, ?_⟩
      unfold wpx_part
      dsimp only
      unfold wp_X8_part_c10 wp_X8_knownPrimes_c1 wp_X1_init
      refine s_isIn h1 hn ⟨fun c => absurd c (by decide), fun _ => ⟨by omega, by omega, by omega, by omega, ?_⟩⟩
      exact s_take iP h1 hn (fun many fac pow hF => ⟨cc_TN, cs_TN, s_part9 iT h1 hn (fun many' fl fg fs pp pw hF' => ⟨(FIN_RP h1 hn hF hF').1, iP, iT, iN, iS, (FIN_RP h1 hn hF hF').2, iR⟩)⟩)
    · refine ⟨0, 0, by omega, by omega, ?_⟩
      unfold wpx_part
      dsimp only
      refine ⟨rfl, rfl, ?_⟩
      unfold wp_X8_part_c11 wp_X8_knownPrimes_c1
      refine s_isIn h1 hn ⟨fun c => absurd c (by decide), fun _ => ?_⟩
      exact s_take iP h1 hn (fun many fac pow hF => ⟨cc_T, cs_T, s_part9 iT h1 hn (fun many' fl fg fs pp pw hF' => ⟨(FIN_RP h1 hn hF hF').1, iP, iT, iN, iS, (FIN_RP h1 hn hF hF').2, iR⟩)⟩)
/-! parts -/
theorem ix_cases (p : Int32) (k : Nat) (hk : k ≤ 5000) : (p.toInt < 0 ∨ (k : Int) ≤ p.toInt) ∨ ∃ t : Nat, t < k ∧ p = nI t := by
  by_cases q : p.toInt < 0 ∨ (k : Int) ≤ p.toInt
  · exact Or.inl q
  · obtain ⟨n, a, b, c⟩ := i_nat (a := p) (by omega)
    exact Or.inr ⟨n, by omega, b⟩
theorem s_inK {k : Nat} (hk : k ≤ 5000) {t : Nat} (ht : t < k) {Q : Int32 → Prop} (h : Q 1) : wp_X9_in ((nI t).toInt64) (0 : Int64) ((nI k - (1 : Int32)).toInt64) Q := by
  refine s_in (fun _ _ => h) (fun a => ?_)
  rw [i2l_t, i2l_t, sub1_t (by omega), tn (by omega)] at a
  have a' : (t : Int) < 0 ∨ (k : Int) - 1 < (t : Int) := a
  omega
theorem s_inKN {k : Nat} (hk : k ≤ 5000) {p : Int32} (hp : p.toInt < 0 ∨ (k : Int) ≤ p.toInt) {Q : Int32 → Prop} (h : Q 0) : wp_X9_in (p.toInt64) (0 : Int64) ((nI k - (1 : Int32)).toInt64) Q := by
  refine s_in (fun a b => ?_) (fun _ => h)
  rw [i2l_t] at a
  rw [i2l_t, i2l_t, sub1_t (by omega)] at b
  have a' : (0 : Int) ≤ p.toInt := a
  omega
theorem s_primeOf {fac : Nat → Int64} {k t : Nat} (hk : k ≤ 10) (ht : t < k) {Q : Int64 → Prop} (h : Q (fac t)) : wp_X1_primeOf fac (nI k) (nI t) Q := by
  unfold wp_X1_primeOf
  refine ⟨fun c => absurd c (nI_pos (by omega)), fun _ => ⟨fun c => ?_, fun _ => ⟨vp_in_nI (by omega) (by omega), ?_⟩⟩⟩
  · have := (nI_leI (by omega) (by omega)).mp c
    omega
  · rw [nI_clamp (by omega)]; exact h
theorem s_powerOf {pow : Nat → Int32} {k t : Nat} (hk : k ≤ 10) (ht : t < k) {Q : Int32 → Prop} (h : Q (pow t)) : wp_X1_powerOf pow (nI k) (nI t) Q := by
  unfold wp_X1_powerOf
  refine ⟨fun c => absurd c (nI_pos (by omega)), fun _ => ⟨fun c => ?_, fun _ => ⟨vp_in_nI (by omega) (by omega), ?_⟩⟩⟩
  · have := (nI_leI (by omega) (by omega)).mp c
    omega
  · rw [nI_clamp (by omega)]; exact h
theorem ilk {p : Int32} {k : Nat} (hk : k ≤ 5000) : nI k ≤ p ↔ (k : Int) ≤ p.toInt := by
  rw [ile, tn (by omega)]
theorem s_primeOfN {fac : Nat → Int64} {k : Nat} (hk : k ≤ 10) {p : Int32} (hp : p.toInt < 0 ∨ (k : Int) ≤ p.toInt) {Q : Int64 → Prop} (h : Q 0) : wp_X1_primeOf fac (nI k) p Q := by
  unfold wp_X1_primeOf
  refine ⟨fun _ => h, fun c => ⟨fun _ => h, fun d => ?_⟩⟩
  have c' : ¬ p.toInt < 0 := fun q => c (ilt.mpr q)
  have d' := mt (ilk (p := p) (k := k) (by omega)).mpr d
  omega
theorem s_powerOfN {pow : Nat → Int32} {k : Nat} (hk : k ≤ 10) {p : Int32} (hp : p.toInt < 0 ∨ (k : Int) ≤ p.toInt) {Q : Int32 → Prop} (h : Q 0) : wp_X1_powerOf pow (nI k) p Q := by
  unfold wp_X1_powerOf
  refine ⟨fun _ => h, fun c => ⟨fun _ => h, fun d => ?_⟩⟩
  have c' : ¬ p.toInt < 0 := fun q => c (ilt.mpr q)
  have d' := mt (ilk (p := p) (k := k) (by omega)).mpr d
  omega
theorem t_parts : st_parts Inv_ := by
  rintro ⟨oP, oS, oT, oU, oG, oR⟩ ⟨m0, m1, m2, m3, m4, m5, m6, m7, m8, m9, m10, m11, m12, m13, m14, m15, m16, m17, m18⟩ p1 p2 hI
  obtain ⟨iP, iT, iN, iS, iQ, iR⟩ := id hI
  refine ⟨0, 0, by omega, by omega, ?_⟩
  rcases oT with _ | ⟨fa, po, nu, ma⟩
  · obtain rfl : m9 = 0 := iQ
    unfold wpx_parts
    dsimp only
    refine ⟨rfl, rfl, ?_⟩
    unfold wp_X8_parts_c0 wp_X9_parts_
    exact ⟨le00, le00, fun _ => ⟨rfl, hI⟩, fun c => absurd rfl c⟩
  · obtain ⟨hp1, _, k, hk, e1, e2, hv, _⟩ := iQ
    dsimp only at hp1 e1 e2 hv
    have hp1 : m9 = 1 := hp1
    have e2 : m11 = nI k := e2
    subst hp1 e1 e2
    unfold wpx_parts
    dsimp only
    refine ⟨rfl, rfl, ?_⟩
    unfold wp_X8_parts_c1
    rcases ix_cases p1 k (by omega) with hx | ⟨t, ht, rfl⟩
    · have no : wp_X9_parts_ 1 (nI k) m12 m13 p1 p2 (fun r2 => (0 : Int64) = r2 ∧ Inv_ (oP, oS, some (fa, po, nu, nI k), oU, oG, oR) (m0, m1, m2, m3, m4, m5, m6, m7, m8, 1, m10, nI k, m12, m13, m14, m15, m16, m17, m18)) := by
        unfold wp_X9_parts_
        exact ⟨fun c => absurd c (by decide), fun _ => s_inKN (by omega) hx ⟨fun _ => ⟨rfl, hI⟩, fun c => absurd rfl c⟩⟩
      exact ⟨fun _ => s_primeOfN hk hx ⟨le00, le00, no⟩, fun _ => s_powerOfN hk hx ⟨le00, le00, no⟩, fun _ _ => ⟨le00, le00, no⟩⟩
    · obtain ⟨p, e, _, _, _, _, q1, q2, q3, q4⟩ := hv t ht
      have q2 : m12 t = lN p := q2
      have q4 : m13 t = nI e := q4
      have yes : ∀ z : Int64, (p2 = 0 → z = lN p) → (p2 = 1 → z = (nI e).toInt64) → (¬ p2 = 0 → ¬ p2 = 1 → z = 0) → wp_X9_parts_ 1 (nI k) m12 m13 (nI t) p2 (fun r2 => z = r2 ∧ Inv_ (oP, oS, some (fa, po, nu, nI k), oU, oG, oR) (m0, m1, m2, m3, m4, m5, m6, m7, m8, 1, m10, nI k, m12, m13, m14, m15, m16, m17, m18)) := by
        intro z z0 z1 z2
        unfold wp_X9_parts_
        rw [nI_clamp (by omega), q2, q4]
        exact ⟨fun c => absurd c (by decide), fun _ => s_inK (by omega) ht ⟨fun c => absurd c (by decide), fun _ => ⟨fun y => ⟨vp_in_nI (by omega) (by omega), z0 y, hI⟩, fun y => ⟨fun x => ⟨vp_in_nI (by omega) (by omega), z1 x, hI⟩, fun x => ⟨z2 y x, hI⟩⟩⟩⟩⟩
      refine ⟨fun y => s_primeOf hk ht ⟨le00, le00, yes _ (fun _ => q1) (fun x => ?_) (fun x => absurd y x)⟩, fun y => s_powerOf hk ht ⟨le00, le00, yes _ (fun x => ?_) (fun _ => ?_) (fun _ x => absurd y x)⟩, fun y x => ⟨le00, le00, yes _ (fun z => absurd z y) (fun z => absurd z x) (fun _ _ => rfl)⟩⟩
      · rw [y] at x; exact absurd x (by decide)
      · rw [y] at x; exact absurd x (by decide)
      · have q3 : po t = nI e := q3
        rw [q3]
/-! about -/
theorem ab_ {p1 hs mn hp pm rows a0 a1 a2 : Int32} {I c1 c2 : Prop} (hI : I) (r0 : a0 = rows) (r1 : (hs = 0 ∧ a1 = 0) ∨ (hs = 1 ∧ a1 = mn)) (r2 : (hp = 0 ∧ a2 = -1) ∨ (hp = 1 ∧ a2 = pm)) (h1 : c1) (h2 : c2) : ((p1 = (0 : Int32) → (c1 ∧ c2 ∧ wp_X9_about hs mn hp pm rows p1 (fun r => a0 = r ∧ I))) ∧ (p1 = (1 : Int32) → (c1 ∧ c2 ∧ wp_X9_about hs mn hp pm rows p1 (fun r => a1 = r ∧ I))) ∧ (p1 = (2 : Int32) → (c1 ∧ c2 ∧ wp_X9_about hs mn hp pm rows p1 (fun r => a2 = r ∧ I))) ∧ (¬ p1 = (0 : Int32) → ¬ p1 = (1 : Int32) → ¬ p1 = (2 : Int32) → (c1 ∧ c2 ∧ wp_X9_about hs mn hp pm rows p1 (fun r => (-1 : Int32) = r ∧ I)))) := by
  unfold wp_X9_about
  refine ⟨fun e => ⟨h1, h2, ?_⟩, fun e => ⟨h1, h2, ?_⟩, fun e => ⟨h1, h2, ?_⟩, fun e e' e'' => ⟨h1, h2, ?_⟩⟩
  · subst e
    exact ⟨fun _ => ⟨r0, hI⟩, fun c => absurd c (by decide), fun c => absurd c (by decide), fun c => absurd rfl c⟩
  · subst e
    refine ⟨fun c => absurd c (by decide), fun _ => ⟨fun z => ?_, fun z => ?_⟩, fun c => absurd c (by decide), fun _ c => absurd rfl c⟩
    · rcases r1 with ⟨_, y⟩ | ⟨x, _⟩
      · exact ⟨y, hI⟩
      · rw [x] at z; exact absurd z (by decide)
    · rcases r1 with ⟨x, _⟩ | ⟨_, y⟩
      · exact absurd x z
      · exact ⟨y, hI⟩
  · subst e
    refine ⟨fun c => absurd c (by decide), fun c => absurd c (by decide), fun _ => ⟨fun z => ?_, fun z => ?_⟩, fun _ _ c => absurd rfl c⟩
    · rcases r2 with ⟨_, y⟩ | ⟨x, _⟩
      · exact ⟨y, hI⟩
      · rw [x] at z; exact absurd z (by decide)
    · rcases r2 with ⟨x, _⟩ | ⟨_, y⟩
      · exact absurd x z
      · exact ⟨y, hI⟩
  · exact ⟨fun c => absurd c e, fun c => absurd c e', fun c => absurd c e'', fun _ _ _ => ⟨rfl, hI⟩⟩
theorem t_about : st_about Inv_ := by
  rintro ⟨oP, oS, oT, oU, oG, oR⟩ ⟨m0, m1, m2, m3, m4, m5, m6, m7, m8, m9, m10, m11, m12, m13, m14, m15, m16, m17, m18⟩ p1 hI
  obtain ⟨iP, iT, iN, iS, iQ, iR⟩ := id hI
  refine ⟨0, 0, by omega, by omega, ?_⟩
  have rS : ∀ lv gv rv wv fr mn pc gp tw sf, oS = some (lv, gv, rv, wv, fr, mn, pc, gp, tw, sf) → (m3 = 0 ∧ mn = 0) ∨ (m3 = 1 ∧ mn = m5) := by
    intro lv gv rv wv fr mn pc gp tw sf e
    subst e
    obtain ⟨a, F, m, _, _, _, _, _, b, _, c, _⟩ := iS
    exact Or.inr ⟨a, c.trans b.symm⟩
  have rT : ∀ fa po nu ma, oT = some (fa, po, nu, ma) → (m9 = 0 ∧ ma = -1) ∨ (m9 = 1 ∧ ma = m11) := by
    intro fa po nu ma e
    subst e
    obtain ⟨a, _, k, _, b, c, _⟩ := iQ
    exact Or.inr ⟨a, b.trans c.symm⟩
  have rR : ∀ v mm, oR = some (v, mm) → mm = m14 := by
    intro v mm e
    subst e
    obtain ⟨k, _, b, c, _⟩ := iR
    exact b.trans c.symm
  unfold wpx_about
  rcases oS with _ | ⟨lv, gv, rv, wv, fr, mn, pc, gp, tw, sf⟩ <;> rcases oT with _ | ⟨fa, po, nu, ma⟩ <;> rcases oR with _ | ⟨v, mm⟩ <;> dsimp only <;> refine ⟨rfl, rfl, ?_⟩
  · exact ab_ hI (show (0 : Int32) = m14 from Eq.symm iR) (Or.inl ⟨iS, rfl⟩) (Or.inl ⟨iQ, rfl⟩) le00 le00
  · exact ab_ hI (rR _ _ rfl) (Or.inl ⟨iS, rfl⟩) (Or.inl ⟨iQ, rfl⟩) le00 le00
  · exact ab_ hI (show (0 : Int32) = m14 from Eq.symm iR) (Or.inl ⟨iS, rfl⟩) (rT _ _ _ _ rfl) le00 le00
  · exact ab_ hI (rR _ _ rfl) (Or.inl ⟨iS, rfl⟩) (rT _ _ _ _ rfl) le00 le00
  · exact ab_ hI (show (0 : Int32) = m14 from Eq.symm iR) (rS _ _ _ _ _ _ _ _ _ _ rfl) (Or.inl ⟨iQ, rfl⟩) le00 le00
  · exact ab_ hI (rR _ _ rfl) (rS _ _ _ _ _ _ _ _ _ _ rfl) (Or.inl ⟨iQ, rfl⟩) le00 le00
  · exact ab_ hI (show (0 : Int32) = m14 from Eq.symm iR) (rS _ _ _ _ _ _ _ _ _ _ rfl) (rT _ _ _ _ rfl) le00 le00
  · exact ab_ hI (rR _ _ rfl) (rS _ _ _ _ _ _ _ _ _ _ rfl) (rT _ _ _ _ rfl) le00 le00
/-! least -/
theorem t_least : st_least Inv_ := by
  rintro ⟨oP, oS, oT, oU, oG, oR⟩ ⟨m0, m1, m2, m3, m4, m5, m6, m7, m8, m9, m10, m11, m12, m13, m14, m15, m16, m17, m18⟩ p1 hI
  obtain ⟨iP, iT, iN, iS, iQ, iR⟩ := id hI
  refine ⟨0, 0, by omega, by omega, ?_⟩
  unfold wpx_least
  rcases oS with _ | ⟨lv, gv, rv, wv, fr, mn, pc, gp, tw, sf⟩
  · obtain rfl : m3 = 0 := iS
    dsimp only
    refine ⟨rfl, rfl, ?_⟩
    unfold wp_X8_least_c0 wp_X9_least
    exact ⟨le00, le00, fun _ => ⟨rfl, hI⟩, fun c => absurd rfl c⟩
  · obtain ⟨a, F, m, f1, f2, f3, f4, f5, f6, f7, f8, hl, _⟩ := iS
    have a : m3 = 1 := a
    have f6 : m5 = nI m := f6
    subst a f6 f8
    dsimp only
    refine ⟨rfl, rfl, ?_⟩
    unfold wp_X8_least_c1 wp_X6_leastOf
    rcases ix_cases p1 m f3 with hx | ⟨t, ht, rfl⟩
    · have no : wp_X9_least 1 (nI m) m6 p1 (fun r2 => (0 : Int64) = r2 ∧ Inv_ (oP, some (lv, gv, rv, wv, fr, nI m, pc, gp, tw, sf), oT, oU, oG, oR) (m0, m1, m2, 1, m4, nI m, m6, m7, m8, m9, m10, m11, m12, m13, m14, m15, m16, m17, m18)) := by
        unfold wp_X9_least
        exact ⟨fun c => absurd c (by decide), fun _ => s_inKN f3 hx ⟨fun _ => ⟨rfl, hI⟩, fun c => absurd rfl c⟩⟩
      refine ⟨fun _ => ⟨le00, le00, no⟩, fun c => ⟨fun _ => ⟨le00, le00, no⟩, fun d => ?_⟩⟩
      have c' : ¬ p1.toInt < 0 := fun q => c (ilt.mpr q)
      have d' := mt (ilk (p := p1) (k := m) f3).mpr d
      omega
    · obtain ⟨b, _, h1, h2⟩ := hl t ht
      have h2 : m6 t = lN b := h2
      refine ⟨fun c => absurd c (nI_pos (by omega)), fun _ => ⟨fun c => ?_, fun _ => ⟨vp_in_nI (by omega) (by omega), le00, le00, ?_⟩⟩⟩
      · have := (nI_leI (by omega) (by omega)).mp c
        omega
      · unfold wp_X9_least
        rw [nI_clamp (by omega), h1, h2]
        exact ⟨fun c => absurd c (by decide), fun _ => s_inK f3 ht ⟨fun c => absurd c (by decide), fun _ => ⟨vp_in_nI (by omega) (by omega), rfl, hI⟩⟩⟩

/-! parted: what is told of the parts -/
def dC_ (pw : Nat → Int32) : Nat → Int64
  | 0 => 1
  | i + 1 => dC_ pw i * ((pw i).toInt64 + 1)
def sr_ (p : Int64) : Nat → Int64
  | 0 => 1
  | k + 1 => sr_ p k * p + 1
def dS_ (pp : Nat → Int64) (pw : Nat → Int32) : Nat → Int64
  | 0 => 1
  | i + 1 => dS_ pp pw i * sr_ (pp i) (pw i).toInt.toNat
def eU_ (n : Int64) (pp : Nat → Int64) : Nat → Int64
  | 0 => n
  | i + 1 => eU_ n pp i / pp i * (pp i - 1)
def mO_ (pw : Nat → Int32) : Nat → Int64
  | 0 => 1
  | i + 1 => if pw i = 1 then -(mO_ pw i) else 0
def mI_ (pw : Nat → Int32) : Nat → Int32
  | 0 => 1
  | i + 1 => if pw i = 1 then -(mI_ pw i) else 0
def pR_ (pp : Nat → Int64) : Nat → Int64
  | 0 => 1
  | i + 1 => pR_ pp i * pp i
theorem mI_v (pw : Nat → Int32) : ∀ i, (mI_ pw i = 0 ∧ mO_ pw i = 0) ∨ (mI_ pw i = 1 ∧ mO_ pw i = 1) ∨ (mI_ pw i = -1 ∧ mO_ pw i = -1) := by
  intro i
  induction i with
  | zero => exact Or.inr (Or.inl ⟨rfl, rfl⟩)
  | succ i ih =>
    show ((if pw i = 1 then -(mI_ pw i) else 0) = 0 ∧ (if pw i = 1 then -(mO_ pw i) else 0) = 0) ∨ ((if pw i = 1 then -(mI_ pw i) else 0) = 1 ∧ (if pw i = 1 then -(mO_ pw i) else 0) = 1) ∨ ((if pw i = 1 then -(mI_ pw i) else 0) = -1 ∧ (if pw i = 1 then -(mO_ pw i) else 0) = -1)
    by_cases q : pw i = 1
    · rw [if_pos q, if_pos q]
      rcases ih with ⟨a, b⟩ | ⟨a, b⟩ | ⟨a, b⟩
      · rw [a, b]; exact Or.inl ⟨by decide, by decide⟩
      · rw [a, b]; exact Or.inr (Or.inr ⟨by decide, by decide⟩)
      · rw [a, b]; exact Or.inr (Or.inl ⟨by decide, by decide⟩)
    · rw [if_neg q, if_neg q]
      exact Or.inl ⟨rfl, rfl⟩
theorem mI_l (pw : Nat → Int32) (i : Nat) : (mI_ pw i).toInt64 = mO_ pw i := by
  rcases mI_v pw i with ⟨a, b⟩ | ⟨a, b⟩ | ⟨a, b⟩ <;> rw [a, b] <;> decide
/-- the arrays of both, in one -/
def PA_ (k : Nat) (fa : Nat → Int64) (po : Nat → Int32) (pp : Nat → Int64) (pw : Nat → Int32) : Prop := ∀ t, t < k → ∃ p e : Nat, 2 ≤ p ∧ p ≤ 10000000000 ∧ 1 ≤ e ∧ e ≤ 40 ∧ fa t = lN p ∧ pp t = lN p ∧ po t = nI e ∧ pw t = nI e
theorem s_divC {k : Nat} (hk : k ≤ 10) {fa : Nat → Int64} {po : Nat → Int32} {pp : Nat → Int64} {pw : Nat → Int32} (hA : PA_ k fa po pp pw) {Q : Int64 → Prop} (h : Q (dC_ pw k)) : wp_X1_divisorCount po (nI k) Q := by
  unfold wp_X1_divisorCount
  refine ⟨fun x s => ∃ i, i ≤ k ∧ x = nI i ∧ s = dC_ pw i, fun x _ => (700 - x.toInt).toNat, ⟨0, Nat.zero_le _, rfl, rfl⟩, ?_⟩
  rintro x s ⟨i, hi, rfl, rfl⟩
  refine ⟨fun c => ?_, fun c => ?_⟩
  · have c' := (nI_leI (by omega) (by omega)).mp c
    have : i = k := by omega
    rw [this]; exact h
  · have c' := mt (nI_leI (a := k) (b := i) (by omega) (by omega)).mpr c
    obtain ⟨p, e, a1, a2, a3, a4, a5, a6, a7, a8⟩ := hA i (by omega)
    refine ⟨vp_in_nI (by omega) (by omega), fun x1 e1 x3 e3 => ?_⟩
    rw [nI_clamp (by omega), a7, show nI e + (1 : Int32) = nI (e + 1) from nI_1 e, nI_l (by omega)] at e1
    rw [show nI i + (1 : Int32) = nI (i + 1) from nI_1 i] at e3
    subst e1 e3
    refine ⟨⟨i + 1, by omega, rfl, ?_⟩, meas1 (by omega)⟩
    show _ = dC_ pw i * ((pw i).toInt64 + 1)
    rw [a8, nI_l (by omega), lN_1]
theorem s_prodP {k : Nat} (hk : k ≤ 10) {fa : Nat → Int64} {po : Nat → Int32} {pp : Nat → Int64} {pw : Nat → Int32} (hA : PA_ k fa po pp pw) {Q : Int64 → Prop} (h : Q (pR_ pp k)) : wp_X1_primeProduct fa (nI k) Q := by
  unfold wp_X1_primeProduct
  refine ⟨fun x s => ∃ i, i ≤ k ∧ x = nI i ∧ s = pR_ pp i, fun x _ => (700 - x.toInt).toNat, ⟨0, Nat.zero_le _, rfl, rfl⟩, ?_⟩
  rintro x s ⟨i, hi, rfl, rfl⟩
  refine ⟨fun c => ?_, fun c => ?_⟩
  · have c' := (nI_leI (by omega) (by omega)).mp c
    have : i = k := by omega
    rw [this]; exact h
  · have c' := mt (nI_leI (a := k) (b := i) (by omega) (by omega)).mpr c
    obtain ⟨p, e, a1, a2, a3, a4, a5, a6, a7, a8⟩ := hA i (by omega)
    refine ⟨vp_in_nI (by omega) (by omega), fun x1 e1 x3 e3 => ?_⟩
    rw [nI_clamp (by omega), a5] at e1
    rw [show nI i + (1 : Int32) = nI (i + 1) from nI_1 i] at e3
    subst e1 e3
    refine ⟨⟨i + 1, by omega, rfl, ?_⟩, meas1 (by omega)⟩
    show _ = pR_ pp i * pp i
    rw [a6]
theorem s_moeb {k : Nat} (hk : k ≤ 10) {fa : Nat → Int64} {po : Nat → Int32} {pp : Nat → Int64} {pw : Nat → Int32} (hA : PA_ k fa po pp pw) {Q : Int32 → Prop} (h : Q (mI_ pw k)) : wp_X1_moebius po (nI k) Q := by
  unfold wp_X1_moebius
  refine ⟨fun x s => ∃ i, i ≤ k ∧ x = nI i ∧ s = mI_ pw i, fun x _ => (700 - x.toInt).toNat, ⟨0, Nat.zero_le _, rfl, rfl⟩, ?_⟩
  rintro x s ⟨i, hi, rfl, rfl⟩
  refine ⟨fun c => ?_, fun c => ?_⟩
  · have c' := (nI_leI (by omega) (by omega)).mp c
    have : i = k := by omega
    rw [this]; exact h
  · have c' := mt (nI_leI (a := k) (b := i) (by omega) (by omega)).mpr c
    obtain ⟨p, e, a1, a2, a3, a4, a5, a6, a7, a8⟩ := hA i (by omega)
    rw [nI_clamp (by omega), a7, ← a8]
    refine ⟨vp_in_nI (by omega) (by omega), fun z x1 e1 x2 e2 => ?_, fun z x2 e2 => ?_⟩
    · rw [show nI i + (1 : Int32) = nI (i + 1) from nI_1 i] at e2
      subst e1 e2
      refine ⟨⟨i + 1, by omega, rfl, ?_⟩, meas1 (by omega)⟩
      show _ = if pw i = 1 then -(mI_ pw i) else 0
      rw [if_pos z]
    · rw [show nI i + (1 : Int32) = nI (i + 1) from nI_1 i] at e2
      subst e2
      refine ⟨⟨i + 1, by omega, rfl, ?_⟩, meas1 (by omega)⟩
      show _ = if pw i = 1 then -(mI_ pw i) else 0
      rw [if_neg z]
theorem lp0 {p : Nat} (h2 : 2 ≤ p) (hp : p ≤ 10000000000) : ¬ lN p = (0 : Int64) ∧ ¬ lN p ≤ (1 : Int64) := by
  refine ⟨fun z => ?_, fun z => ?_⟩
  · have := (pk_lEQ (a := p) (b := 0) (by omega) (by omega)).mp z
    omega
  · have := (pk_lLE (a := p) (b := 1) (by omega) (by omega)).mp z
    omega
theorem s_euler {k : Nat} (hk : k ≤ 10) {fa : Nat → Int64} {po : Nat → Int32} {pp : Nat → Int64} {pw : Nat → Int32} (hA : PA_ k fa po pp pw) {nu : Int64} {Q : Int64 → Prop} (h : Q (eU_ nu pp k)) : wp_X1_euler fa nu (nI k) Q := by
  unfold wp_X1_euler
  refine ⟨fun x s => ∃ i, i ≤ k ∧ x = nI i ∧ s = eU_ nu pp i, fun x _ => (700 - x.toInt).toNat, ⟨0, Nat.zero_le _, rfl, rfl⟩, ?_⟩
  rintro x s ⟨i, hi, rfl, rfl⟩
  refine ⟨fun c => ?_, fun c => ?_⟩
  · have c' := (nI_leI (by omega) (by omega)).mp c
    have : i = k := by omega
    rw [this]; exact h
  · have c' := mt (nI_leI (a := k) (b := i) (by omega) (by omega)).mpr c
    obtain ⟨p, e, a1, a2, a3, a4, a5, a6, a7, a8⟩ := hA i (by omega)
    obtain ⟨z1, z2⟩ := lp0 a1 a2
    refine ⟨vp_in_nI (by omega) (by omega), fun x4 e4 => ?_⟩
    rw [nI_clamp (by omega), a5] at e4
    subst e4
    refine ⟨fun z => absurd z z2, fun _ => ⟨z1, fun x1 e1 x3 e3 => ?_⟩⟩
    rw [show nI i + (1 : Int32) = nI (i + 1) from nI_1 i] at e3
    subst e1 e3
    refine ⟨⟨i + 1, by omega, rfl, ?_⟩, meas1 (by omega)⟩
    show _ = eU_ nu pp i / pp i * (pp i - 1)
    rw [a6]
theorem s_divS {k : Nat} (hk : k ≤ 10) {fa : Nat → Int64} {po : Nat → Int32} {pp : Nat → Int64} {pw : Nat → Int32} (hA : PA_ k fa po pp pw) {Q : Int64 → Prop} (h : Q (dS_ pp pw k)) : wp_X1_divisorSum fa po (nI k) Q := by
  unfold wp_X1_divisorSum
  refine ⟨fun x s => ∃ i, i ≤ k ∧ x = nI i ∧ s = dS_ pp pw i, fun x _ => (700 - x.toInt).toNat, ⟨0, Nat.zero_le _, rfl, rfl⟩, ?_⟩
  rintro x s ⟨i, hi, rfl, rfl⟩
  refine ⟨fun c => ?_, fun c => ?_⟩
  · have c' := (nI_leI (by omega) (by omega)).mp c
    have : i = k := by omega
    rw [this]; exact h
  · have c' := mt (nI_leI (a := k) (b := i) (by omega) (by omega)).mpr c
    obtain ⟨p, e, a1, a2, a3, a4, a5, a6, a7, a8⟩ := hA i (by omega)
    rw [nI_clamp (n := i) (by omega), a5, a7]
    refine ⟨fun x s => ∃ j, j ≤ e ∧ x = nI j ∧ s = sr_ (lN p) j, fun x _ => (700 - x.toInt).toNat, ⟨0, Nat.zero_le _, rfl, rfl⟩, ?_⟩
    rintro x s ⟨j, hj, rfl, rfl⟩
    refine ⟨vp_in_nI (by omega) (by omega), fun d x1 e1 x3 e3 => ?_, fun d => ⟨vp_in_nI (by omega) (by omega), fun x4 e4 x6 e6 => ?_⟩⟩
    · have d' := (nI_leI (by omega) (by omega)).mp d
      have hje : j = e := by omega
      rw [show nI i + (1 : Int32) = nI (i + 1) from nI_1 i] at e3
      subst e1 e3
      refine ⟨⟨i + 1, by omega, rfl, ?_⟩, meas1 (by omega)⟩
      show _ = dS_ pp pw i * sr_ (pp i) (pw i).toInt.toNat
      rw [a6, a8, tn (by omega), hje]
      rfl
    · have d' := mt (nI_leI (a := e) (b := j) (by omega) (by omega)).mpr d
      rw [show nI j + (1 : Int32) = nI (j + 1) from nI_1 j] at e6
      subst e4 e6
      exact ⟨⟨j + 1, by omega, rfl, rfl⟩, meas1 (by omega)⟩
theorem s_parted9 {k : Nat} (hk : k ≤ 10) {fa : Nat → Int64} {po : Nat → Int32} {pp : Nat → Int64} {pw : Nat → Int32} (hA : PA_ k fa po pp pw) {pt : Int64} {p1 : Int32} {Q : Int64 → Prop} (h0 : p1 = 0 → Q pt) (h1 : p1 = 1 → Q (dC_ pw k)) (h2 : p1 = 2 → Q (dS_ pp pw k)) (h3 : p1 = 3 → Q (eU_ pt pp k)) (h4 : p1 = 4 → Q (mO_ pw k)) (h5 : p1 = 5 → Q (pR_ pp k)) (h6 : ¬ p1 = 0 → ¬ p1 = 1 → ¬ p1 = 2 → ¬ p1 = 3 → ¬ p1 = 4 → ¬ p1 = 5 → Q 0) : wp_X9_parted 1 pt (nI k) pp pw p1 Q := by
  unfold wp_X9_parted
  refine ⟨fun c => absurd c (by decide), fun _ => ?_⟩
  refine ⟨fun x a b c d e => ∃ i, i ≤ k ∧ x = nI i ∧ a = pR_ pp i ∧ b = mO_ pw i ∧ c = eU_ pt pp i ∧ d = dS_ pp pw i ∧ e = dC_ pw i, fun x _ _ _ _ _ => (700 - x.toInt).toNat, ⟨0, Nat.zero_le _, rfl, rfl, rfl, rfl, rfl, rfl⟩, ?_⟩
  rintro x a b c d e ⟨i, hi, rfl, rfl, rfl, rfl, rfl, rfl⟩
  refine ⟨fun c => ?_, fun c => ?_⟩
  · have c' := (nI_leI (by omega) (by omega)).mp c
    have : i = k := by omega
    rw [this]
    exact ⟨h0, h1, h2, h3, h4, h5, h6⟩
  · have c' := mt (nI_leI (a := k) (b := i) (by omega) (by omega)).mpr c
    obtain ⟨p, e, a1, a2, a3, a4, a5, a6, a7, a8⟩ := hA i (by omega)
    obtain ⟨z1, z2⟩ := lp0 a1 a2
    have vi : vp_in (nI i) 16 := vp_in_nI (by omega) (by omega)
    rw [nI_clamp (n := i) (by omega), a6, a8]
    refine ⟨vi, fun x13 e13 => ⟨vi, fun x2 e2 => ?_⟩⟩
    subst e13 e2
    refine ⟨fun x s => ∃ j, j ≤ e ∧ x = nI j ∧ s = sr_ (lN p) j, fun x _ => (700 - x.toInt).toNat, ⟨0, Nat.zero_le _, rfl, rfl⟩, ?_⟩
    rintro x s ⟨j, hj, rfl, rfl⟩
    refine ⟨vi, fun d x4 e4 => ⟨z1, fun x6 e6 => ⟨vi, fun y x8 e8 x10 e10 x12 e12 => ?_, fun y x10 e10 x12 e12 => ?_⟩⟩, fun d x15 e15 x17 e17 => ?_⟩
    · have d' := (nI_leI (by omega) (by omega)).mp d
      have hje : j = e := by omega
      have y' := (nI_leI (a := e) (b := 1) (by omega) (by omega)).mp y
      rw [show nI i + (1 : Int32) = nI (i + 1) from nI_1 i] at e12
      subst e4 e6 e8 e10 e12
      refine ⟨⟨i + 1, by omega, rfl, ?_, ?_, ?_, ?_, ?_⟩, meas1 (by omega)⟩
      · show _ = pR_ pp i * pp i
        rw [a6]
      · show _ = if pw i = 1 then -(mO_ pw i) else 0
        rw [a8, if_pos ((i_eq1 (by omega)).mpr (by omega))]
      · show _ = eU_ pt pp i / pp i * (pp i - 1)
        rw [a6]
      · show _ = dS_ pp pw i * sr_ (pp i) (pw i).toInt.toNat
        rw [a6, a8, tn (by omega), hje]
        rfl
      · show _ = dC_ pw i * ((pw i).toInt64 + 1)
        rw [a8]
    · have d' := (nI_leI (by omega) (by omega)).mp d
      have hje : j = e := by omega
      have y' := mt (nI_leI (a := e) (b := 1) (by omega) (by omega)).mpr y
      rw [show nI i + (1 : Int32) = nI (i + 1) from nI_1 i] at e12
      subst e4 e6 e10 e12
      refine ⟨⟨i + 1, by omega, rfl, ?_, ?_, ?_, ?_, ?_⟩, meas1 (by omega)⟩
      · show _ = pR_ pp i * pp i
        rw [a6]
      · show _ = if pw i = 1 then -(mO_ pw i) else 0
        rw [a8, if_neg (fun q => by have := (i_eq1 (k := e) (by omega)).mp q; omega)]
      · show _ = eU_ pt pp i / pp i * (pp i - 1)
        rw [a6]
      · show _ = dS_ pp pw i * sr_ (pp i) (pw i).toInt.toNat
        rw [a6, a8, tn (by omega), hje]
        rfl
      · show _ = dC_ pw i * ((pw i).toInt64 + 1)
        rw [a8]
    · have d' := mt (nI_leI (a := e) (b := j) (by omega) (by omega)).mpr d
      rw [show nI j + (1 : Int32) = nI (j + 1) from nI_1 j] at e17
      subst e15 e17
      exact ⟨⟨j + 1, by omega, rfl, rfl⟩, meas1 (by omega)⟩
theorem t_parted : st_parted Inv_ := by
  rintro ⟨oP, oS, oT, oU, oG, oR⟩ ⟨m0, m1, m2, m3, m4, m5, m6, m7, m8, m9, m10, m11, m12, m13, m14, m15, m16, m17, m18⟩ p1 hI
  obtain ⟨iP, iT, iN, iS, iQ, iR⟩ := id hI
  refine ⟨0, 0, by omega, by omega, ?_⟩
  rcases oT with _ | ⟨fa, po, nu, ma⟩
  · obtain rfl : m9 = 0 := iQ
    unfold wpx_parted
    dsimp only
    refine ⟨rfl, rfl, ?_⟩
    unfold wp_X8_parted_c0 wp_X9_parted
    exact ⟨le00, le00, fun _ => ⟨rfl, hI⟩, fun c => absurd rfl c⟩
  · obtain ⟨hp1, hpt, k, hk, e1, e2, hv, _⟩ := iQ
    have hp1 : m9 = 1 := hp1
    have hpt : nu = m10 := hpt
    have e1 : ma = nI k := e1
    have e2 : m11 = nI k := e2
    have hA : PA_ k fa po m12 m13 := hv
    subst hp1 hpt e1 e2
    unfold wpx_parted
    dsimp only
    refine ⟨rfl, rfl, ?_⟩
    unfold wp_X8_parted_c1
    have dn : ∀ {a b : Int32}, p1 = a → a ≠ b → ∀ {P : Prop}, p1 = b → P := fun e q _ e' => absurd (e.symm.trans e') q
    refine ⟨fun e => ⟨le00, le00, s_parted9 hk hA (fun _ => ⟨rfl, hI⟩) (dn e (by decide)) (dn e (by decide)) (dn e (by decide)) (dn e (by decide)) (dn e (by decide)) (fun q => absurd e q)⟩, fun e => s_divC hk hA ⟨le00, le00, s_parted9 hk hA (dn e (by decide)) (fun _ => ⟨rfl, hI⟩) (dn e (by decide)) (dn e (by decide)) (dn e (by decide)) (dn e (by decide)) (fun _ q => absurd e q)⟩, fun e => s_divS hk hA ⟨le00, le00, s_parted9 hk hA (dn e (by decide)) (dn e (by decide)) (fun _ => ⟨rfl, hI⟩) (dn e (by decide)) (dn e (by decide)) (dn e (by decide)) (fun _ _ q => absurd e q)⟩, fun e => s_euler hk hA ⟨le00, le00, s_parted9 hk hA (dn e (by decide)) (dn e (by decide)) (dn e (by decide)) (fun _ => ⟨rfl, hI⟩) (dn e (by decide)) (dn e (by decide)) (fun _ _ _ q => absurd e q)⟩, fun e => s_moeb hk hA ⟨le00, le00, s_parted9 hk hA (dn e (by decide)) (dn e (by decide)) (dn e (by decide)) (dn e (by decide)) (fun _ => ⟨mI_l _ _, hI⟩) (dn e (by decide)) (fun _ _ _ _ q => absurd e q)⟩, fun e => s_prodP hk hA ⟨le00, le00, s_parted9 hk hA (dn e (by decide)) (dn e (by decide)) (dn e (by decide)) (dn e (by decide)) (dn e (by decide)) (fun _ => ⟨rfl, hI⟩) (fun _ _ _ _ _ q => absurd e q)⟩, fun n0 n1 n2 n3 n4 n5 => ⟨le00, le00, s_parted9 hk hA (fun q => absurd q n0) (fun q => absurd q n1) (fun q => absurd q n2) (fun q => absurd q n3) (fun q => absurd q n4) (fun q => absurd q n5) (fun _ _ _ _ _ _ => ⟨rfl, hI⟩)⟩⟩
/-! without -/
def bI_ (s i : Nat) : Bool := decide ((nI s >>> (nI i &&& 31)) &&& (1 : Int32) = 1)
def sg_ (s : Nat) : Nat → Int32
  | 0 => 1
  | i + 1 => bif bI_ s i then -(sg_ s i) else sg_ s i
def bq_ (p0 : Int32) : Int32 :=
  let x1 := (p0 - ((p0.toUInt32 >>> ((1 : Int32).toUInt32 &&& Int32.toUInt32 31)).toInt32 &&& (1431655765 : Int32)))
  let x2 := ((x1 &&& (858993459 : Int32)) + ((x1.toUInt32 >>> ((2 : Int32).toUInt32 &&& Int32.toUInt32 31)).toInt32 &&& (858993459 : Int32)))
  let x3 := ((x2 + (x2.toUInt32 >>> ((4 : Int32).toUInt32 &&& Int32.toUInt32 31)).toInt32) &&& (252645135 : Int32))
  let x4 := (x3 + (x3.toUInt32 >>> ((8 : Int32).toUInt32 &&& Int32.toUInt32 31)).toInt32)
  let x5 := (x4 + (x4.toUInt32 >>> ((16 : Int32).toUInt32 &&& Int32.toUInt32 31)).toInt32)
  x5 &&& (63 : Int32)
theorem s_bq {x : Int32} {Q : Int32 → Prop} (h : Q (bq_ x)) : wp_J6_bitCount_0f7a4 x Q := by
  unfold wp_J6_bitCount_0f7a4
  intro x1 e1 x2 e2 x3 e3 x4 e4 x5 e5
  subst e1 e2 e3 e4 e5
  exact h
def ev_ (x : Int32) : Bool := decide ((x - x / (2 : Int32) * (2 : Int32)) = (0 : Int32))
theorem par_ : ∀ k, k < 11 → ∀ s, s < 2 ^ k → sg_ s k = (bif ev_ (bq_ (nI s)) then 1 else -1) := by
  intro k hk
  rcases (by omega : k = 0 ∨ k = 1 ∨ k = 2 ∨ k = 3 ∨ k = 4 ∨ k = 5 ∨ k = 6 ∨ k = 7 ∨ k = 8 ∨ k = 9 ∨ k = 10) with rfl | rfl | rfl | rfl | rfl | rfl | rfl | rfl | rfl | rfl | rfl <;> decide +kernel
theorem shk : ∀ k, k < 11 → (1 : Int32) <<< (nI k &&& 31) = nI (2 ^ k) := by decide +kernel
def dd_ (pp : Nat → Int64) (s : Nat) : Nat → Int64
  | 0 => 1
  | i + 1 => bif bI_ s i then dd_ pp s i * pp i else dd_ pp s i
theorem dd_v {k : Nat} {fa : Nat → Int64} {po : Nat → Int32} {pp : Nat → Int64} {pw : Nat → Int32} (hA : PA_ k fa po pp pw) (s : Nat) : ∀ i, i ≤ k → ∃ D, 1 ≤ D ∧ D ≤ pf_ (fun t => nz6 (fa t)) i ∧ dd_ pp s i = lN D := by
  intro i
  induction i with
  | zero => intro _; exact ⟨1, by omega, Nat.le_refl 1, rfl⟩
  | succ i ih =>
    intro hi
    obtain ⟨D, a, b, c⟩ := ih (by omega)
    obtain ⟨p, e, a1, a2, a3, a4, a5, a6, a7, a8⟩ := hA i (by omega)
    have hpf : pf_ (fun t => nz6 (fa t)) (i + 1) = pf_ (fun t => nz6 (fa t)) i * p := by
      show pf_ (fun t => nz6 (fa t)) i * nz6 (fa i) = _
      rw [a5, nz6_l (by omega)]
    rw [hpf]
    show ∃ D, 1 ≤ D ∧ D ≤ _ ∧ (bif bI_ s i then dd_ pp s i * pp i else dd_ pp s i) = lN D
    cases bI_ s i
    · refine ⟨D, a, ?_, c⟩
      have := Nat.mul_le_mul b (show 1 ≤ p by omega)
      omega
    · refine ⟨D * p, Nat.mul_pos a (by omega), Nat.mul_le_mul_right p b, ?_⟩
      show dd_ pp s i * pp i = _
      rw [c, a6, lN_mul]
def wo_ (n : Int64) (pp : Nat → Int64) (k : Nat) : Nat → Int64
  | 0 => 0
  | s + 1 => wo_ n pp k s + (bif ev_ (bq_ (nI s)) then n / dd_ pp s k else -(n / dd_ pp s k))
theorem meas2k {s : Nat} (hs : s ≤ 1024) : (2000 - (nI (s + 1)).toInt).toNat < (2000 - (nI s).toInt).toNat := by
  rw [tn (n := s + 1) (by omega), tn (n := s) (by omega)]
  omega
theorem s_strang {k : Nat} (hk : k ≤ 10) {fa : Nat → Int64} {po : Nat → Int32} {pp : Nat → Int64} {pw : Nat → Int32} (hA : PA_ k fa po pp pw) (hb : pf_ (fun t => nz6 (fa t)) k ≤ 10000000000) {n : Int64} {Q : Int64 → Prop} (h : Q (wo_ n pp k (2 ^ k))) : wp_X1_strangersUpTo fa (nI k) n Q := by
  unfold wp_X1_strangersUpTo
  intro x5 e5
  rw [shk k (by omega)] at e5
  subst e5
  have h10 : 2 ^ k ≤ 2 ^ 10 := Nat.pow_le_pow_right (by omega) hk
  have h10' : (2 : Nat) ^ 10 = 1024 := by decide
  refine ⟨fun x y => ∃ s, s ≤ 2 ^ k ∧ x = nI s ∧ y = wo_ n pp k s, fun x _ => (2000 - x.toInt).toNat, ⟨0, Nat.zero_le _, rfl, rfl⟩, ?_⟩
  rintro x y ⟨s, hs, rfl, rfl⟩
  refine ⟨fun c => ?_, fun c => ?_⟩
  · have c' := (nI_leI (by omega) (by omega)).mp c
    have : s = 2 ^ k := by omega
    rw [this]; exact h
  · have c' := mt (nI_leI (a := 2 ^ k) (b := s) (by omega) (by omega)).mpr c
    refine ⟨fun x y => ∃ i, i ≤ k ∧ x = nI i ∧ y = dd_ pp s i, fun x _ => (700 - x.toInt).toNat, ⟨0, Nat.zero_le _, rfl, rfl⟩, ?_⟩
    rintro x y ⟨i, hi, rfl, rfl⟩
    refine ⟨fun d => ?_, fun d => ?_⟩
    · have d' := (nI_leI (by omega) (by omega)).mp d
      have : i = k := by omega
      subst this
      obtain ⟨D, q1, q2, q3⟩ := dd_v hA s i (Nat.le_refl i)
      have z1 : ¬ dd_ pp s i = 0 := by
        rw [q3]
        intro z
        have := (pk_lEQ (a := D) (b := 0) (by omega) (by omega)).mp z
        omega
      have z2 : ¬ dd_ pp s i ≤ (0 : Int64) := by
        rw [q3]
        intro z
        have := (pk_lLE (a := D) (b := 0) (by omega) (by omega)).mp z
        omega
      refine ⟨fun z => absurd z z2, fun _ => ⟨z1, fun x9 e9 => s_bq ⟨fun z x3 e3 x6 e6 => ?_, fun z x3 e3 x6 e6 => ?_⟩⟩⟩
      · rw [show nI s + (1 : Int32) = nI (s + 1) from nI_1 s] at e6
        subst e9 e3 e6
        refine ⟨⟨s + 1, by omega, rfl, ?_⟩, meas2k (by omega)⟩
        show _ = wo_ n pp i s + (bif ev_ (bq_ (nI s)) then n / dd_ pp s i else -(n / dd_ pp s i))
        rw [show ev_ (bq_ (nI s)) = true from decide_eq_true z]
        rfl
      · rw [show nI s + (1 : Int32) = nI (s + 1) from nI_1 s] at e6
        subst e9 e3 e6
        refine ⟨⟨s + 1, by omega, rfl, ?_⟩, meas2k (by omega)⟩
        show _ = wo_ n pp i s + (bif ev_ (bq_ (nI s)) then n / dd_ pp s i else -(n / dd_ pp s i))
        rw [show ev_ (bq_ (nI s)) = false from decide_eq_false z]
        rfl
    · have d' := mt (nI_leI (a := k) (b := i) (by omega) (by omega)).mpr d
      obtain ⟨p, e, a1, a2, a3, a4, a5, a6, a7, a8⟩ := hA i (by omega)
      rw [nI_clamp (n := i) (by omega), a5, ← a6]
      refine ⟨fun z => ⟨vp_in_nI (by omega) (by omega), fun x7 e7 x9 e9 => ?_⟩, fun z x7 e7 x9 e9 => ?_⟩
      · rw [show nI i + (1 : Int32) = nI (i + 1) from nI_1 i] at e9
        subst e7 e9
        refine ⟨⟨i + 1, by omega, rfl, ?_⟩, meas1 (by omega)⟩
        show _ = (bif bI_ s i then dd_ pp s i * pp i else dd_ pp s i)
        rw [show bI_ s i = true from decide_eq_true z]
        rfl
      · rw [show nI i + (1 : Int32) = nI (i + 1) from nI_1 i] at e9
        rw [Int64.mul_one] at e7
        subst e7 e9
        refine ⟨⟨i + 1, by omega, rfl, ?_⟩, meas1 (by omega)⟩
        show _ = (bif bI_ s i then dd_ pp s i * pp i else dd_ pp s i)
        rw [show bI_ s i = false from decide_eq_false z]
        rfl
theorem s_without9 {k : Nat} (hk : k ≤ 10) {fa : Nat → Int64} {po : Nat → Int32} {pp : Nat → Int64} {pw : Nat → Int32} (hA : PA_ k fa po pp pw) (hb : pf_ (fun t => nz6 (fa t)) k ≤ 10000000000) {n : Int64} (hn0 : 0 ≤ n.toInt) (hn1 : n.toInt ≤ 10000000000) {Q : Int64 → Prop} (h : Q (wo_ n pp k (2 ^ k))) : wp_X9_without 1 (nI k) pp n Q := by
  unfold wp_X9_without
  refine ⟨fun c => absurd c (by decide), fun _ => s_in (fun _ _ => ⟨fun c => absurd c (by decide), fun _ => ?_⟩) (fun a => ?_)⟩
  rotate_left
  · have a' : n.toInt < 0 ∨ (10000000000 : Int) < n.toInt := a
    omega
  rw [shk k (by omega)]
  have h10 : 2 ^ k ≤ 2 ^ 10 := Nat.pow_le_pow_right (by omega) hk
  have h10' : (2 : Nat) ^ 10 = 1024 := by decide
  refine ⟨fun x y => ∃ s, s ≤ 2 ^ k ∧ x = nI s ∧ y = wo_ n pp k s, fun x _ => (2000 - x.toInt).toNat, ⟨0, Nat.zero_le _, rfl, rfl⟩, ?_⟩
  rintro x y ⟨s, hs, rfl, rfl⟩
  refine ⟨fun c => ?_, fun c => ?_⟩
  · have c' := (nI_leI (by omega) (by omega)).mp c
    have : s = 2 ^ k := by omega
    rw [this]; exact h
  · have c' := mt (nI_leI (a := 2 ^ k) (b := s) (by omega) (by omega)).mpr c
    refine ⟨fun x z y => ∃ i, i ≤ k ∧ x = nI i ∧ z = sg_ s i ∧ y = dd_ pp s i, fun x _ _ => (700 - x.toInt).toNat, ⟨0, Nat.zero_le _, rfl, rfl, rfl⟩, ?_⟩
    rintro x z y ⟨i, hi, rfl, rfl, rfl⟩
    refine ⟨fun d => ?_, fun d => ?_⟩
    · have d' := (nI_leI (by omega) (by omega)).mp d
      have : i = k := by omega
      subst this
      obtain ⟨D, q1, q2, q3⟩ := dd_v hA s i (Nat.le_refl i)
      have z1 : ¬ dd_ pp s i = 0 := by
        rw [q3]
        intro z
        have := (pk_lEQ (a := D) (b := 0) (by omega) (by omega)).mp z
        omega
      refine ⟨z1, fun x3 e3 x5 e5 => ?_⟩
      rw [show nI s + (1 : Int32) = nI (s + 1) from nI_1 s] at e5
      have hp := par_ i (by omega) s (by omega)
      subst e3 e5
      refine ⟨⟨s + 1, by omega, rfl, ?_⟩, meas2k (by omega)⟩
      show _ = wo_ n pp i s + (bif ev_ (bq_ (nI s)) then n / dd_ pp s i else -(n / dd_ pp s i))
      cases q : ev_ (bq_ (nI s))
      · rw [q] at hp
        have hp : sg_ s i = -1 := hp
        rw [hp, show ((-1 : Int32)).toInt64 = -1 from by decide, Int64.neg_mul, Int64.one_mul]
        rfl
      · rw [q] at hp
        have hp : sg_ s i = 1 := hp
        rw [hp, show ((1 : Int32)).toInt64 = 1 from by decide, Int64.one_mul]
        rfl
    · have d' := mt (nI_leI (a := k) (b := i) (by omega) (by omega)).mpr d
      rw [nI_clamp (n := i) (by omega)]
      refine ⟨fun z => ⟨vp_in_nI (by omega) (by omega), fun x6 e6 x8 e8 x9 e9 => ?_⟩, fun z x9 e9 => ?_⟩
      · rw [show nI i + (1 : Int32) = nI (i + 1) from nI_1 i] at e9
        subst e6 e8 e9
        refine ⟨⟨i + 1, by omega, rfl, ?_, ?_⟩, meas1 (by omega)⟩
        · show _ = (bif bI_ s i then -(sg_ s i) else sg_ s i)
          rw [show bI_ s i = true from decide_eq_true z]
          rfl
        · show _ = (bif bI_ s i then dd_ pp s i * pp i else dd_ pp s i)
          rw [show bI_ s i = true from decide_eq_true z]
          rfl
      · rw [show nI i + (1 : Int32) = nI (i + 1) from nI_1 i] at e9
        subst e9
        refine ⟨⟨i + 1, by omega, rfl, ?_, ?_⟩, meas1 (by omega)⟩
        · show _ = (bif bI_ s i then -(sg_ s i) else sg_ s i)
          rw [show bI_ s i = false from decide_eq_false z]
          rfl
        · show _ = (bif bI_ s i then dd_ pp s i * pp i else dd_ pp s i)
          rw [show bI_ s i = false from decide_eq_false z]
          rfl
theorem t_without : st_without Inv_ := by
  rintro ⟨oP, oS, oT, oU, oG, oR⟩ ⟨m0, m1, m2, m3, m4, m5, m6, m7, m8, m9, m10, m11, m12, m13, m14, m15, m16, m17, m18⟩ p1 hI
  obtain ⟨iP, iT, iN, iS, iQ, iR⟩ := id hI
  refine ⟨0, 0, by omega, by omega, ?_⟩
  rcases oT with _ | ⟨fa, po, nu, ma⟩
  · obtain rfl : m9 = 0 := iQ
    unfold wpx_without
    dsimp only
    refine ⟨rfl, rfl, ?_⟩
    unfold wp_X8_without_c0 wp_X9_without
    exact ⟨le00, le00, fun _ => ⟨rfl, hI⟩, fun c => absurd rfl c⟩
  · obtain ⟨hp1, hpt, k, hk, e1, e2, hv, hb⟩ := iQ
    have hp1 : m9 = 1 := hp1
    have e1 : ma = nI k := e1
    have e2 : m11 = nI k := e2
    have hA : PA_ k fa po m12 m13 := hv
    subst hp1 e1 e2
    unfold wpx_without
    dsimp only
    refine ⟨rfl, rfl, ?_⟩
    unfold wp_X8_without_c1
    have no : (p1.toInt < 0 ∨ 10000000000 < p1.toInt) → wp_X9_without 1 (nI k) m12 p1 (fun r2 => (-1 : Int64) = r2 ∧ Inv_ (oP, oS, some (fa, po, nu, nI k), oU, oG, oR) (m0, m1, m2, m3, m4, m5, m6, m7, m8, 1, m10, nI k, m12, m13, m14, m15, m16, m17, m18)) := by
      intro q
      unfold wp_X9_without
      refine ⟨fun c => absurd c (by decide), fun _ => s_in (fun a b => ?_) (fun _ => ⟨fun _ => ⟨rfl, hI⟩, fun c => absurd rfl c⟩)⟩
      have a' : (0 : Int) ≤ p1.toInt := a
      have b' : p1.toInt ≤ (10000000000 : Int) := b
      omega
    refine ⟨fun c => ⟨le00, le00, no (Or.inl (llt.mp c))⟩, fun c => ⟨fun d => ?_, fun d => ⟨le00, le00, no (Or.inr ?_)⟩⟩⟩
    · have c' : ¬ p1.toInt < 0 := fun q => c (llt.mpr q)
      have d' : p1.toInt ≤ (10000000000 : Int) := lle.mp d
      exact s_strang hk hA hb ⟨le00, le00, s_without9 hk hA hb (by omega) d' ⟨rfl, hI⟩⟩
    · have d' : ¬ p1.toInt ≤ (10000000000 : Int) := fun q => d (lle.mpr q)
      omega

/-! a number freed of its lesser primes, by the primes' numbers -/
theorem coP {p a : Nat} (hp : isP p) (h : ¬ p ∣ a) : Nat.Coprime p a := by
  rcases hp.2 (Nat.gcd p a) (Nat.gcd_dvd_left p a) with e | e
  · exact e
  · have := Nat.gcd_dvd_right p a
    rw [e] at this
    exact absurd this h
theorem eucl {p a b : Nat} (hp : isP p) (h : p ∣ a * b) : p ∣ a ∨ p ∣ b := by
  by_cases q : p ∣ a
  · exact Or.inl q
  · exact Or.inr ((coP hp q).dvd_of_dvd_mul_left h)
theorem isP_n1 {p : Nat} (hp : isP p) : ¬ p ∣ 1 := by
  intro h
  have := Nat.le_of_dvd (by omega) h
  have := hp.1
  omega
theorem isP_pow {p q : Nat} (hq : isP q) : ∀ k, q ∣ p ^ k → q ∣ p := by
  intro k
  induction k with
  | zero => intro h; exact absurd h (isP_n1 hq)
  | succ k ih =>
    intro h
    rw [Nat.pow_succ] at h
    exact (eucl hq h).elim ih id
theorem ex_mu (p : Nat) (hp : 2 ≤ p) : ∀ r, 1 ≤ r → ∃ k s, r = p ^ k * s ∧ ¬ p ∣ s := by
  intro r
  induction r using Nat.strongRecOn with
  | ind r ih =>
    intro h
    by_cases q : p ∣ r
    · obtain ⟨t, rfl⟩ := q
      have ht : 1 ≤ t := by
        rcases Nat.eq_zero_or_pos t with z | z
        · subst z; omega
        · exact z
      have hlt : t < p * t := by
        have := Nat.mul_le_mul_right t hp
        omega
      obtain ⟨k, s, a, b⟩ := ih t hlt ht
      exact ⟨k + 1, s, by rw [Nat.pow_succ, Nat.mul_comm (p ^ k) p, Nat.mul_assoc, ← a], b⟩
    · exact ⟨0, r, by rw [Nat.pow_zero, Nat.one_mul], q⟩
noncomputable def sp_ (p r : Nat) : Nat := Classical.epsilon (fun s => ∃ k, r = p ^ k * s ∧ ¬ p ∣ s)
theorem sp_is {p k r s : Nat} (hp : 0 < p) (h : r = p ^ k * s) (hs : ¬ p ∣ s) : sp_ p r = s := by
  have := Classical.epsilon_spec (p := fun s => ∃ k, r = p ^ k * s ∧ ¬ p ∣ s) ⟨s, k, h, hs⟩
  obtain ⟨k', h', hs'⟩ := this
  exact (mu_uq hp (h'.symm.trans h) hs' hs).2
noncomputable def mt_ (p r : Nat) : Nat := Classical.epsilon (fun k => ∃ s, r = p ^ k * s ∧ ¬ p ∣ s)
theorem mt_is {p k r s : Nat} (hp : 0 < p) (h : r = p ^ k * s) (hs : ¬ p ∣ s) : mt_ p r = k := by
  have := Classical.epsilon_spec (p := fun k => ∃ s, r = p ^ k * s ∧ ¬ p ∣ s) ⟨k, s, h, hs⟩
  obtain ⟨s', h', hs'⟩ := this
  exact (mu_uq hp (h'.symm.trans h) hs' hs).1
noncomputable def pr_ (i : Nat) : Nat := Classical.epsilon (fun p => isP p ∧ cntP p = i)
theorem pr_is {p i : Nat} (hp : isP p) (h : cntP p = i) : pr_ i = p := by
  have := Classical.epsilon_spec (p := fun p => isP p ∧ cntP p = i) ⟨p, hp, h⟩
  exact cntP_inj this.1 hp (this.2.trans h.symm)
noncomputable def R_ (n : Nat) : Nat → Nat
  | 0 => n
  | i + 1 => sp_ (pr_ i) (R_ n i)
theorem R_step {n i p T r : Nat} (hp : isP p) (hi : cntP p = i) (h : R_ n i = p ^ T * r) (hr : ¬ p ∣ r) : R_ n (i + 1) = r := by
  show sp_ (pr_ i) (R_ n i) = r
  rw [pr_is hp hi]
  exact sp_is (by have := hp.1; omega) h hr
theorem cnt_le {p q : Nat} (hp : isP p) (hq : isP q) : cntP p ≤ cntP q ↔ p ≤ q := by
  have h := cntP_iff hp hq
  constructor
  · intro h1
    rcases Nat.lt_or_ge q p with y | y
    · have := h.mpr y; omega
    · exact y
  · intro h1
    rcases Nat.lt_or_ge (cntP q) (cntP p) with y | y
    · have := h.mp y; omega
    · exact y
theorem R_spl {n : Nat} (hn : 1 ≤ n) : ∀ i, i ≤ NP_ → 1 ≤ R_ n i ∧ ∃ s, n = s * R_ n i ∧ (∀ q, isP q → q ∣ s → cntP q < i) ∧ (∀ q, isP q → q ∣ R_ n i → i ≤ cntP q) := by
  intro i
  induction i with
  | zero =>
    intro _
    exact ⟨hn, 1, (Nat.one_mul n).symm, fun q hq h => absurd h (isP_n1 hq), fun q _ _ => Nat.zero_le _⟩
  | succ i ih =>
    intro h
    obtain ⟨a, s, b, c, d⟩ := ih (by omega)
    obtain ⟨p, hp, _, hi⟩ := NP_ex (show i < NP_ by omega)
    obtain ⟨k, t, e, f⟩ := ex_mu p hp.1 (R_ n i) a
    rw [R_step hp hi e f]
    refine ⟨?_, s * p ^ k, ?_, fun q hq hd => ?_, fun q hq hd => ?_⟩
    · rcases Nat.eq_zero_or_pos t with z | z
      · rw [z, Nat.mul_zero] at e; omega
      · exact z
    · rw [Nat.mul_assoc, ← e]; exact b
    · rcases eucl hq hd with y | y
      · have := c q hq y; omega
      · have := isP_dvd hq hp (isP_pow hq k y)
        rw [this]; omega
    · have h1 := d q hq (by rw [e]; exact Nat.dvd_trans hd ⟨p ^ k, Nat.mul_comm _ _⟩)
      have h2 : cntP q ≠ i := by
        intro y
        have := cntP_inj hq hp (y.trans hi.symm)
        rw [this] at hd
        exact f hd
      omega
theorem R_le {n i : Nat} (hn : 1 ≤ n) (hi : i ≤ NP_) : R_ n i ≤ n := by
  obtain ⟨a, s, b, _⟩ := R_spl hn i hi
  have hs : 1 ≤ s := by
    rcases Nat.eq_zero_or_pos s with z | z
    · rw [z, Nat.zero_mul] at b; omega
    · exact z
  have := Nat.mul_le_mul_right (R_ n i) hs
  omega
theorem R_dvd {n i p : Nat} (hn : 1 ≤ n) (hi : i ≤ NP_) (hp : isP p) (h : i ≤ cntP p) : p ∣ R_ n i ↔ p ∣ n := by
  obtain ⟨a, s, b, c, d⟩ := R_spl hn i hi
  constructor
  · intro q
    rw [b]; exact Nat.dvd_trans q ⟨s, Nat.mul_comm _ _⟩
  · intro q
    rw [b] at q
    rcases eucl hp q with y | y
    · have := c p hp y; omega
    · exact y
theorem R_sq {n i p : Nat} (hn : 1 ≤ n) (hi : i ≤ NP_) (hp : isP p) (h : i ≤ cntP p) : p * p ∣ R_ n i ↔ p * p ∣ n := by
  obtain ⟨a, s, b, c, d⟩ := R_spl hn i hi
  constructor
  · intro q
    rw [b]; exact Nat.dvd_trans q ⟨s, Nat.mul_comm _ _⟩
  · intro q
    rw [b] at q
    have hs : ¬ p ∣ s := fun y => by have := c p hp y; omega
    exact (Nat.Coprime.mul_left (coP hp hs) (coP hp hs)).dvd_of_dvd_mul_left q
/-- a turn of the loop: how often p divides -/
theorem T_0 {n i p T r : Nat} (hn : 1 ≤ n) (hi : i < NP_) (hp : isP p) (hpi : cntP p = i) (h : R_ n i = p ^ T * r) (hr : ¬ p ∣ r) : T = 0 ↔ ¬ p ∣ n := by
  rw [← R_dvd hn (Nat.le_of_lt hi) hp (by omega), h]
  constructor
  · intro e; rw [e, Nat.pow_zero, Nat.one_mul]; exact hr
  · intro e
    rcases Nat.eq_zero_or_pos T with z | z
    · exact z
    · obtain ⟨t, rfl⟩ : ∃ t, T = t + 1 := ⟨T - 1, by omega⟩
      exact absurd ⟨p ^ t * r, by rw [Nat.pow_succ, Nat.mul_comm (p ^ t) p, Nat.mul_assoc]⟩ e
theorem T_2 {n i p T r : Nat} (hn : 1 ≤ n) (hi : i < NP_) (hp : isP p) (hpi : cntP p = i) (h : R_ n i = p ^ T * r) (hr : ¬ p ∣ r) : 2 ≤ T ↔ p * p ∣ n := by
  have hp0 : 0 < p := by have := hp.1; omega
  rw [← R_sq hn (Nat.le_of_lt hi) hp (by omega), h]
  constructor
  · intro e
    obtain ⟨t, rfl⟩ : ∃ t, T = t + 2 := ⟨T - 2, by omega⟩
    exact ⟨p ^ t * r, by rw [Nat.pow_succ, Nat.pow_succ, Nat.mul_assoc (p ^ t) p p, Nat.mul_comm (p ^ t) (p * p), Nat.mul_assoc]⟩
  · intro e
    rcases Nat.lt_or_ge T 2 with z | z
    · exfalso
      rcases (by omega : T = 0 ∨ T = 1) with y | y
      · rw [y, Nat.pow_zero, Nat.one_mul] at e
        exact hr (Nat.dvd_trans ⟨p, rfl⟩ e)
      · rw [y, Nat.pow_one] at e
        exact hr (Nat.dvd_of_mul_dvd_mul_left hp0 e)
    · exact z
/-! least, greatest, squared: as far as the primes below number i have been looked at -/
def Li_ (z n i l : Nat) : Prop := (l = z ∧ ∀ q, isP q → q ∣ n → i ≤ cntP q) ∨ (isP l ∧ l ∣ n ∧ cntP l < i ∧ ∀ q, isP q → q ∣ n → l ≤ q)
def Gi_ (z n i g : Nat) : Prop := (g = z ∧ ∀ q, isP q → q ∣ n → i ≤ cntP q) ∨ (isP g ∧ g ∣ n ∧ cntP g < i ∧ ∀ q, isP q → q ∣ n → cntP q < i → q ≤ g)
def Si_ (n i : Nat) : Prop := ∃ q, isP q ∧ cntP q < i ∧ q * q ∣ n
def LP_ (n a : Nat) : Prop := (n = 1 ∧ a = 1) ∨ (isP a ∧ a ∣ n ∧ ∀ q, isP q → q ∣ n → a ≤ q)
def GP_ (n a : Nat) : Prop := (n = 1 ∧ a = 1) ∨ (isP a ∧ a ∣ n ∧ ∀ q, isP q → q ∣ n → q ≤ a)
def SQ_ (n : Nat) : Prop := ∃ q, isP q ∧ q * q ∣ n
theorem isP_z {z : Nat} (hz : z ≤ 1) : ¬ isP z := fun h => by have := h.1; omega
theorem cnt_ne {p q i : Nat} (hp : isP p) (hq : isP q) (hpi : cntP p = i) (h : q ≠ p) : cntP q ≠ i := fun e => h (cntP_inj hq hp (e.trans hpi.symm))
theorem L_0 (z n : Nat) : Li_ z n 0 z := Or.inl ⟨rfl, fun _ _ _ => Nat.zero_le _⟩
theorem G_0 (z n : Nat) : Gi_ z n 0 z := Or.inl ⟨rfl, fun _ _ _ => Nat.zero_le _⟩
theorem S_0 (n : Nat) : ¬ Si_ n 0 := fun ⟨_, _, h, _⟩ => absurd h (Nat.not_lt_zero _)
theorem L_no {z n i l p : Nat} (hp : isP p) (hpi : cntP p = i) (hd : ¬ p ∣ n) (h : Li_ z n i l) : Li_ z n (i + 1) l := by
  rcases h with ⟨a, b⟩ | ⟨a, b, c, d⟩
  · refine Or.inl ⟨a, fun q hq hqd => ?_⟩
    have h1 := b q hq hqd
    have h2 := cnt_ne hp hq hpi (fun e => hd (e ▸ hqd))
    omega
  · exact Or.inr ⟨a, b, by omega, d⟩
theorem L_set {z n i l p : Nat} (hz : z ≤ 1) (hp : isP p) (hpi : cntP p = i) (hd : p ∣ n) (hl : l = z) (h : Li_ z n i l) : Li_ z n (i + 1) p := by
  rcases h with ⟨a, b⟩ | ⟨a, b, c, d⟩
  · refine Or.inr ⟨hp, hd, by omega, fun q hq hqd => (cnt_le hp hq).mp ?_⟩
    have := b q hq hqd
    omega
  · rw [hl] at a; exact absurd a (isP_z hz)
theorem L_keep {z n i l : Nat} (hl : l ≠ z) (h : Li_ z n i l) : Li_ z n (i + 1) l := by
  rcases h with ⟨a, b⟩ | ⟨a, b, c, d⟩
  · exact absurd a hl
  · exact Or.inr ⟨a, b, by omega, d⟩
theorem G_no {z n i g p : Nat} (hp : isP p) (hpi : cntP p = i) (hd : ¬ p ∣ n) (h : Gi_ z n i g) : Gi_ z n (i + 1) g := by
  rcases h with ⟨a, b⟩ | ⟨a, b, c, d⟩
  · refine Or.inl ⟨a, fun q hq hqd => ?_⟩
    have h1 := b q hq hqd
    have h2 := cnt_ne hp hq hpi (fun e => hd (e ▸ hqd))
    omega
  · refine Or.inr ⟨a, b, by omega, fun q hq hqd hc => d q hq hqd ?_⟩
    have h2 := cnt_ne hp hq hpi (fun e => hd (e ▸ hqd))
    omega
theorem G_set {z n i p : Nat} (hp : isP p) (hpi : cntP p = i) (hd : p ∣ n) : Gi_ z n (i + 1) p :=
  Or.inr ⟨hp, hd, by omega, fun q hq _ hc => (cnt_le hq hp).mp (by omega)⟩
theorem S_s {n i p : Nat} (hp : isP p) (hpi : cntP p = i) : Si_ n (i + 1) ↔ Si_ n i ∨ p * p ∣ n := by
  constructor
  · rintro ⟨q, a, b, c⟩
    by_cases e : q = p
    · subst e; exact Or.inr c
    · have := cnt_ne hp a hpi e
      exact Or.inl ⟨q, a, by omega, c⟩
  · rintro (⟨q, a, b, c⟩ | c)
    · exact ⟨q, a, by omega, c⟩
    · exact ⟨p, hp, by omega, c⟩
/-- where the loop over the primes may stop -/
def Sp_ (n i : Nat) : Prop := i = NP_ ∨ ∃ p, isP p ∧ p ≤ 100000 ∧ cntP p = i ∧ R_ n i < p * p
theorem Sp_R {n i : Nat} (hn : 1 ≤ n) (hn2 : n ≤ 10000000000) (hi : i ≤ NP_) (h : Sp_ n i) : R_ n i = 1 ∨ isP (R_ n i) := by
  obtain ⟨a, s, b, c, d⟩ := R_spl hn i hi
  have hR := R_le hn hi
  by_cases q : R_ n i = 1
  · exact Or.inl q
  · refine Or.inr (pr_end (by omega) (fun t ht htt htd => ?_))
    have h1 := d t ht htd
    rcases h with e | ⟨p, hp, hp1, hpi, hlt⟩
    · have := NP_lt ht (sq_small hn2 (Nat.le_trans htt hR))
      omega
    · have h2 := sq_lt2 htt hlt
      have := cntP_lt ht h2
      omega
theorem s_one {s : Nat} (h1 : 1 ≤ s) (h : ∀ q, isP q → ¬ q ∣ s) : s = 1 := by
  rcases Nat.lt_or_ge s 2 with y | y
  · omega
  · obtain ⟨p, a, b⟩ := ex_pf s y
    exact absurd b (h p a)
theorem n_R {n i : Nat} (hn : 1 ≤ n) (hi : i ≤ NP_) (h : ∀ q, isP q → q ∣ n → i ≤ cntP q) : R_ n i = n := by
  obtain ⟨a, s, b, c, d⟩ := R_spl hn i hi
  have hs : 1 ≤ s := by
    rcases Nat.eq_zero_or_pos s with z | z
    · rw [z, Nat.zero_mul] at b; omega
    · exact z
  have : s = 1 := s_one hs (fun q hq hd => by
    have h1 := c q hq hd
    have h2 := h q hq (by rw [b]; exact Nat.dvd_trans hd ⟨_, rfl⟩)
    omega)
  rw [this, Nat.one_mul] at b
  exact b.symm
theorem L_end1 {z n i l : Nat} (hz : z ≤ 1) (hn : 1 ≤ n) (hi : i ≤ NP_) (hR : R_ n i = 1 ∨ isP (R_ n i)) (hl : l = z) (h : Li_ z n i l) : LP_ n (R_ n i) := by
  rcases h with ⟨a, b⟩ | ⟨a, b, c, d⟩
  · have e := n_R hn hi b
    rw [e] at hR ⊢
    rcases hR with y | y
    · exact Or.inl ⟨y, y⟩
    · exact Or.inr ⟨y, Nat.dvd_refl n, fun q hq hqd => Nat.le_of_eq (isP_dvd hq y hqd).symm⟩
  · rw [hl] at a; exact absurd a (isP_z hz)
theorem L_end2 {z n i l : Nat} (hl : l ≠ z) (h : Li_ z n i l) : LP_ n l := by
  rcases h with ⟨a, b⟩ | ⟨a, b, c, d⟩
  · exact absurd a hl
  · exact Or.inr ⟨a, b, d⟩
theorem G_end1 {n i : Nat} (hn : 1 ≤ n) (hi : i ≤ NP_) (hR : isP (R_ n i)) : GP_ n (R_ n i) := by
  obtain ⟨a, s, b, c, d⟩ := R_spl hn i hi
  refine Or.inr ⟨hR, by rw [b]; exact ⟨s, by rw [← b]; rw [Nat.mul_comm]; exact b⟩, fun q hq hqd => ?_⟩
  rw [b] at hqd
  have hc := d _ hR (Nat.dvd_refl _)
  rcases eucl hq hqd with y | y
  · have := c q hq y
    exact (cnt_le hq hR).mp (by omega)
  · exact Nat.le_of_eq (isP_dvd hq hR y)
theorem all_lt {n i : Nat} (hn : 1 ≤ n) (hi : i ≤ NP_) (hR : R_ n i = 1) : ∀ q, isP q → q ∣ n → cntP q < i := by
  obtain ⟨a, s, b, c, d⟩ := R_spl hn i hi
  intro q hq hqd
  rw [hR, Nat.mul_one] at b
  rw [b] at hqd
  exact c q hq hqd
theorem G_end2 {z n i g : Nat} (hn : 1 ≤ n) (hi : i ≤ NP_) (hR : R_ n i = 1) (hg : g ≠ z) (h : Gi_ z n i g) : GP_ n g := by
  rcases h with ⟨a, b⟩ | ⟨a, b, c, d⟩
  · exact absurd a hg
  · exact Or.inr ⟨a, b, fun q hq hqd => d q hq hqd (all_lt hn hi hR q hq hqd)⟩
theorem G_end3 {z n i g : Nat} (hz : z ≤ 1) (hn : 1 ≤ n) (hi : i ≤ NP_) (hR : R_ n i = 1) (hg : g = z) (h : Gi_ z n i g) : n = 1 := by
  rcases h with ⟨a, b⟩ | ⟨a, b, c, d⟩
  · have := n_R hn hi b
    omega
  · rw [hg] at a; exact absurd a (isP_z hz)
theorem S_end {n i : Nat} (hn : 1 ≤ n) (hi : i ≤ NP_) (hR : R_ n i = 1 ∨ isP (R_ n i)) : Si_ n i ↔ SQ_ n := by
  constructor
  · rintro ⟨q, a, _, b⟩
    exact ⟨q, a, b⟩
  · rintro ⟨q, a, b⟩
    refine ⟨q, a, ?_, b⟩
    rcases Nat.lt_or_ge (cntP q) i with y | y
    · exact y
    · exfalso
      have h1 := (R_sq hn hi a y).mpr b
      rcases hR with e | e
      · rw [e] at h1
        exact isP_n1 a (Nat.dvd_trans ⟨q, rfl⟩ h1)
      · have e2 := isP_dvd a e (Nat.dvd_trans ⟨q, rfl⟩ h1)
        rw [← e2] at h1
        have := Nat.le_of_dvd (by have := a.1; omega) h1
        have h3 := Nat.mul_le_mul_left q a.1
        have := a.1
        omega
theorem LP_uq {n a b : Nat} (h : LP_ n a) (g : LP_ n b) : a = b := by
  rcases h with ⟨x, y⟩ | ⟨x, y, z⟩ <;> rcases g with ⟨x', y'⟩ | ⟨x', y', z'⟩
  · omega
  · rw [x] at y'; exact absurd y' (isP_n1 x')
  · rw [x'] at y; exact absurd y (isP_n1 x)
  · have := z b x' y'
    have := z' a x y
    omega
theorem GP_uq {n a b : Nat} (h : GP_ n a) (g : GP_ n b) : a = b := by
  rcases h with ⟨x, y⟩ | ⟨x, y, z⟩ <;> rcases g with ⟨x', y'⟩ | ⟨x', y', z'⟩
  · omega
  · rw [x] at y'; exact absurd y' (isP_n1 x')
  · rw [x'] at y; exact absurd y (isP_n1 x)
  · have := z b x' y'
    have := z' a x y
    omega
/-! the parts: how many there are below number i, and their bound -/
noncomputable def Mi_ (n : Nat) (i : Nat) : Nat := cntQ (fun j => ∃ p, isP p ∧ cntP p = j ∧ p ∣ n) i
theorem M_1 {n i p : Nat} (hp : isP p) (hpi : cntP p = i) (hd : p ∣ n) : Mi_ n (i + 1) = Mi_ n i + 1 := by
  show cntQ _ i + b01 _ = _
  rw [b01_1 ⟨p, hp, hpi, hd⟩]
  rfl
theorem M_n {n i p : Nat} (hp : isP p) (hpi : cntP p = i) (hd : ¬ p ∣ n) : Mi_ n (i + 1) = Mi_ n i := by
  show cntQ _ i + b01 _ = _
  rw [b01_0]
  · rfl
  · rintro ⟨q, a, b, c⟩
    have := cntP_inj a hp (b.trans hpi.symm)
    rw [this] at c
    exact hd c
theorem M_mono {n i j : Nat} (h : i ≤ j) : Mi_ n i ≤ Mi_ n j := by
  induction j with
  | zero =>
    have : i = 0 := by omega
    rw [this]; exact Nat.le_refl _
  | succ j ih =>
    by_cases e : i = j + 1
    · rw [e]; exact Nat.le_refl _
    · have := ih (by omega)
      have e2 : Mi_ n (j + 1) = Mi_ n j + b01 (∃ p, isP p ∧ cntP p = j ∧ p ∣ n) := rfl
      omega
theorem M_lt {n i p : Nat} (hp : isP p) (hpi : cntP p < i) (hd : p ∣ n) : Mi_ n (cntP p) < Mi_ n i := by
  have h1 := M_1 hp rfl hd
  have h2 := M_mono (n := n) (show cntP p + 1 ≤ i from hpi)
  omega
theorem M_ex {n : Nat} : ∀ i, i ≤ NP_ → ∀ t, t < Mi_ n i → ∃ p, isP p ∧ cntP p < i ∧ p ∣ n ∧ Mi_ n (cntP p) = t := by
  intro i
  induction i with
  | zero => intro _ t h; exact absurd h (Nat.not_lt_zero t)
  | succ i ih =>
    intro hi t h
    obtain ⟨p, hp, _, hpi⟩ := NP_ex (show i < NP_ by omega)
    by_cases hd : p ∣ n
    · rw [M_1 hp hpi hd] at h
      rcases Nat.lt_or_ge t (Mi_ n i) with y | y
      · obtain ⟨q, a, b, c, d⟩ := ih (by omega) t y
        exact ⟨q, a, by omega, c, d⟩
      · exact ⟨p, hp, by omega, hd, by rw [hpi]; omega⟩
    · rw [M_n hp hpi hd] at h
      obtain ⟨q, a, b, c, d⟩ := ih (by omega) t h
      exact ⟨q, a, by omega, c, d⟩
def lb_ : Nat → Nat
  | 0 => 1
  | 1 => 2
  | k + 2 => lb_ (k + 1) * (2 * k + 3)
noncomputable def PP_ (n : Nat) : Nat → Nat
  | 0 => 1
  | i + 1 => PP_ n i * @ite Nat (pr_ i ∣ n) (Classical.propDecidable _) (pr_ i) 1
theorem PP_1 {n i p : Nat} (hp : isP p) (hpi : cntP p = i) (hd : p ∣ n) : PP_ n (i + 1) = PP_ n i * p := by
  show PP_ n i * @ite Nat (pr_ i ∣ n) (Classical.propDecidable _) (pr_ i) 1 = _
  rw [pr_is hp hpi, if_pos hd]
theorem PP_n {n i p : Nat} (hp : isP p) (hpi : cntP p = i) (hd : ¬ p ∣ n) : PP_ n (i + 1) = PP_ n i := by
  show PP_ n i * @ite Nat (pr_ i ∣ n) (Classical.propDecidable _) (pr_ i) 1 = _
  rw [pr_is hp hpi, if_neg hd, Nat.mul_one]
theorem PP_b {n : Nat} (hn : 1 ≤ n) : ∀ i, i ≤ NP_ → lb_ (Mi_ n i) ≤ PP_ n i ∧ PP_ n i * R_ n i ≤ n ∧ ∀ q, isP q → i ≤ cntP q → (Mi_ n i = 0 ∨ 2 * Mi_ n i + 1 ≤ q) := by
  intro i
  induction i with
  | zero =>
    intro _
    exact ⟨Nat.le_refl 1, by show 1 * n ≤ n; omega, fun q _ _ => Or.inl rfl⟩
  | succ i ih =>
    intro hi
    obtain ⟨a, b, c⟩ := ih (by omega)
    obtain ⟨p, hp, _, hpi⟩ := NP_ex (show i < NP_ by omega)
    obtain ⟨k, t, e, f⟩ := ex_mu p hp.1 (R_ n i) (R_spl hn i (by omega)).1
    have hR := R_step hp hpi e f
    by_cases hd : p ∣ n
    · rw [M_1 hp hpi hd, PP_1 hp hpi hd, hR]
      have hcp := c p hp (by omega)
      have hk : 1 ≤ k := by
        have := mt (T_0 hn (show i < NP_ by omega) hp hpi e f).mp (fun y => y hd)
        omega
      refine ⟨?_, ?_, fun q hq hqi => Or.inr ?_⟩
      · rcases Nat.eq_zero_or_pos (Mi_ n i) with z | z
        · rw [z] at a ⊢
          have h1 : 1 ≤ PP_ n i := a
          show 2 ≤ PP_ n i * p
          have := Nat.mul_le_mul h1 hp.1
          omega
        · obtain ⟨m, hm⟩ : ∃ m, Mi_ n i = m + 1 := ⟨Mi_ n i - 1, by omega⟩
          rw [hm] at a hcp ⊢
          show lb_ (m + 1) * (2 * m + 3) ≤ PP_ n i * p
          exact Nat.mul_le_mul a (by omega)
      · have h1 : p * t ≤ R_ n i := by
          rw [e]
          obtain ⟨j, rfl⟩ : ∃ j, k = j + 1 := ⟨k - 1, by omega⟩
          rw [Nat.pow_succ, Nat.mul_assoc]
          have : 1 ≤ p ^ j := Nat.pow_pos (by have := hp.1; omega)
          have := Nat.mul_le_mul_right (p * t) this
          omega
        have h2 := Nat.mul_le_mul_left (PP_ n i) h1
        rw [Nat.mul_assoc]
        omega
      · have hlt : p < q := (cntP_iff hq hp).mp (by omega)
        have hq2 : q % 2 = 1 := isP_odd hq (by have := hp.1; omega)
        rcases hcp with z | z
        · have := hp.1
          omega
        · rcases Nat.eq_zero_or_pos (Mi_ n i) with y | y
          · have := hp.1
            omega
          · have : p % 2 = 1 := isP_odd hp (by omega)
            omega
    · rw [M_n hp hpi hd, PP_n hp hpi hd, hR]
      have hk : k = 0 := (T_0 hn (show i < NP_ by omega) hp hpi e f).mpr hd
      rw [hk, Nat.pow_zero, Nat.one_mul] at e
      rw [← e]
      exact ⟨a, b, fun q hq hqi => c q hq (by omega)⟩
theorem lb_mono : ∀ k, 1 ≤ lb_ k ∧ lb_ k ≤ lb_ (k + 1) := by
  intro k
  induction k with
  | zero => decide
  | succ k ih =>
    refine ⟨Nat.le_trans ih.1 ih.2, ?_⟩
    show lb_ (k + 1) ≤ lb_ (k + 1) * (2 * k + 3)
    have := Nat.mul_le_mul_left (lb_ (k + 1)) (show 1 ≤ 2 * k + 3 by omega)
    omega
theorem lb_11 {k : Nat} (h : lb_ k ≤ 10000000000) : k ≤ 10 := by
  rcases Nat.lt_or_ge 10 k with y | y
  · exfalso
    have : ∀ j, lb_ 11 ≤ lb_ (11 + j) := by
      intro j
      induction j with
      | zero => exact Nat.le_refl _
      | succ j ih => exact Nat.le_trans ih (lb_mono (11 + j)).2
    have h2 := this (k - 11)
    rw [show 11 + (k - 11) = k from by omega, show lb_ 11 = 27498621150 from by decide] at h2
    omega
  · exact y
theorem M_le {n i : Nat} (hn : 1 ≤ n) (hn2 : n ≤ 10000000000) (hi : i ≤ NP_) : Mi_ n i ≤ 10 := by
  obtain ⟨a, b, c⟩ := PP_b hn i hi
  have hR := (R_spl hn i hi).1
  apply lb_11
  have := Nat.mul_le_mul_left (PP_ n i) hR
  omega
theorem M_le9 {n i q : Nat} (hn : 1 ≤ n) (hn2 : n ≤ 10000000000) (hi : i ≤ NP_) (hq : isP q) (hd : q ∣ R_ n i) : Mi_ n i ≤ 9 := by
  obtain ⟨a, b, c⟩ := PP_b hn i hi
  obtain ⟨hR, s, h1, h2, h3⟩ := R_spl hn i hi
  have hqi := h3 q hq hd
  have hqR := Nat.le_of_dvd (by omega) hd
  have h10 := M_le hn hn2 hi
  rcases Nat.lt_or_ge 9 (Mi_ n i) with y | y
  · exfalso
    have e : Mi_ n i = 10 := by omega
    rw [e] at a c
    rw [show lb_ 10 = 1309458150 from by decide] at a
    have h4 := c q hq hqi
    have h5 := Nat.mul_le_mul a (show 21 ≤ R_ n i by omega)
    omega
  · exact y

/-! parts: what both tell -/
def Ar_ (n i : Nat) (fac : Nat → Int64) (pow : Nat → Int32) : Prop := ∀ p, isP p → cntP p < i → p ∣ n → fac (Mi_ n (cntP p)) = lN p ∧ pow (Mi_ n (cntP p)) = nI (mt_ p (R_ n (cntP p)))
theorem Ar_0 (n : Nat) (fac : Nat → Int64) (pow : Nat → Int32) : Ar_ n 0 fac pow := fun _ _ h => absurd h (Nat.not_lt_zero _)
theorem Ar_no {n i p : Nat} {fac : Nat → Int64} {pow : Nat → Int32} (hp : isP p) (hpi : cntP p = i) (hd : ¬ p ∣ n) (h : Ar_ n i fac pow) : Ar_ n (i + 1) fac pow := by
  intro q hq hc hqd
  have := cnt_ne hp hq hpi (fun e => hd (e ▸ hqd))
  exact h q hq (by omega) hqd
theorem Ar_set {n i p T r : Nat} {fac : Nat → Int64} {pow : Nat → Int32} (hp : isP p) (hpi : cntP p = i) (hT : R_ n i = p ^ T * r) (hr : ¬ p ∣ r) (h : Ar_ n i fac pow) : Ar_ n (i + 1) (vp_updL fac (Mi_ n i) (lN p)) (upd pow (Mi_ n i) (nI T)) := by
  intro q hq hc hqd
  by_cases e : q = p
  · subst e
    rw [hpi, upL_same, up_s, mt_is (by have := hp.1; omega) hT hr]
    exact ⟨rfl, rfl⟩
  · have h1 := cnt_ne hp hq hpi e
    have h2 := M_lt hq (show cntP q < i by omega) hqd
    rw [upL_ne (by omega), up_n (by omega)]
    exact h q hq (by omega) hqd
theorem Ar_end {n i : Nat} {fac : Nat → Int64} {pow : Nat → Int32} {x : Int64} {y : Int32} (h : Ar_ n i fac pow) : Ar_ n i (vp_updL fac (Mi_ n i) x) (upd pow (Mi_ n i) y) := by
  intro q hq hc hqd
  have h2 := M_lt hq hc hqd
  rw [upL_ne (by omega), up_n (by omega)]
  exact h q hq hc hqd
def FIN_ (n : Nat) (many : Int32) (fac : Nat → Int64) (pow : Nat → Int32) : Prop := ∃ i, i ≤ NP_ ∧ Sp_ n i ∧ (∀ j, j < i → ¬ Sp_ n j) ∧ Ar_ n i fac pow ∧ ((R_ n i = 1 ∧ many = nI (Mi_ n i)) ∨ (1 < R_ n i ∧ many = nI (Mi_ n i + 1) ∧ fac (Mi_ n i) = lN (R_ n i) ∧ pow (Mi_ n i) = 1))
theorem pow34 {p T r n : Nat} (hp : 2 ≤ p) (h : n = p ^ T * r) (hr : 1 ≤ r) (hn : n ≤ 10000000000) : T ≤ 33 := by
  rcases Nat.lt_or_ge 33 T with y | y
  · exfalso
    have h1 : 2 ^ 34 ≤ 2 ^ T := Nat.pow_le_pow_right (by omega) y
    have h2 : 2 ^ T ≤ p ^ T := Nat.pow_le_pow_left hp T
    have h3 := Nat.mul_le_mul_left (p ^ T) hr
    have : (2 : Nat) ^ 34 = 17179869184 := by decide
    omega
  · exact y
theorem Sp_no {n i p : Nat} (hp : isP p) (hpi : cntP p = i) (hi : i < NP_) (h : p * p ≤ R_ n i) : ¬ Sp_ n i := by
  rintro (e | ⟨q, a, b, c, d⟩)
  · omega
  · have := cntP_inj a hp (c.trans hpi.symm)
    subst this
    omega
theorem Li_b {n i l : Nat} (hn : 1 ≤ n) (hn2 : n ≤ 10000000000) (h : Li_ 1 n i l) : l ≤ 10000000000 := by
  rcases h with ⟨a, _⟩ | ⟨_, b, _⟩
  · omega
  · have := Nat.le_of_dvd (by omega) b
    omega
theorem LP_fin1 {n i l : Nat} (hn : 1 ≤ n) (hi : i ≤ NP_) (h : Li_ 1 n i l) (hR : R_ n i = 1) : LP_ n l := by
  by_cases e : l = 1
  · have := L_end1 (by omega) hn hi (Or.inl hR) e h
    rw [hR] at this
    rw [e]; exact this
  · exact L_end2 e h
theorem GP_fin1 {n i g : Nat} (hn : 1 ≤ n) (hi : i ≤ NP_) (h : Gi_ 1 n i g) (hR : R_ n i = 1) : GP_ n g := by
  by_cases e : g = 1
  · exact Or.inl ⟨G_end3 (by omega) hn hi hR e h, e⟩
  · exact G_end2 hn hi hR e h
def PJ_ (n : Nat) (w : Int32) (pp0 : Nat → Int64) (pw0 : Nat → Int32) (l7 l6 : Int32) (l4 fl fg : Int64) (fs : Int32) (pp : Nat → Int64) (pw : Nat → Int32) : Prop := ∃ i, i ≤ NP_ ∧ (∀ j, j < i → ¬ Sp_ n j) ∧ l7 = nI i ∧ l6 = nI (Mi_ n i) ∧ l4 = lN (R_ n i) ∧ (∃ l, Li_ 1 n i l ∧ fl = lN l) ∧ (∃ g, Gi_ 1 n i g ∧ fg = lN g) ∧ ((fs = 1 ∧ Si_ n i) ∨ (fs = 0 ∧ ¬ Si_ n i)) ∧ ((w = 0 ∧ pp = pp0 ∧ pw = pw0) ∨ (¬ w = 0 ∧ Ar_ n i pp pw))
theorem s_parts9 {f : Nat → Int32} {m : Int32} (ht : tab_ f m) {n : Nat} (h1 : 1 ≤ n) (hn : n ≤ 10000000000) {pm : Int32} {pp : Nat → Int64} {pw : Nat → Int32} {fl fg : Int64} {fs w : Int32} {Q : Int32 → Int64 → Int64 → Int32 → (Nat → Int64) → (Nat → Int32) → Prop} (h0 : w = 0 → ∀ a g s, LP_ n a → GP_ n g → ((s = 1 ∧ SQ_ n) ∨ (s = 0 ∧ ¬ SQ_ n)) → Q pm (lN a) (lN g) s pp pw) (hw : ¬ w = 0 → ∀ many fl fg fs pp' pw', FIN_ n many pp' pw' → Q many fl fg fs pp' pw') : wp_X9_parts m f pm pp pw fl fg fs (lN n) w Q := by
  have hb := NP_le
  unfold wp_X9_parts
  refine ⟨PJ_ n w pp pw, fun x _ _ _ _ _ _ _ => (10000 - x.toInt).toNat, ⟨0, Nat.zero_le _, fun j hj => absurd hj (Nat.not_lt_zero j), rfl, rfl, rfl, ⟨1, L_0 1 n, rfl⟩, ⟨1, G_0 1 n, rfl⟩, Or.inr ⟨rfl, S_0 n⟩, ?_⟩, ?_⟩
  · by_cases q : w = 0
    · exact Or.inl ⟨q, rfl, rfl⟩
    · exact Or.inr ⟨q, Ar_0 n pp pw⟩
  rintro l7 l6 l4 fl fg fs pp' pw' ⟨i, hi, hns, rfl, rfl, rfl, ⟨l, hl, rfl⟩, ⟨g, hg, rfl⟩, hs, hw'⟩
  have hRs := R_spl h1 i hi
  have hR1 := hRs.1
  have hRn := R_le h1 hi
  have hM := M_le h1 hn hi
  have hlb := Li_b h1 hn hl
  rw [ht.1]
  have sp1 : nI NP_ ≤ nI i → Sp_ n i := fun c => Or.inl (by
    have := (nI_leI (by omega) (by omega)).mp c
    omega)
  have e1l : lN l = (1 : Int64) ↔ l = 1 := pk_lEQ (a := l) (b := 1) (by omega) (by omega)
  have e1R : lN (R_ n i) ≤ (1 : Int64) ↔ R_ n i ≤ 1 := pk_lLE (a := R_ n i) (b := 1) (by omega) (by omega)
  refine ⟨fun c => ?_, fun c => ?_⟩
  rotate_left
  · have c' := mt (nI_leI (a := NP_) (b := i) (by omega) (by omega)).mpr c
    obtain ⟨p, hp, hp1, hpi, hfp⟩ := tab_at ht (i := i) (by omega)
    have hp2 := hp.1
    have hpp := Nat.mul_le_mul hp1 hp1
    rw [nI_clamp (n := i) (by omega), hfp, nI_l (n := p) (by omega), lN_mul]
    have vi : vp_in (nI i) 9592 := vp_in_nI (by omega) (by omega)
    have sp2 : lN (R_ n i) < lN (p * p) → Sp_ n i := fun d => Or.inr ⟨p, hp, hp1, hpi, (pk_lLT (by omega) (by omega)).mp d⟩
    refine ⟨vi, vi, fun d => ?_, fun d => ?_⟩

    · have hSp : Sp_ n i := sp2 d
      have hRp := Sp_R h1 hn hi hSp
      have hse := S_end h1 hi hRp
      have hs' : (fs = 1 ∧ SQ_ n) ∨ (fs = 0 ∧ ¬ SQ_ n) := by rw [← hse]; exact hs
      refine ⟨fun z => ?_, fun z => ?_⟩
      · have z' := e1R.mp z
        have hR : R_ n i = 1 := by omega
        refine ⟨fun q => ?_, fun q => ?_⟩
        · rcases hw' with ⟨_, rfl, rfl⟩ | ⟨b, _⟩
          · exact h0 q l g fs (LP_fin1 h1 hi hl hR) (GP_fin1 h1 hi hg hR) hs'
          · exact absurd q b
        · rcases hw' with ⟨a, _⟩ | ⟨_, b⟩
          · exact absurd a q
          · exact hw q _ _ _ _ _ _ ⟨i, hi, hSp, hns, b, Or.inl ⟨hR, rfl⟩⟩
      · have z' := mt e1R.mpr z
        have hRp2 : isP (R_ n i) := hRp.resolve_left (by omega)
        have hM9 := M_le9 h1 hn hi hRp2 (Nat.dvd_refl _)
        have fw : ∀ (x6 : Int32) (a : Int64), ¬ w = 0 → x6 = nI (Mi_ n i) + 1 → Q x6 a (lN (R_ n i)) fs (vp_updL pp' (nI (Mi_ n i)).toNatClampNeg (lN (R_ n i))) (upd pw' (nI (Mi_ n i)).toNatClampNeg (1 : Int32)) := by
          intro x6 a q e6
          rw [show nI (Mi_ n i) + (1 : Int32) = nI (Mi_ n i + 1) from nI_1 _] at e6
          subst e6
          rw [nI_clamp (by omega)]
          rcases hw' with ⟨a, _⟩ | ⟨_, b⟩
          · exact absurd a q
          · exact hw q _ _ _ _ _ _ ⟨i, hi, hSp, hns, Ar_end b, Or.inr ⟨by omega, rfl, upL_same, up_s⟩⟩
        have vm : vp_in (nI (Mi_ n i)) 16 := vp_in_nI (by omega) (by omega)
        refine ⟨fun y => ⟨fun q x6 e6 => ⟨fun _ => ?_, fun q2 => absurd q q2⟩, fun q => ⟨vm, vm, fun x6 e6 => ⟨fun q2 => absurd q2 q, fun _ => fw x6 _ q e6⟩⟩⟩, fun y => ⟨fun q x6 e6 => ⟨fun _ => ?_, fun q2 => absurd q q2⟩, fun q => ⟨vm, vm, fun x6 e6 => ⟨fun q2 => absurd q2 q, fun _ => fw x6 _ q e6⟩⟩⟩⟩
        · rcases hw' with ⟨_, rfl, rfl⟩ | ⟨b, _⟩
          · exact h0 q _ _ fs (L_end1 (by omega) h1 hi hRp (e1l.mp y) hl) (G_end1 h1 hi hRp2) hs'
          · exact absurd q b
        · rcases hw' with ⟨_, rfl, rfl⟩ | ⟨b, _⟩
          · exact h0 q l _ fs (L_end2 (fun q => y (e1l.mpr q)) hl) (G_end1 h1 hi hRp2) hs'
          · exact absurd q b
    · have d' := mt (pk_lLT (a := R_ n i) (b := p * p) (by omega) (by omega)).mpr d
      have hno := Sp_no hp hpi (by omega) (show p * p ≤ R_ n i by omega)
      refine ⟨fun x y => ∃ T r, R_ n i = p ^ T * r ∧ x = nI T ∧ y = lN r, fun _ y => y.toInt.toNat, ⟨0, R_ n i, by rw [Nat.pow_zero, Nat.one_mul], rfl, rfl⟩, ?_⟩
      rintro x y ⟨T, r, hT, rfl, rfl⟩
      have hr1 : 1 ≤ r := by
        rcases Nat.eq_zero_or_pos r with z | z
        · rw [z, Nat.mul_zero] at hT; omega
        · exact z
      have hT34 := pow34 hp2 hT hr1 (by omega)
      have hrR : r ≤ R_ n i := by
        have := Nat.mul_le_mul_right r (show 1 ≤ p ^ T from Nat.pow_pos (by omega))
        omega
      have hml := Nat.mod_lt r (show 0 < p by omega)
      have hp0 : ¬ lN p = (0 : Int64) := fun z => by
        have := (pk_lEQ (a := p) (b := 0) (by omega) (by omega)).mp z
        omega
      rw [pk_lRem (by omega) (by omega) (by omega), pk_lDiv (by omega) (by omega) (by omega)]
      refine ⟨vi, hp0, fun z => ⟨vi, hp0, fun x4 e4 x8 e8 => ?_⟩, fun z => ?_⟩
      · have z' := (pk_lEQ (a := r % p) (b := 0) (by omega) (by omega)).mp z
        rw [show nI T + (1 : Int32) = nI (T + 1) from nI_1 T] at e8
        subst e4 e8
        have e := Nat.div_add_mod r p
        rw [z', Nat.add_zero] at e
        refine ⟨⟨T + 1, r / p, ?_, rfl, rfl⟩, ?_⟩
        · rw [Nat.pow_succ, Nat.mul_assoc, e]; exact hT
        · show (lN (r / p)).toInt.toNat < (lN r).toInt.toNat
          have hlt : r / p < r := Nat.div_lt_self (by omega) (by omega)
          rw [tl (by omega), tl (by omega)]
          omega
      · have z' := mt (pk_lEQ (a := r % p) (b := 0) (by omega) (by omega)).mpr z
        have hnr : ¬ p ∣ r := fun q => z' (Nat.mod_eq_zero_of_dvd q)
        have hstep := R_step hp hpi hT hnr
        have t0 := T_0 h1 (show i < NP_ by omega) hp hpi hT hnr
        have t2 := T_2 h1 (show i < NP_ by omega) hp hpi hT hnr
        have hss := S_s (n := n) hp hpi
        have hns' : ∀ j, j < i + 1 → ¬ Sp_ n j := fun j hj => by
          by_cases e : j = i
          · rw [e]; exact hno
          · exact hns j (by omega)
        have vm : ¬ w = 0 → p ∣ n → vp_in (nI (Mi_ n i)) 16 := fun _ _ => vp_in_nI (by omega) (by omega)
        have nxt : ∀ (x7 x6 : Int32) (a b : Int64) (s : Int32) (P : Nat → Int64) (W : Nat → Int32), p ∣ n → x6 = nI (Mi_ n i) + 1 → x7 = nI i + 1 → (∃ l, Li_ 1 n (i + 1) l ∧ a = lN l) → b = lN p → ((s = 1 ∧ (Si_ n i ∨ p * p ∣ n)) ∨ (s = 0 ∧ ¬ (Si_ n i ∨ p * p ∣ n))) → ((w = 0 ∧ P = pp ∧ W = pw) ∨ (¬ w = 0 ∧ Ar_ n (i + 1) P W)) → PJ_ n w pp pw x7 x6 (lN r) a b s P W ∧ (10000 - x7.toInt).toNat < (10000 - (nI i).toInt).toNat := by
          intro x7 x6 a b s P W hd e6 e7 ha hb' hs' hPW
          rw [show nI i + (1 : Int32) = nI (i + 1) from nI_1 i] at e7
          rw [show nI (Mi_ n i) + (1 : Int32) = nI (Mi_ n i + 1) from nI_1 _, ← M_1 hp hpi hd] at e6
          subst e7 e6
          refine ⟨⟨i + 1, by omega, hns', rfl, rfl, by rw [hstep], ha, ⟨p, G_set hp hpi hd, hb'⟩, ?_, hPW⟩, meas10k (by omega)⟩
          rw [hss]; exact hs'
        have aset : ∀ y3 : Int64, y3 = lN p → ¬ w = 0 → (¬ w = 0 ∧ Ar_ n (i + 1) (vp_updL pp' (nI (Mi_ n i)).toNatClampNeg y3) (upd pw' (nI (Mi_ n i)).toNatClampNeg (nI T))) := by
          intro y3 e3 q
          rw [nI_clamp (by omega), e3]
          rcases hw' with ⟨a, _⟩ | ⟨_, b⟩
          · exact absurd a q
          · exact ⟨q, Ar_set hp hpi hT hnr b⟩
        have akeep : w = 0 → w = 0 ∧ pp' = pp ∧ pw' = pw := by
          intro q
          rcases hw' with a | ⟨b, _⟩
          · exact a
          · exact absurd q b
        have sq0 : fs = 0 → nI T ≤ (1 : Int32) → ¬ (Si_ n i ∨ p * p ∣ n) := by
          intro a b q
          have b' := (nI_leI (a := T) (b := 1) (by omega) (by omega)).mp b
          rcases q with q | q
          · rcases hs with ⟨c1, _⟩ | ⟨_, c2⟩
            · rw [a] at c1; exact absurd c1 (by decide)
            · exact c2 q
          · have := t2.mpr q
            omega
        have sq1 : ¬ nI T ≤ (1 : Int32) → (Si_ n i ∨ p * p ∣ n) := by
          intro b
          have b' := mt (nI_leI (a := T) (b := 1) (by omega) (by omega)).mpr b
          exact Or.inr (t2.mp (by omega))
        have sq2 : ¬ fs = 0 → (Si_ n i ∨ p * p ∣ n) := by
          intro a
          rcases hs with ⟨_, c1⟩ | ⟨c2, _⟩
          · exact Or.inl c1
          · exact absurd c2 a
        refine ⟨fun y x7 e7 => ?_, fun y => ?_⟩
        · have y' := (nI_leI (a := T) (b := 0) (by omega) (by omega)).mp y
          have hd := t0.mp (by omega)
          rw [show nI i + (1 : Int32) = nI (i + 1) from nI_1 i] at e7
          subst e7
          refine ⟨⟨i + 1, by omega, hns', rfl, by rw [M_n hp hpi hd], by rw [hstep], ⟨l, L_no hp hpi hd hl, rfl⟩, ⟨g, G_no hp hpi hd hg, rfl⟩, ?_, ?_⟩, meas10k (by omega)⟩
          · have hq : ¬ p * p ∣ n := fun q => hd (Nat.dvd_trans ⟨p, rfl⟩ q)
            rw [hss]
            rcases hs with ⟨a, b⟩ | ⟨a, b⟩
            · exact Or.inl ⟨a, Or.inl b⟩
            · exact Or.inr ⟨a, fun q => q.elim b hq⟩
          · rcases hw' with a | ⟨a, b⟩
            · exact Or.inl a
            · exact Or.inr ⟨a, Ar_no hp hpi hd b⟩
        · have y' := mt (nI_leI (a := T) (b := 0) (by omega) (by omega)).mpr y
          have hd : p ∣ n := by
            apply Classical.byContradiction
            intro q
            have := t0.mpr q
            omega
          refine ⟨fun yl => ⟨vi, fun y1 ey1 => ⟨vi, fun y2 ey2 => ⟨fun s0 => ⟨fun t1 => ⟨fun q0 x6 e6 x7 e7 => nxt x7 x6 _ _ _ _ _ hd e6 e7 ⟨p, L_set (by omega) hp hpi hd (e1l.mp yl) hl, ey1⟩ ey2 (Or.inr ⟨rfl, sq0 s0 t1⟩) (Or.inl (akeep q0)), fun q0 => ⟨vi, fun y3 ey3 => ⟨vm q0 hd, vm q0 hd, fun x6 e6 x7 e7 => nxt x7 x6 _ _ _ _ _ hd e6 e7 ⟨p, L_set (by omega) hp hpi hd (e1l.mp yl) hl, ey1⟩ ey2 (Or.inr ⟨rfl, sq0 s0 t1⟩) (Or.inr (aset y3 ey3 q0))⟩⟩⟩, fun t1 => ⟨fun q0 x6 e6 x7 e7 => nxt x7 x6 _ _ _ _ _ hd e6 e7 ⟨p, L_set (by omega) hp hpi hd (e1l.mp yl) hl, ey1⟩ ey2 (Or.inl ⟨rfl, sq1 t1⟩) (Or.inl (akeep q0)), fun q0 => ⟨vi, fun y3 ey3 => ⟨vm q0 hd, vm q0 hd, fun x6 e6 x7 e7 => nxt x7 x6 _ _ _ _ _ hd e6 e7 ⟨p, L_set (by omega) hp hpi hd (e1l.mp yl) hl, ey1⟩ ey2 (Or.inl ⟨rfl, sq1 t1⟩) (Or.inr (aset y3 ey3 q0))⟩⟩⟩⟩, fun s0 => ⟨fun q0 x6 e6 x7 e7 => nxt x7 x6 _ _ _ _ _ hd e6 e7 ⟨p, L_set (by omega) hp hpi hd (e1l.mp yl) hl, ey1⟩ ey2 (Or.inl ⟨rfl, sq2 s0⟩) (Or.inl (akeep q0)), fun q0 => ⟨vi, fun y3 ey3 => ⟨vm q0 hd, vm q0 hd, fun x6 e6 x7 e7 => nxt x7 x6 _ _ _ _ _ hd e6 e7 ⟨p, L_set (by omega) hp hpi hd (e1l.mp yl) hl, ey1⟩ ey2 (Or.inl ⟨rfl, sq2 s0⟩) (Or.inr (aset y3 ey3 q0))⟩⟩⟩⟩⟩⟩, fun yl => ⟨vi, fun y2 ey2 => ⟨fun s0 => ⟨fun t1 => ⟨fun q0 x6 e6 x7 e7 => nxt x7 x6 _ _ _ _ _ hd e6 e7 ⟨l, L_keep (fun q => yl (e1l.mpr q)) hl, rfl⟩ ey2 (Or.inr ⟨rfl, sq0 s0 t1⟩) (Or.inl (akeep q0)), fun q0 => ⟨vi, fun y3 ey3 => ⟨vm q0 hd, vm q0 hd, fun x6 e6 x7 e7 => nxt x7 x6 _ _ _ _ _ hd e6 e7 ⟨l, L_keep (fun q => yl (e1l.mpr q)) hl, rfl⟩ ey2 (Or.inr ⟨rfl, sq0 s0 t1⟩) (Or.inr (aset y3 ey3 q0))⟩⟩⟩, fun t1 => ⟨fun q0 x6 e6 x7 e7 => nxt x7 x6 _ _ _ _ _ hd e6 e7 ⟨l, L_keep (fun q => yl (e1l.mpr q)) hl, rfl⟩ ey2 (Or.inl ⟨rfl, sq1 t1⟩) (Or.inl (akeep q0)), fun q0 => ⟨vi, fun y3 ey3 => ⟨vm q0 hd, vm q0 hd, fun x6 e6 x7 e7 => nxt x7 x6 _ _ _ _ _ hd e6 e7 ⟨l, L_keep (fun q => yl (e1l.mpr q)) hl, rfl⟩ ey2 (Or.inl ⟨rfl, sq1 t1⟩) (Or.inr (aset y3 ey3 q0))⟩⟩⟩⟩, fun s0 => ⟨fun q0 x6 e6 x7 e7 => nxt x7 x6 _ _ _ _ _ hd e6 e7 ⟨l, L_keep (fun q => yl (e1l.mpr q)) hl, rfl⟩ ey2 (Or.inl ⟨rfl, sq2 s0⟩) (Or.inl (akeep q0)), fun q0 => ⟨vi, fun y3 ey3 => ⟨vm q0 hd, vm q0 hd, fun x6 e6 x7 e7 => nxt x7 x6 _ _ _ _ _ hd e6 e7 ⟨l, L_keep (fun q => yl (e1l.mpr q)) hl, rfl⟩ ey2 (Or.inl ⟨rfl, sq2 s0⟩) (Or.inr (aset y3 ey3 q0))⟩⟩⟩⟩⟩⟩
  · have hSp : Sp_ n i := sp1 c
    have hRp := Sp_R h1 hn hi hSp
    have hse := S_end h1 hi hRp
    have hs' : (fs = 1 ∧ SQ_ n) ∨ (fs = 0 ∧ ¬ SQ_ n) := by rw [← hse]; exact hs
    refine ⟨fun z => ?_, fun z => ?_⟩
    · have z' := e1R.mp z
      have hR : R_ n i = 1 := by omega
      refine ⟨fun q => ?_, fun q => ?_⟩
      · rcases hw' with ⟨_, rfl, rfl⟩ | ⟨b, _⟩
        · exact h0 q l g fs (LP_fin1 h1 hi hl hR) (GP_fin1 h1 hi hg hR) hs'
        · exact absurd q b
      · rcases hw' with ⟨a, _⟩ | ⟨_, b⟩
        · exact absurd a q
        · exact hw q _ _ _ _ _ _ ⟨i, hi, hSp, hns, b, Or.inl ⟨hR, rfl⟩⟩
    · have z' := mt e1R.mpr z
      have hRp2 : isP (R_ n i) := hRp.resolve_left (by omega)
      have hM9 := M_le9 h1 hn hi hRp2 (Nat.dvd_refl _)
      have fw : ∀ (x6 : Int32) (a : Int64), ¬ w = 0 → x6 = nI (Mi_ n i) + 1 → Q x6 a (lN (R_ n i)) fs (vp_updL pp' (nI (Mi_ n i)).toNatClampNeg (lN (R_ n i))) (upd pw' (nI (Mi_ n i)).toNatClampNeg (1 : Int32)) := by
        intro x6 a q e6
        rw [show nI (Mi_ n i) + (1 : Int32) = nI (Mi_ n i + 1) from nI_1 _] at e6
        subst e6
        rw [nI_clamp (by omega)]
        rcases hw' with ⟨a, _⟩ | ⟨_, b⟩
        · exact absurd a q
        · exact hw q _ _ _ _ _ _ ⟨i, hi, hSp, hns, Ar_end b, Or.inr ⟨by omega, rfl, upL_same, up_s⟩⟩
      have vm : vp_in (nI (Mi_ n i)) 16 := vp_in_nI (by omega) (by omega)
      refine ⟨fun y => ⟨fun q x6 e6 => ⟨fun _ => ?_, fun q2 => absurd q q2⟩, fun q => ⟨vm, vm, fun x6 e6 => ⟨fun q2 => absurd q2 q, fun _ => fw x6 _ q e6⟩⟩⟩, fun y => ⟨fun q x6 e6 => ⟨fun _ => ?_, fun q2 => absurd q q2⟩, fun q => ⟨vm, vm, fun x6 e6 => ⟨fun q2 => absurd q2 q, fun _ => fw x6 _ q e6⟩⟩⟩⟩
      · rcases hw' with ⟨_, rfl, rfl⟩ | ⟨b, _⟩
        · exact h0 q _ _ fs (L_end1 (by omega) h1 hi hRp (e1l.mp y) hl) (G_end1 h1 hi hRp2) hs'
        · exact absurd q b
      · rcases hw' with ⟨_, rfl, rfl⟩ | ⟨b, _⟩
        · exact h0 q l _ fs (L_end2 (fun q => y (e1l.mpr q)) hl) (G_end1 h1 hi hRp2) hs'
        · exact absurd q b
/-! the class's side -/
theorem s_keep1 {fac : Nat → Int64} {pow : Nat → Int32} {k : Nat} (hk : k ≤ 9) {a : Int64} {b : Int32} {Q : Int32 → (Nat → Int64) → (Nat → Int32) → Prop} (h : Q (nI (k + 1)) (vp_updL fac k a) (upd pow k b)) : wp_X1_keep fac pow (nI k) a b Q := by
  unfold wp_X1_keep
  refine ⟨fun c => absurd c (nI_pos (by omega)), fun _ => ⟨fun c => ?_, fun _ => ⟨vp_in_nI (by omega) (by omega), vp_in_nI (by omega) (by omega), fun y e => ?_⟩⟩⟩
  · have := (nI_leI (a := 10) (b := k) (by omega) (by omega)).mp c
    omega
  · rw [show nI k + (1 : Int32) = nI (k + 1) from nI_1 k] at e
    subst e
    rw [nI_clamp (by omega)]
    exact h
def TJ_ (n : Nat) (l6 : Int32) (l4 : Int64) (many : Int32) (fac : Nat → Int64) (pow : Nat → Int32) : Prop := ∃ i, i ≤ NP_ ∧ (∀ j, j < i → ¬ Sp_ n j) ∧ l6 = nI i ∧ many = nI (Mi_ n i) ∧ l4 = lN (R_ n i) ∧ Ar_ n i fac pow
theorem s_take {f : Nat → Int32} {m : Int32} (ht : tab_ f m) {n : Nat} (h1 : 1 ≤ n) (hn : n ≤ 10000000000) {fac : Nat → Int64} {pow : Nat → Int32} {num : Int64} {mm : Int32} {Q : Int64 → Int32 → (Nat → Int64) → (Nat → Int32) → Prop} (h : ∀ many fac' pow', FIN_ n many fac' pow' → Q (lN n) many fac' pow') : wp_X1_take fac pow num mm f m (lN n) Q := by
  have hb := NP_le
  unfold wp_X1_take
  refine ⟨TJ_ n, fun x _ _ _ _ => (10000 - x.toInt).toNat, ⟨0, Nat.zero_le _, fun j hj => absurd hj (Nat.not_lt_zero j), rfl, rfl, rfl, Ar_0 n fac pow⟩, ?_⟩
  rintro l6 l4 many fac' pow' ⟨i, hi, hns, rfl, rfl, rfl, hA⟩
  have hR1 := (R_spl h1 i hi).1
  have hRn := R_le h1 hi
  have hM := M_le h1 hn hi
  have e1R : lN (R_ n i) ≤ (1 : Int64) ↔ R_ n i ≤ 1 := pk_lLE (a := R_ n i) (b := 1) (by omega) (by omega)
  have fin : Sp_ n i → ((lN (R_ n i) ≤ (1 : Int64) → Q (lN n) (nI (Mi_ n i)) fac' pow') ∧ (¬ lN (R_ n i) ≤ (1 : Int64) → wp_X1_keep fac' pow' (nI (Mi_ n i)) (lN (R_ n i)) (1 : Int32) (fun o_4 o_5 o_6 => Q (lN n) o_4 o_5 o_6))) := by
    intro hSp
    have hRp := Sp_R h1 hn hi hSp
    refine ⟨fun z => ?_, fun z => ?_⟩
    · have z' := e1R.mp z
      exact h _ _ _ ⟨i, hi, hSp, hns, hA, Or.inl ⟨by omega, rfl⟩⟩
    · have z' := mt e1R.mpr z
      have hRp2 : isP (R_ n i) := hRp.resolve_left (by omega)
      have hM9 := M_le9 h1 hn hi hRp2 (Nat.dvd_refl _)
      exact s_keep1 hM9 (h _ _ _ ⟨i, hi, hSp, hns, Ar_end hA, Or.inr ⟨by omega, rfl, upL_same, up_s⟩⟩)
  refine ⟨fun c => fin (Or.inl ?_), fun c => ?_⟩
  · rw [ht.1] at c
    have := (nI_leI (by omega) (by omega)).mp c
    omega
  · rw [ht.1] at c
    have c' := mt (nI_leI (a := NP_) (b := i) (by omega) (by omega)).mpr c
    refine s_nth ht (by omega) (fun p hp hp1 hpi x7 e7 => ?_)
    have hp2 := hp.1
    have hpp := Nat.mul_le_mul hp1 hp1
    rw [nI_l (by omega)] at e7
    subst e7
    rw [lN_mul]
    refine ⟨fun c2 => ?_, fun _ => ⟨fun d => ?_, fun d => fin (Or.inr ⟨p, hp, hp1, hpi, ?_⟩)⟩⟩
    · have := (pk_lLT (a := p) (b := 2) (by omega) (by omega)).mp c2
      omega
    · have d' := (pk_lLE (by omega) (by omega)).mp d
      have hno := Sp_no hp hpi (by omega) d'
      refine ⟨fun x z y => ∃ T r, R_ n i = p ^ T * r ∧ x = nI T ∧ z = nI T ∧ y = lN r, fun x _ _ => (700 - x.toInt).toNat, ⟨0, R_ n i, by rw [Nat.pow_zero, Nat.one_mul], rfl, rfl, rfl⟩, ?_⟩
      rintro x z y ⟨T, r, hT, rfl, rfl, rfl⟩
      have hr1 : 1 ≤ r := by
        rcases Nat.eq_zero_or_pos r with z | z
        · rw [z, Nat.mul_zero] at hT; omega
        · exact z
      have hT34 := pow34 hp2 hT hr1 (by omega)
      have hrR : r ≤ R_ n i := by
        have := Nat.mul_le_mul_right r (show 1 ≤ p ^ T from Nat.pow_pos (by omega))
        omega
      have hml := Nat.mod_lt r (show 0 < p by omega)
      have hp0 : ¬ lN p = (0 : Int64) := fun z => by
        have := (pk_lEQ (a := p) (b := 0) (by omega) (by omega)).mp z
        omega
      rw [pk_lRem (by omega) (by omega) (by omega), pk_lDiv (by omega) (by omega) (by omega)]
      refine ⟨fun z => ?_, fun _ => ⟨hp0, fun z => ⟨hp0, fun x4 e4 x9 e9 x10 e10 => ?_⟩, fun z => ?_⟩⟩
      · have := (nI_leI (a := 34) (b := T) (by omega) (by omega)).mp z
        omega
      · have z' := (pk_lEQ (a := r % p) (b := 0) (by omega) (by omega)).mp z
        rw [show nI T + (1 : Int32) = nI (T + 1) from nI_1 T] at e9 e10
        subst e4 e9 e10
        have e := Nat.div_add_mod r p
        rw [z', Nat.add_zero] at e
        refine ⟨⟨T + 1, r / p, ?_, rfl, rfl, rfl⟩, meas1 (by omega)⟩
        rw [Nat.pow_succ, Nat.mul_assoc, e]; exact hT
      · have z' := mt (pk_lEQ (a := r % p) (b := 0) (by omega) (by omega)).mpr z
        have hnr : ¬ p ∣ r := fun q => z' (Nat.mod_eq_zero_of_dvd q)
        have hstep := R_step hp hpi hT hnr
        have t0 := T_0 h1 (show i < NP_ by omega) hp hpi hT hnr
        have hns' : ∀ j, j < i + 1 → ¬ Sp_ n j := fun j hj => by
          by_cases e : j = i
          · rw [e]; exact hno
          · exact hns j (by omega)
        refine ⟨fun y x6 e6 => ?_, fun y => ?_⟩
        · have y' := (nI_leI (a := T) (b := 0) (by omega) (by omega)).mp y
          have hd := t0.mp (by omega)
          rw [show nI i + (1 : Int32) = nI (i + 1) from nI_1 i] at e6
          subst e6
          exact ⟨⟨i + 1, by omega, hns', rfl, by rw [M_n hp hpi hd], by rw [hstep], Ar_no hp hpi hd hA⟩, meas10k (by omega)⟩
        · have y' := mt (nI_leI (a := T) (b := 0) (by omega) (by omega)).mpr y
          have hd : p ∣ n := by
            apply Classical.byContradiction
            intro q
            have := t0.mpr q
            omega
          have hM9 := M_le9 h1 hn hi hp ((R_dvd h1 hi hp (by omega)).mpr hd)
          refine s_keep1 hM9 (fun x6 e6 => ?_)
          rw [show nI i + (1 : Int32) = nI (i + 1) from nI_1 i] at e6
          subst e6
          exact ⟨⟨i + 1, by omega, hns', rfl, by rw [M_1 hp hpi hd], by rw [hstep], Ar_set hp hpi hT hnr hA⟩, meas10k (by omega)⟩
    · have := mt (pk_lLE (a := p * p) (b := R_ n i) (by omega) (by omega)).mpr d
      omega
/-! the relation of the two partings -/
def pf_ (f : Nat → Nat) : Nat → Nat
  | 0 => 1
  | k + 1 => pf_ f k * f k
def nz6 (x : Int64) : Nat := x.toInt.toNat
def RP_ (o : Option CT_) (hp : Int32) (pt : Int64) (pm : Int32) (pp : Nat → Int64) (pw : Nat → Int32) : Prop := match o with
  | none => hp = 0
  | some w => hp = 1 ∧ w.2.2.1 = pt ∧ ∃ k : Nat, k ≤ 10 ∧ w.2.2.2 = nI k ∧ pm = nI k ∧ (∀ t, t < k → ∃ p e : Nat, 2 ≤ p ∧ p ≤ 10000000000 ∧ 1 ≤ e ∧ e ≤ 40 ∧ w.1 t = lN p ∧ pp t = lN p ∧ w.2.1 t = nI e ∧ pw t = nI e) ∧ pf_ (fun t => nz6 (w.1 t)) k ≤ 10000000000
theorem nz6_l {p : Nat} (h : p < 9223372036854775808) : nz6 (lN p) = p := by
  unfold nz6
  rw [tl h]
  omega
theorem pf_eq {f g : Nat → Nat} : ∀ k, (∀ t, t < k → f t = g t) → pf_ f k = pf_ g k := by
  intro k
  induction k with
  | zero => intro _; rfl
  | succ k ih =>
    intro h
    show pf_ f k * f k = pf_ g k * g k
    rw [ih (fun t a => h t (by omega)), h k (by omega)]
theorem pf_Ar {n : Nat} (hn : 1 ≤ n) (hn2 : n ≤ 10000000000) {fac : Nat → Int64} {pow : Nat → Int32} : ∀ i, i ≤ NP_ → Ar_ n i fac pow → pf_ (fun t => nz6 (fac t)) (Mi_ n i) = PP_ n i := by
  intro i
  induction i with
  | zero => intro _ _; rfl
  | succ i ih =>
    intro hi hA
    obtain ⟨p, hp, hp1, hpi⟩ := NP_ex (show i < NP_ by omega)
    have hA' : Ar_ n i fac pow := fun q hq hc hqd => hA q hq (by omega) hqd
    by_cases hd : p ∣ n
    · rw [M_1 hp hpi hd, PP_1 hp hpi hd, ← ih (by omega) hA']
      show pf_ (fun t => nz6 (fac t)) (Mi_ n i) * nz6 (fac (Mi_ n i)) = _
      have := (hA p hp (by omega) hd).1
      rw [hpi] at this
      rw [this, nz6_l (by omega)]
    · rw [M_n hp hpi hd, PP_n hp hpi hd]
      exact ih (by omega) hA'
theorem FIN_RP {n : Nat} (hn : 1 ≤ n) (hn2 : n ≤ 10000000000) {many many' : Int32} {fac fac' : Nat → Int64} {pow pow' : Nat → Int32} (h : FIN_ n many fac pow) (g : FIN_ n many' fac' pow') : many = many' ∧ RP_ (some (fac, pow, lN n, many)) 1 (lN n) many' fac' pow' := by
  obtain ⟨i, hi, hSp, hns, hA, hm⟩ := h
  obtain ⟨j, hj, gSp, gns, gA, gm⟩ := g
  have e : i = j := by
    rcases Nat.lt_trichotomy i j with c | c | c
    · exact absurd hSp (gns i c)
    · exact c
    · exact absurd gSp (hns j c)
  subst e
  have hR1 := (R_spl hn i hi).1
  have hRn := R_le hn hi
  have hM := M_le hn hn2 hi
  obtain ⟨b1, b2, _⟩ := PP_b hn i hi
  have key : ∀ t, t < Mi_ n i → ∃ p e : Nat, 2 ≤ p ∧ p ≤ 10000000000 ∧ 1 ≤ e ∧ e ≤ 40 ∧ fac t = lN p ∧ fac' t = lN p ∧ pow t = nI e ∧ pow' t = nI e := by
    intro t ht
    obtain ⟨p, hp, hpi, hd, hMt⟩ := M_ex i hi t ht
    obtain ⟨a1, a2⟩ := hA p hp hpi hd
    obtain ⟨a3, a4⟩ := gA p hp hpi hd
    rw [hMt] at a1 a2 a3 a4
    obtain ⟨T, r, hT, hr⟩ := ex_mu p hp.1 (R_ n (cntP p)) (R_spl hn (cntP p) (by omega)).1
    rw [mt_is (by have := hp.1; omega) hT hr] at a2 a4
    have hr1 : 1 ≤ r := by
      rcases Nat.eq_zero_or_pos r with z | z
      · rw [z] at hr; exact absurd (Nat.dvd_zero p) hr
      · exact z
    have hle := R_le hn (show cntP p ≤ NP_ by omega)
    have hT34 := pow34 hp.1 hT hr1 (by omega)
    have t0 := T_0 hn (show cntP p < NP_ by omega) hp rfl hT hr
    have hpn := Nat.le_of_dvd (by omega) hd
    refine ⟨p, T, hp.1, by omega, ?_, by omega, a1, a3, a2, a4⟩
    rcases Nat.eq_zero_or_pos T with z | z
    · exact absurd hd (t0.mp z)
    · exact z
  have hpf := pf_Ar hn hn2 i hi hA
  rcases hm with ⟨r1, r2⟩ | ⟨r1, r2, r3, r4⟩
  · rcases gm with ⟨_, q2⟩ | ⟨q1, _⟩
    · refine ⟨r2.trans q2.symm, rfl, rfl, Mi_ n i, hM, r2, q2, key, ?_⟩
      show pf_ (fun t => nz6 (fac t)) (Mi_ n i) ≤ _
      rw [hpf]
      have := Nat.mul_le_mul_left (PP_ n i) hR1
      omega
    · omega
  · rcases gm with ⟨q1, _⟩ | ⟨_, q2, q3, q4⟩
    · omega
    · have hRp2 : isP (R_ n i) := (Sp_R hn hn2 hi hSp).resolve_left (by omega)
      have hM9 := M_le9 hn hn2 hi hRp2 (Nat.dvd_refl _)
      refine ⟨r2.trans q2.symm, rfl, rfl, Mi_ n i + 1, by omega, r2, q2, fun t ht => ?_, ?_⟩
      · by_cases e : t = Mi_ n i
        · subst e
          exact ⟨R_ n i, 1, by omega, by omega, by omega, by omega, r3, q3, r4, q4⟩
        · exact key t (by omega)
      · show pf_ (fun t => nz6 (fac t)) (Mi_ n i) * nz6 (fac (Mi_ n i)) ≤ _
        rw [hpf, r3, nz6_l (by omega)]
        omega

theorem m1_ne {k : Nat} (hk : k ≤ 16) : ¬ nI k = (-1 : Int32) := by
  intro e
  have h1 := tn (n := k) (by omega)
  rw [e] at h1
  have h2 : ((-1 : Int32)).toInt = -1 := by decide
  omega
theorem t_product {Inv : XC_ → MC_ → Prop} (hr : HR Inv) (hu : UR Inv) : st_product Inv := by
  rintro ⟨oP, oS, oT, oU, oG, oR⟩ ⟨m0, m1, m2, m3, m4, m5, m6, m7, m8, m9, m10, m11, m12, m13, m14, m15, m16, m17, m18⟩ p1 p2 hI
  refine ⟨0, 0, by omega, by omega, ?_⟩
  have hR := hr _ _ hI
  rcases oR with _ | ⟨v, mm⟩
  · obtain rfl : m14 = nI 0 := hR
    unfold wpx_product
    dsimp only
    unfold wp_X8_product_c0 wp_X8_hasRow_c0
    refine ⟨fun _ => ⟨le00, le00, ?_⟩, fun c => absurd rfl c⟩
    unfold wp_X9_product
    exact s_isRow (k := 0) (by omega) (fun r h _ => absurd h (Nat.not_lt_zero r)) (fun _ => ⟨fun _ => ⟨rfl, hI⟩, fun c => absurd rfl c⟩)
  · obtain ⟨k, hk, e1, e2, hv⟩ := hR
    dsimp only at e1 e2 hv
    subst e1 e2
    have hv : ∀ r n : Nat, r < k → 1 ≤ n → n ≤ 600 → v (600 * r + n - 1) = m15 (601 * r + n) := hv
    unfold wpx_product
    dsimp only
    refine ⟨rfl, rfl, ?_⟩
    unfold wp_X8_product_c1
    refine s_hasRow hk (fun a ha ea => ⟨fun c => absurd c (by decide), fun _ => ?_⟩) (fun hn => ⟨fun _ => ⟨cc_R, cs_R, ?_⟩, fun c => absurd rfl c⟩)
    · subst ea
      refine s_hasRow hk (fun b hb eb => ⟨fun c => absurd c (by decide), fun _ => ?_⟩) (fun hn => ⟨fun _ => ⟨cc_R, cs_R, ?_⟩, fun c => absurd rfl c⟩)
      · subst eb
        unfold wp_X8_newRow_c1
        refine s_addZeros hk (fun c => ⟨fun _ => ⟨cc_R, cs_R, ?_⟩, fun d => absurd rfl d⟩) (fun c v' hz => ⟨fun d => absurd d (m1_ne hk), fun _ => ?_⟩)
        · exact s_prod9 hk ha hb (fun _ => ⟨rfl, hI⟩) (fun d => absurd d (by omega))
        · have hva : ∀ r n : Nat, r < k → 1 ≤ n → n ≤ 600 → v' (600 * r + n - 1) = v (600 * r + n - 1) := fun r n x y z => hz.2 _ (by omega)
          refine s_fillProd c ha hb hz.1 (fun v2 h2 => ⟨cc_R, cs_R, ?_⟩)
          refine s_prod9 hk ha hb (fun d => absurd d (by omega)) (fun _ row' h3 => ⟨rfl, hu _ _ _ _ _ _ _ _ _ _ _ _ _ _ _ _ _ _ _ _ _ _ _ _ _ _ _ _ hI (RR_add c (v := v') (w := fun m => sm_ (dv_ (fun j => v' (600 * a + j - 1)) (fun j => v' (600 * b + j - 1)) m) 600) (fun r n x y z => (hva r n x y z).trans (hv r n x y z)) h2 ⟨fun n n1 n2 => ?_, h3.2⟩)⟩)
          rw [h3.1 n n1 n2]
          exact (dv_same n2 (fun j x y => (hva a j ha x y).trans (hv a j ha x y)) (fun j x y => (hva b j hb x y).trans (hv b j hb x y)) n1).symm
      · unfold wp_X9_product
        refine s_isRow hk (fun r2 _ e => ⟨fun c => absurd c (by decide), fun _ => ?_⟩) (fun hn2 => absurd rfl (hn2 a ha))
        exact s_isRow hk (fun r h e => absurd e (hn r h)) (fun _ => ⟨fun _ => ⟨rfl, hI⟩, fun c => absurd rfl c⟩)
    · unfold wp_X9_product
      exact s_isRow hk (fun r h e => absurd e (hn r h)) (fun _ => ⟨fun _ => ⟨rfl, hI⟩, fun c => absurd rfl c⟩)

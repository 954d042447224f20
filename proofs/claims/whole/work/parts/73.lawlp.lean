theorem i_sub5 {L k : Nat} (hL : L ≤ 2560) (hk : k ≤ 2600) (h : ¬ (Int32.ofNat L - (5 : Int32)) < nI k) : k + 5 ≤ L := by
  rcases Nat.lt_or_ge L (k + 5) with q | q
  · exfalso
    apply h
    have e1 : (nI L - nI 5).toInt = (L : Int) - (5 : Nat) := pk_sub_toInt (by omega) (by omega)
    have e2 : (nI k).toInt = (k : Int) := nI_toInt (by omega)
    show nI L - nI 5 < nI k
    rw [Int32.lt_iff_toInt_lt, e1, e2]
    omega
  · exact q
theorem i_at {L k j : Nat} (hL : L ≤ 2560) (h : k + 5 ≤ L) (hj : j < 5) : vp_in (nI k + nI j) L := by
  rw [nI_add]
  exact vp_in_nI (by omega) (by omega)
set_option maxHeartbeats 4000000 in
set_option maxRecDepth 100000 in
theorem law_loop {p : Program} {l : Launch} {e : Env} {s : State} {m : MethodId} {below : List Frame} {meth : Method} {c : Code} {dC : Nat → ClassId} {dI : Nat → Nat → Nat} {cI cJ cZ : ClassId} {b h0 h1 : Nat} {qs : AM_} {Inv : XC_ → MC_ → Prop} {L : Nat} {xs : Nat → Int32} (hL : L ≤ 2560) (C0 : lw_At p s m meth c b L xs) (hK : va_K (dC, dI) vwCl (tys_ cI cJ cZ) s) (hN : nw_ s) (hst_span : st_span Inv) (hst_least : st_least Inv) (hst_spanned : st_spanned Inv) (hst_smooth : st_smooth Inv) (hst_prime : st_prime Inv) (hst_next : st_next Inv) (hst_part : st_part Inv) (hst_parts : st_parts Inv) (hst_parted : st_parted Inv) (hst_without : st_without Inv) (hst_count : st_count Inv) (hst_sum : st_sum Inv) (hst_among : st_among Inv) (hst_floors : st_floors Inv) (hst_points : st_points Inv) (hst_rule : st_rule Inv) (hst_sheet : st_sheet Inv) (hst_tell : st_tell Inv) (hst_product : st_product Inv) (hst_turned : st_turned Inv) (hst_clear : st_clear Inv) (hst_at : st_at Inv) (hst_sumOf : st_sumOf Inv) (hst_same : st_same Inv) (hst_far : st_far Inv) (hst_about : st_about Inv) : ∀ (n k : Nat), L + 6 ≤ k + n → k ≤ L + 5 → law_at p l e s m below meth c dC dI cI cJ cZ b h0 h1 qs Inv 18 (nI k) := by
  have C1 := C0
  obtain ⟨hx, hb, hr, hml, hown, hts, hX, hbl, hlocks, hgv⟩ := C0
  replace hts := fun w h => hts w (wsL_law_in w h)
  have hA : ∀ q : Nat, s.heap.size ≤ q → (fun q : Nat => s.heap.size ≤ q) q := fun _ h => h
  have hbA : ¬ (fun q : Nat => s.heap.size ≤ q) b := Nat.not_le.mpr hbl
  have hown : s.vm.findClass RL = some m.cls := hown
  intro n
  induction n with
  | zero =>
    intro k h1 h2
    omega
  | succ n ih =>
    intro k hk1 hk2 X M hI H locs hP hD hS ls hl
    refine lv_iload_n hx hb dL_law_18 rfl (lv_at hl 3 rfl) ?_
    refine lv_aload_n hx hb dL_law_19 rfl (lv_at hl 0 rfl) ?_
    refine va_slen hx hb hX hbl hbA hS dL_law_20 ?_
    refine lv_iconst (v := (5 : Int32)) hx hb dL_law_21 (by decide) ?_
    refine lv_isub hx hb dL_law_22 ?_
    refine lv_icmp_gt (tgt := 1187) hx hb dL_law_23 (by decide) (fun c1 => ?_) (fun c1 => ?_)
    · refine lv_iconst (v := (1 : Int32)) hx hb dL_law_1187 (by decide) ?_
      refine va_forget (fun q hq => hS.2.2 q hq) ?_
      have b1 := cc__le (xc_ X)
      have b2 := cs__le (xc_ X)
      refine W.widen (k := 600000) (n := 7302250) (by omega) (by omega) ?_
      exact lw_ret hx hb hr hlocks dL_law_1188
    · have hk : k + 5 ≤ L := i_sub5 hL (by omega) c1
      have hi0 : vp_in (nI k) L := vp_in_nI (by omega) (by omega)
      have hi1 : vp_in (nI k + (1 : Int32)) L := i_at (j := 1) hL hk (by omega)
      have hi2 : vp_in (nI k + (2 : Int32)) L := i_at (j := 2) hL hk (by omega)
      have hi3 : vp_in (nI k + (3 : Int32)) L := i_at (j := 3) hL hk (by omega)
      have hi4 : vp_in (nI k + (4 : Int32)) L := i_at (j := 4) hL hk (by omega)
      have hnx : law_at p l e s m below meth c dC dI cI cJ cZ b h0 h1 qs Inv 1181 (nI k) := by
        intro X M hI H locs hP hD hS ls hl
        refine lv_iinc (v := nI (k + 5)) (lv' := [(3, .int (nI (k + 5))), (0, .ref b), (1, .ref h0), (2, .ref h1)]) hx hb dL_law_1181 hl (k := 3) rfl (nI_add k 5) (by decide) rfl (fun ls hl => ?_)
        refine lv_goto (tgt := 18) hx hb dL_law_1184 (by decide) ?_
        exact ih (k + 5) (by omega) (by omega) X M hI H locs hP hD hS ls (lv_sub hl [1, 2, 3, 0] rfl)
      refine lv_aload_n hx hb dL_law_26 rfl (lv_at hl 0 rfl) ?_
      refine lv_iload_n hx hb dL_law_27 rfl (lv_at hl 3 rfl) ?_
      refine va_sld hx hb hX hbl hbA hS hi0 dL_law_28 ?_
      refine lv_bipush (v := (31 : Int32)) hx hb dL_law_29 (by decide) ?_
      refine lv_iand hx hb dL_law_31 ?_
      refine lv_topi (fun z ez => ?_)
      by_cases e0 : z = (0 : Int32)
      · refine lv_tableIn (off := 120) (tgt := 152) hx hb dL_law_32 (by rw [e0]; decide) (by rw [e0]; decide) (by rw [e0]; rfl) (by decide) ?_
        exact lcase_span C1 hK hN hi1 hi2 hi3 hi4 hst_span hnx X M hI H locs hP hD hS ls hl
      by_cases e1 : z = (1 : Int32)
      · refine lv_tableIn (off := 183) (tgt := 215) hx hb dL_law_32 (by rw [e1]; decide) (by rw [e1]; decide) (by rw [e1]; rfl) (by decide) ?_
        exact lcase_least C1 hK hN hi1 hi2 hi3 hi4 hst_least hnx X M hI H locs hP hD hS ls hl
      by_cases e2 : z = (2 : Int32)
      · refine lv_tableIn (off := 207) (tgt := 239) hx hb dL_law_32 (by rw [e2]; decide) (by rw [e2]; decide) (by rw [e2]; rfl) (by decide) ?_
        exact lcase_spanned C1 hK hN hi1 hi2 hi3 hi4 hst_spanned hnx X M hI H locs hP hD hS ls hl
      by_cases e3 : z = (3 : Int32)
      · refine lv_tableIn (off := 230) (tgt := 262) hx hb dL_law_32 (by rw [e3]; decide) (by rw [e3]; decide) (by rw [e3]; rfl) (by decide) ?_
        exact lcase_smooth C1 hK hN hi1 hi2 hi3 hi4 hst_smooth hnx X M hI H locs hP hD hS ls hl
      by_cases e4 : z = (4 : Int32)
      · refine lv_tableIn (off := 309) (tgt := 341) hx hb dL_law_32 (by rw [e4]; decide) (by rw [e4]; decide) (by rw [e4]; rfl) (by decide) ?_
        exact lcase_prime C1 hK hN hi1 hi2 hi3 hi4 hst_prime hnx X M hI H locs hP hD hS ls hl
      by_cases e5 : z = (5 : Int32)
      · refine lv_tableIn (off := 362) (tgt := 394) hx hb dL_law_32 (by rw [e5]; decide) (by rw [e5]; decide) (by rw [e5]; rfl) (by decide) ?_
        exact lcase_next C1 hK hN hi1 hi2 hi3 hi4 hst_next hnx X M hI H locs hP hD hS ls hl
      by_cases e6 : z = (6 : Int32)
      · refine lv_tableIn (off := 442) (tgt := 474) hx hb dL_law_32 (by rw [e6]; decide) (by rw [e6]; decide) (by rw [e6]; rfl) (by decide) ?_
        exact lcase_part C1 hK hN hi1 hi2 hi3 hi4 hst_part hnx X M hI H locs hP hD hS ls hl
      by_cases e7 : z = (7 : Int32)
      · refine lv_tableIn (off := 495) (tgt := 527) hx hb dL_law_32 (by rw [e7]; decide) (by rw [e7]; decide) (by rw [e7]; rfl) (by decide) ?_
        exact lcase_parts C1 hK hN hi1 hi2 hi3 hi4 hst_parts hnx X M hI H locs hP hD hS ls hl
      by_cases e8 : z = (8 : Int32)
      · refine lv_tableIn (off := 529) (tgt := 561) hx hb dL_law_32 (by rw [e8]; decide) (by rw [e8]; decide) (by rw [e8]; rfl) (by decide) ?_
        exact lcase_parted C1 hK hN hi1 hi2 hi3 hi4 hst_parted hnx X M hI H locs hP hD hS ls hl
      by_cases e9 : z = (9 : Int32)
      · refine lv_tableIn (off := 553) (tgt := 585) hx hb dL_law_32 (by rw [e9]; decide) (by rw [e9]; decide) (by rw [e9]; rfl) (by decide) ?_
        exact lcase_without C1 hK hN hi1 hi2 hi3 hi4 hst_without hnx X M hI H locs hP hD hS ls hl
      by_cases e10 : z = (10 : Int32)
      · refine lv_tableIn (off := 607) (tgt := 639) hx hb dL_law_32 (by rw [e10]; decide) (by rw [e10]; decide) (by rw [e10]; rfl) (by decide) ?_
        exact lcase_count C1 hK hN hi1 hi2 hi3 hi4 hst_count hnx X M hI H locs hP hD hS ls hl
      by_cases e11 : z = (11 : Int32)
      · refine lv_tableIn (off := 630) (tgt := 662) hx hb dL_law_32 (by rw [e11]; decide) (by rw [e11]; decide) (by rw [e11]; rfl) (by decide) ?_
        exact lcase_sum C1 hK hN hi1 hi2 hi3 hi4 hst_sum hnx X M hI H locs hP hD hS ls hl
      by_cases e12 : z = (12 : Int32)
      · refine lv_tableIn (off := 654) (tgt := 686) hx hb dL_law_32 (by rw [e12]; decide) (by rw [e12]; decide) (by rw [e12]; rfl) (by decide) ?_
        exact lcase_among C1 hK hN hi1 hi2 hi3 hi4 hst_among hnx X M hI H locs hP hD hS ls hl
      by_cases e13 : z = (13 : Int32)
      · refine lv_tableIn (off := 697) (tgt := 729) hx hb dL_law_32 (by rw [e13]; decide) (by rw [e13]; decide) (by rw [e13]; rfl) (by decide) ?_
        exact lcase_floors C1 hK hN hi1 hi2 hi3 hi4 hst_floors hnx X M hI H locs hP hD hS ls hl
      by_cases e14 : z = (14 : Int32)
      · refine lv_tableIn (off := 751) (tgt := 783) hx hb dL_law_32 (by rw [e14]; decide) (by rw [e14]; decide) (by rw [e14]; rfl) (by decide) ?_
        exact lcase_points C1 hK hN hi1 hi2 hi3 hi4 hst_points hnx X M hI H locs hP hD hS ls hl
      by_cases e15 : z = (15 : Int32)
      · refine lv_tableIn (off := 805) (tgt := 837) hx hb dL_law_32 (by rw [e15]; decide) (by rw [e15]; decide) (by rw [e15]; rfl) (by decide) ?_
        exact lcase_rule C1 hK hN hi1 hi2 hi3 hi4 hst_rule hnx X M hI H locs hP hD hS ls hl
      by_cases e16 : z = (16 : Int32)
      · refine lv_tableIn (off := 828) (tgt := 860) hx hb dL_law_32 (by rw [e16]; decide) (by rw [e16]; decide) (by rw [e16]; rfl) (by decide) ?_
        exact lcase_sheet C1 hK hN hi1 hi2 hi3 hi4 hst_sheet hnx X M hI H locs hP hD hS ls hl
      by_cases e17 : z = (17 : Int32)
      · refine lv_tableIn (off := 841) (tgt := 873) hx hb dL_law_32 (by rw [e17]; decide) (by rw [e17]; decide) (by rw [e17]; rfl) (by decide) ?_
        exact lcase_tell C1 hK hN hi1 hi2 hi3 hi4 hst_tell hnx X M hI H locs hP hD hS ls hl
      by_cases e18 : z = (18 : Int32)
      · refine lv_tableIn (off := 914) (tgt := 946) hx hb dL_law_32 (by rw [e18]; decide) (by rw [e18]; decide) (by rw [e18]; rfl) (by decide) ?_
        exact lcase_product C1 hK hN hi1 hi2 hi3 hi4 hst_product hnx X M hI H locs hP hD hS ls hl
      by_cases e19 : z = (19 : Int32)
      · refine lv_tableIn (off := 947) (tgt := 979) hx hb dL_law_32 (by rw [e19]; decide) (by rw [e19]; decide) (by rw [e19]; rfl) (by decide) ?_
        exact lcase_turned C1 hK hN hi1 hi2 hi3 hi4 hst_turned hnx X M hI H locs hP hD hS ls hl
      by_cases e20 : z = (20 : Int32)
      · refine lv_tableIn (off := 970) (tgt := 1002) hx hb dL_law_32 (by rw [e20]; decide) (by rw [e20]; decide) (by rw [e20]; rfl) (by decide) ?_
        exact lcase_clear C1 hK hN hi1 hi2 hi3 hi4 hst_clear hnx X M hI H locs hP hD hS ls hl
      by_cases e21 : z = (21 : Int32)
      · refine lv_tableIn (off := 981) (tgt := 1013) hx hb dL_law_32 (by rw [e21]; decide) (by rw [e21]; decide) (by rw [e21]; rfl) (by decide) ?_
        exact lcase_at C1 hK hN hi1 hi2 hi3 hi4 hst_at hnx X M hI H locs hP hD hS ls hl
      by_cases e22 : z = (22 : Int32)
      · refine lv_tableIn (off := 1015) (tgt := 1047) hx hb dL_law_32 (by rw [e22]; decide) (by rw [e22]; decide) (by rw [e22]; rfl) (by decide) ?_
        exact lcase_sumOf C1 hK hN hi1 hi2 hi3 hi4 hst_sumOf hnx X M hI H locs hP hD hS ls hl
      by_cases e23 : z = (23 : Int32)
      · refine lv_tableIn (off := 1049) (tgt := 1081) hx hb dL_law_32 (by rw [e23]; decide) (by rw [e23]; decide) (by rw [e23]; rfl) (by decide) ?_
        exact lcase_same C1 hK hN hi1 hi2 hi3 hi4 hst_same hnx X M hI H locs hP hD hS ls hl
      by_cases e24 : z = (24 : Int32)
      · refine lv_tableIn (off := 1082) (tgt := 1114) hx hb dL_law_32 (by rw [e24]; decide) (by rw [e24]; decide) (by rw [e24]; rfl) (by decide) ?_
        exact lcase_far C1 hK hN hi1 hi2 hi3 hi4 hst_far hnx X M hI H locs hP hD hS ls hl
      by_cases e25 : z = (25 : Int32)
      · refine lv_tableIn (off := 1126) (tgt := 1158) hx hb dL_law_32 (by rw [e25]; decide) (by rw [e25]; decide) (by rw [e25]; rfl) (by decide) ?_
        exact lcase_about C1 hK hN hi1 hi2 hi3 hi4 hst_about hnx X M hI H locs hP hD hS ls hl
      have t0 : z.toInt ≠ 0 := fun q => e0 (Int32.toInt_inj.mp (q.trans (by decide)))
      have t1 : z.toInt ≠ 1 := fun q => e1 (Int32.toInt_inj.mp (q.trans (by decide)))
      have t2 : z.toInt ≠ 2 := fun q => e2 (Int32.toInt_inj.mp (q.trans (by decide)))
      have t3 : z.toInt ≠ 3 := fun q => e3 (Int32.toInt_inj.mp (q.trans (by decide)))
      have t4 : z.toInt ≠ 4 := fun q => e4 (Int32.toInt_inj.mp (q.trans (by decide)))
      have t5 : z.toInt ≠ 5 := fun q => e5 (Int32.toInt_inj.mp (q.trans (by decide)))
      have t6 : z.toInt ≠ 6 := fun q => e6 (Int32.toInt_inj.mp (q.trans (by decide)))
      have t7 : z.toInt ≠ 7 := fun q => e7 (Int32.toInt_inj.mp (q.trans (by decide)))
      have t8 : z.toInt ≠ 8 := fun q => e8 (Int32.toInt_inj.mp (q.trans (by decide)))
      have t9 : z.toInt ≠ 9 := fun q => e9 (Int32.toInt_inj.mp (q.trans (by decide)))
      have t10 : z.toInt ≠ 10 := fun q => e10 (Int32.toInt_inj.mp (q.trans (by decide)))
      have t11 : z.toInt ≠ 11 := fun q => e11 (Int32.toInt_inj.mp (q.trans (by decide)))
      have t12 : z.toInt ≠ 12 := fun q => e12 (Int32.toInt_inj.mp (q.trans (by decide)))
      have t13 : z.toInt ≠ 13 := fun q => e13 (Int32.toInt_inj.mp (q.trans (by decide)))
      have t14 : z.toInt ≠ 14 := fun q => e14 (Int32.toInt_inj.mp (q.trans (by decide)))
      have t15 : z.toInt ≠ 15 := fun q => e15 (Int32.toInt_inj.mp (q.trans (by decide)))
      have t16 : z.toInt ≠ 16 := fun q => e16 (Int32.toInt_inj.mp (q.trans (by decide)))
      have t17 : z.toInt ≠ 17 := fun q => e17 (Int32.toInt_inj.mp (q.trans (by decide)))
      have t18 : z.toInt ≠ 18 := fun q => e18 (Int32.toInt_inj.mp (q.trans (by decide)))
      have t19 : z.toInt ≠ 19 := fun q => e19 (Int32.toInt_inj.mp (q.trans (by decide)))
      have t20 : z.toInt ≠ 20 := fun q => e20 (Int32.toInt_inj.mp (q.trans (by decide)))
      have t21 : z.toInt ≠ 21 := fun q => e21 (Int32.toInt_inj.mp (q.trans (by decide)))
      have t22 : z.toInt ≠ 22 := fun q => e22 (Int32.toInt_inj.mp (q.trans (by decide)))
      have t23 : z.toInt ≠ 23 := fun q => e23 (Int32.toInt_inj.mp (q.trans (by decide)))
      have t24 : z.toInt ≠ 24 := fun q => e24 (Int32.toInt_inj.mp (q.trans (by decide)))
      have t25 : z.toInt ≠ 25 := fun q => e25 (Int32.toInt_inj.mp (q.trans (by decide)))
      refine lv_tableOut (tgt := 1181) hx hb dL_law_32 (by omega) (by decide) ?_
      exact hnx X M hI H locs hP hD hS ls hl
theorem arr_of {ty : FieldType} {args : Array Value} {s : State} (h : (Cond.arrayClass ty).before args s = true) : ∃ cA : ClassId, ArrOfT s cA ty ∧ s.vm.findClass ("[" ++ ty.toString) = some cA := by
  obtain ⟨cA, kA, comp, h1, h2, h3⟩ := Cond.arrayClass_spec h
  exact ⟨cA, fun n z => ⟨fun k h => (by cases h), kA, h2, comp, h3⟩, h1⟩
set_option maxHeartbeats 4000000 in
set_option maxRecDepth 100000 in
theorem law_start {p : Program} {e : Env} {s : State} {m : MethodId} {below : List Frame} {meth : Method} {c : Code} (l : Launch) {b L : Nat} {xs : Nat → Int32} (hL : L ≤ 2560) (C0 : lw_At p s m meth c b L xs) {Inv : XC_ → MC_ → Prop} (hst_span : st_span Inv) (hst_least : st_least Inv) (hst_spanned : st_spanned Inv) (hst_smooth : st_smooth Inv) (hst_prime : st_prime Inv) (hst_next : st_next Inv) (hst_part : st_part Inv) (hst_parts : st_parts Inv) (hst_parted : st_parted Inv) (hst_without : st_without Inv) (hst_count : st_count Inv) (hst_sum : st_sum Inv) (hst_among : st_among Inv) (hst_floors : st_floors Inv) (hst_points : st_points Inv) (hst_rule : st_rule Inv) (hst_sheet : st_sheet Inv) (hst_tell : st_tell Inv) (hst_product : st_product Inv) (hst_turned : st_turned Inv) (hst_clear : st_clear Inv) (hst_at : st_at Inv) (hst_sumOf : st_sumOf Inv) (hst_same : st_same Inv) (hst_far : st_far Inv) (hst_about : st_about Inv) (hi8 : wp_X8_init True) (hi9 : wp_X9_init (fun n0 n1 n2 n3 n4 n5 n6 n7 n8 n9 n10 n11 n12 n13 n14 n15 n16 n17 n18 => Inv (none, none, none, none, none, none) (n0, n1, n2, n3, n4, n5, n6, n7, n8, n9, n10, n11, n12, n13, n14, n15, n16, n17, n18))) : W p l e room_1 s m #[Value.ref b] below meth c s.heap [] 0 0 (lw_Z below #[Value.ref b] s) (entryFrame m ([Value.ref b] : List Value).toArray 4) := by
  have C1 := C0
  obtain ⟨hx, hb, hr, hml, hown, hts, hX, hbl, hlocks, hgv⟩ := C0
  replace hts := fun w h => hts w (wsL_law_in w h)
  have hA : ∀ q : Nat, s.heap.size ≤ q → (fun q : Nat => s.heap.size ≤ q) q := fun _ h => h
  have hbA : ¬ (fun q : Nat => s.heap.size ≤ q) b := Nat.not_le.mpr hbl
  have hts0 := C1.2.2.2.2.2.1
  have hown : s.vm.findClass RL = some m.cls := hown
  obtain ⟨cX0, iX0, hKnX0⟩ := u_known (C := RX0) (T := TX0) (N := 1) (n := 1) hts0 inX0 (hts (.instantiable RX0 1) (by decide +kernel))
  obtain ⟨cX1, iX1, hKnX1⟩ := u_known (C := RX1) (T := TX1) (N := 4) (n := 4) hts0 inX1 (hts (.instantiable RX1 4) (by decide +kernel))
  obtain ⟨cX2, iX2, hKnX2⟩ := u_known (C := RX2) (T := TX2) (N := 2) (n := 2) hts0 inX2 (hts (.instantiable RX2 2) (by decide +kernel))
  obtain ⟨cX3, iX3, hKnX3⟩ := u_known (C := RX3) (T := TX3) (N := 2) (n := 2) hts0 inX3 (hts (.instantiable RX3 2) (by decide +kernel))
  obtain ⟨cX4, iX4, hKnX4⟩ := u_known (C := RX4) (T := TX4) (N := 1) (n := 1) hts0 inX4 (hts (.instantiable RX4 1) (by decide +kernel))
  obtain ⟨cX5, iX5, hKnX5⟩ := u_known (C := RX5) (T := TX5) (N := 2) (n := 2) hts0 inX5 (hts (.instantiable RX5 2) (by decide +kernel))
  obtain ⟨cX6, iX6, hKnX6⟩ := u_known (C := RX6) (T := TX6) (N := 10) (n := 10) hts0 inX6 (hts (.instantiable RX6 10) (by decide +kernel))
  obtain ⟨cX8, iX8, hKnX8⟩ := u_known (C := RX8) (T := TX8) (N := 6) (n := 6) hts0 inX8 (hts (.instantiable RX8 6) (by decide +kernel))
  obtain ⟨cX9, iX9, hKnX9⟩ := u_known (C := RX9) (T := TX9) (N := 19) (n := 19) hts0 inX9 (hts (.instantiable RX9 19) (by decide +kernel))
  obtain ⟨dC, dI, hKc⟩ : ∃ (dC : Nat → ClassId) (dI : Nat → Nat → Nat), ∀ (k : Nat) (q : vw_C), vwCl[k]? = some q → u_Kn s q.1 q.2.1 q.2.2 (dC k) (dI k) := by
    refine ⟨fun k => match k with | 0 => cX0 | 1 => cX1 | 2 => cX2 | 3 => cX3 | 4 => cX4 | 5 => cX5 | 6 => cX6 | 7 => cX8 | _ => cX9, fun k => match k with | 0 => iX0 | 1 => iX1 | 2 => iX2 | 3 => iX3 | 4 => iX4 | 5 => iX5 | 6 => iX6 | 7 => iX8 | _ => iX9, ?_⟩
    intro k q hq
    match k, hq with
    | 0, hq => cases hq; exact hKnX0
    | 1, hq => cases hq; exact hKnX1
    | 2, hq => cases hq; exact hKnX2
    | 3, hq => cases hq; exact hKnX3
    | 4, hq => cases hq; exact hKnX4
    | 5, hq => cases hq; exact hKnX5
    | 6, hq => cases hq; exact hKnX6
    | 7, hq => cases hq; exact hKnX8
    | 8, hq => cases hq; exact hKnX9
    | k + 9, hq => simp [vwCl] at hq
  obtain ⟨cI, hI1, hI2⟩ := arr_of (hts (.arrayClass .int) (by decide +kernel))
  obtain ⟨cJ, hJ1, hJ2⟩ := arr_of (hts (.arrayClass .long) (by decide +kernel))
  obtain ⟨cZ, hZ1, hZ2⟩ := arr_of (hts (.arrayClass .boolean) (by decide +kernel))
  have hK : va_K (dC, dI) vwCl (tys_ cI cJ cZ) s := by
    refine ⟨hKc, fun k q h => ?_⟩
    match k, h with
    | 0, h => cases h; exact ⟨hI1, hI2⟩
    | 1, h => cases h; exact ⟨hJ1, hJ2⟩
    | 2, h => cases h; exact ⟨hZ1, hZ2⟩
    | k + 3, h => simp [tys_] at h
  have hN : nw_ s := ⟨va_Nw.of rfl (hts0 (.fieldLinkNest "NumberSieves" 43 "NumberSieves$Span" "many" "I" "NumberSieves") (by decide +kernel)), va_Nw.of rfl (hts0 (.fieldLinkNest "NumberSieves" 26 "NumberSieves$Span" "primeCount" "I" "NumberSieves") (by decide +kernel)), va_Nw.of rfl (hts0 (.fieldLinkNest "NumberSieves" 34 "NumberSieves$Span" "gap" "I" "NumberSieves") (by decide +kernel)), va_Nw.of rfl (hts0 (.fieldLinkNest "NumberSieves" 37 "NumberSieves$Span" "twins" "I" "NumberSieves") (by decide +kernel)), va_Nw.of rfl (hts0 (.fieldLinkNest "NumberSieves" 40 "NumberSieves$Span" "squareFree" "I" "NumberSieves") (by decide +kernel)), va_Nw.of rfl (hts0 (.fieldLinkNest "NumberSieves$Parting" 25 "NumberSieves$Primes" "many" "I" "NumberSieves") (by decide +kernel)), va_Nw.of rfl (hts0 (.fieldLinkNest "NumberSieves$Progression" 33 "NumberSieves$Primes" "many" "I" "NumberSieves") (by decide +kernel)), va_Nw.of rfl (hts0 (.fieldLinkNest "NumberSieves$Span" 50 "NumberSieves$Primes" "many" "I" "NumberSieves") (by decide +kernel)), va_Nw.of rfl (hts0 (.fieldLinkNest "NumberSieves" 88 "NumberSieves$Parting" "number" "J" "NumberSieves") (by decide +kernel)), va_Nw.of rfl (hts0 (.fieldLinkNest "NumberSieves" 80 "NumberSieves$Parting" "many" "I" "NumberSieves") (by decide +kernel)), va_Nw.of rfl (hts0 (.fieldLinkNest "NumberSieves" 175 "NumberSieves$Rows" "many" "I" "NumberSieves") (by decide +kernel))⟩
  have hS : va_S (fun q : Nat => s.heap.size ≤ q) s.heap s.heap [] := va_S.rf
  have hP : va_P (dC, dI) vwCl [] s.heap := fun k q h => by simp at h
  have hD : va_D (fun q : Nat => s.heap.size ≤ q) [] := ⟨fun i j p q h => by simp at h, fun k q h => by simp at h⟩
  have hl := lv_entry ([.ref b]) (n := 4) (Nat.le_of_ble_eq_true rfl)
  rw [lg_entry_eq]
  generalize (lg_sl ([.ref b]) ++ List.replicate (4 - (lg_sl ([.ref b])).length) Slot.unset).toArray = ls at hl ⊢
  have hl : lv_has ls 4 [(0, .ref b)] := hl
  refine va_new (ci := 7) (fs := [.null, .null, .null, .null, .null, .null]) (C := RX8) (T := TX8) (N := 6) hx hb hts inlX8 tyX8 tyX8_ok hown (hts (.classLink RL 7 RX8) (by decide +kernel)) (hts (.instantiable RX8 6) (by decide +kernel)) (hts (.initialized RX8) (by decide +kernel)) hK hP hD hS hA rfl (by decide +kernel) (Nat.le_of_ble_eq_true rfl) (Nat.le_of_ble_eq_true rfl) dL_law_0 (fun h0 H hP hD hS => ?_)
  have hP : va_P (dC, dI) vwCl [(h0, .inr (7, [.null, .null, .null, .null, .null, .null]))] H := hP
  have hD : va_D (fun q : Nat => s.heap.size ≤ q) [(h0, .inr (7, [.null, .null, .null, .null, .null, .null]))] := hD
  refine W.widen (k := 1) (n := 6) (by omega) (by omega) ?_
  refine lv_dup hx hb dL_law_3 rfl ?_
  have hFc := va_free (wc := [(h0, .inr (7, [.null, .null, .null, .null, .null, .null]))]) hD hS hA [0] rfl
  refine va_callv (va_runI (As := []) (rest := [.ref h0]) ⟨hx, hb, hml, hown, hts⟩ (c_X8_init l dC dI cI cJ cZ _ h0 _ hi8) (cwI 0 hts gL_law_X8_init rfl rfl rfl (hts (.initialized RX8) (by decide +kernel)) (hts (.methodLink RL 9 yX8_init) (by decide +kernel)) (hts (.instanceMethod yX8_init) (by decide +kernel)) rfl (by decide +kernel) ⟨Nat.le_of_ble_eq_true rfl, Nat.le_of_ble_eq_true rfl⟩) ⟨pre_fb, pre_of hP hD hK hN⟩ rfl rfl hl.1 rfl (lv_room (Nat.le_of_ble_eq_true rfl)) dL_law_4 ⟨Nat.le_of_ble_eq_true rfl, Nat.le_of_ble_eq_true rfl⟩) hS (fun q _ h => hFc q h) hFc (fun u t H1 locs ht hvm h hB hz1 hk1 hS => ?_)
  obtain ⟨hP1, hD1⟩ := hB
  rw [ht] at hP1
  obtain ⟨hP, hD⟩ := va_join (wr := []) (w1 := [(h0, .inr (7, [.null, .null, .null, .null, .null, .null]))]) hP hD [0] [] rfl rfl (by decide) (by decide) hk1 hFc hP1 hD1
  generalize H1 = H at hP hS ⊢
  have hP : va_P (dC, dI) vwCl [(h0, .inr (7, [.null, .null, .null, .null, .null, .null]))] H := hP
  have hD : va_D (fun q : Nat => s.heap.size ≤ q) [(h0, .inr (7, [.null, .null, .null, .null, .null, .null]))] := hD
  refine W.widen (k := 1) (n := 6) (by omega) (by omega) ?_
  refine lv_astore_n (lv' := [(1, .ref h0), (0, .ref b)]) hx hb dL_law_7 rfl hl (by decide) rfl (fun ls hl => ?_)
  refine va_new (ci := 8) (fs := [.int 0, .null, .null, .int 0, .long 0, .int 0, .null, .null, .null, .int 0, .long 0, .int 0, .null, .null, .int 0, .null, .long 0, .long 0, .int 0]) (C := RX9) (T := TX9) (N := 19) hx hb hts inlX9 tyX9 tyX9_ok hown (hts (.classLink RL 10 RX9) (by decide +kernel)) (hts (.instantiable RX9 19) (by decide +kernel)) (hts (.initialized RX9) (by decide +kernel)) hK hP hD hS hA rfl (by decide +kernel) (Nat.le_of_ble_eq_true rfl) (Nat.le_of_ble_eq_true rfl) dL_law_8 (fun h1 H hP hD hS => ?_)
  have hP : va_P (dC, dI) vwCl [(h0, .inr (7, [.null, .null, .null, .null, .null, .null])), (h1, .inr (8, [.int 0, .null, .null, .int 0, .long 0, .int 0, .null, .null, .null, .int 0, .long 0, .int 0, .null, .null, .int 0, .null, .long 0, .long 0, .int 0]))] H := hP
  have hD : va_D (fun q : Nat => s.heap.size ≤ q) [(h0, .inr (7, [.null, .null, .null, .null, .null, .null])), (h1, .inr (8, [.int 0, .null, .null, .int 0, .long 0, .int 0, .null, .null, .null, .int 0, .long 0, .int 0, .null, .null, .int 0, .null, .long 0, .long 0, .int 0]))] := hD
  refine W.widen (k := 2) (n := 25) (by omega) (by omega) ?_
  refine lv_dup hx hb dL_law_11 rfl ?_
  have hPc := hP.sub (ws' := [(h1, .inr (8, [.int 0, .null, .null, .int 0, .long 0, .int 0, .null, .null, .null, .int 0, .long 0, .int 0, .null, .null, .int 0, .null, .long 0, .long 0, .int 0]))]) [1] rfl
  have hDc := hD.sub (ws' := [(h1, .inr (8, [.int 0, .null, .null, .int 0, .long 0, .int 0, .null, .null, .null, .int 0, .long 0, .int 0, .null, .null, .int 0, .null, .long 0, .long 0, .int 0]))]) [1] (by decide) rfl
  have hFc := va_free (wc := [(h1, .inr (8, [.int 0, .null, .null, .int 0, .long 0, .int 0, .null, .null, .null, .int 0, .long 0, .int 0, .null, .null, .int 0, .null, .long 0, .long 0, .int 0]))]) hD hS hA [1] rfl
  refine va_callv (va_runI (As := []) (rest := [.ref h1]) ⟨hx, hb, hml, hown, hts⟩ (c_X9_init l dC dI cI cJ cZ _ h1 _ hi9) (cwI 0 hts gL_law_X9_init rfl rfl rfl (hts (.initialized RX9) (by decide +kernel)) (hts (.methodLink RL 12 yX9_init) (by decide +kernel)) (hts (.instanceMethod yX9_init) (by decide +kernel)) rfl (by decide +kernel) ⟨Nat.le_of_ble_eq_true rfl, Nat.le_of_ble_eq_true rfl⟩) ⟨pre_fb, pre_of hPc hDc hK hN⟩ rfl rfl hl.1 rfl (lv_room (Nat.le_of_ble_eq_true rfl)) dL_law_12 ⟨Nat.le_of_ble_eq_true rfl, Nat.le_of_ble_eq_true rfl⟩) hS (fun q _ h => hFc q h) hFc (fun u t H1 locs ht hvm h hB hz1 hk1 hS => ?_)
  obtain ⟨q0, q1, q2, q3, q4, q5, q6, q7, n0, n1, n2, n3, n4, n5, n6, n7, n8, n9, n10, n11, n12, n13, n14, n15, n16, n17, n18⟩ := u
  obtain ⟨hP1, hD1⟩ := hB
  rw [ht] at hP1
  try dsimp only at h
  obtain ⟨hP, hD⟩ := va_join (wr := [(h0, .inr (7, [.null, .null, .null, .null, .null, .null]))]) (w1 := mcells cI cJ cZ h1 (q0, q1, q2, q3, q4, q5, q6, q7) (n0, n1, n2, n3, n4, n5, n6, n7, n8, n9, n10, n11, n12, n13, n14, n15, n16, n17, n18)) hP hD [1] [0] rfl rfl (by decide) (by decide) hk1 hFc hP1 hD1
  generalize H1 = H at hP hS ⊢
  refine W.widen (k := 10 + cc_ (none, none, none, none, none, none)) (n := 2034266 + cs_ (none, none, none, none, none, none)) (Nat.le_of_ble_eq_true rfl) (Nat.le_of_ble_eq_true rfl) ?_
  refine lv_astore_n (lv' := [(2, .ref h1), (1, .ref h0), (0, .ref b)]) hx hb dL_law_15 rfl hl (by decide) rfl (fun ls hl => ?_)
  refine lv_iconst (v := (0 : Int32)) hx hb dL_law_16 (by decide) ?_
  refine lv_istore_n (lv' := [(3, .int (0 : Int32)), (2, .ref h1), (1, .ref h0), (0, .ref b)]) hx hb dL_law_17 rfl hl (by decide) rfl (fun ls hl => ?_)
  exact law_loop hL C1 hK hN hst_span hst_least hst_spanned hst_smooth hst_prime hst_next hst_part hst_parts hst_parted hst_without hst_count hst_sum hst_among hst_floors hst_points hst_rule hst_sheet hst_tell hst_product hst_turned hst_clear hst_at hst_sumOf hst_same hst_far hst_about (L + 6) 0 (by omega) (by omega) (none, none, none, none, none, none) _ h _ _ hP hD hS ls (lv_sub hl [3, 2, 1, 0] rfl)

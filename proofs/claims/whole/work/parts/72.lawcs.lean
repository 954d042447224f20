set_option maxHeartbeats 4000000 in
set_option maxRecDepth 100000 in
theorem lcase_span {p : Program} {l : Launch} {e : Env} {s : State} {m : MethodId} {below : List Frame} {meth : Method} {c : Code} {dC : Nat → ClassId} {dI : Nat → Nat → Nat} {cI cJ cZ : ClassId} {b h0 h1 : Nat} {qs : AM_} {Inv : XC_ → MC_ → Prop} {L : Nat} {xs : Nat → Int32} (C0 : lw_At p s m meth c b L xs) (hK : va_K (dC, dI) vwCl (tys_ cI cJ cZ) s) (hN : nw_ s) {i : Int32} (hi1 : vp_in (i + (1 : Int32)) L) (hi2 : vp_in (i + (2 : Int32)) L) (hi3 : vp_in (i + (3 : Int32)) L) (hi4 : vp_in (i + (4 : Int32)) L) (hst : st_span Inv) (hnx : law_at p l e s m below meth c dC dI cI cJ cZ b h0 h1 qs Inv 1181 i) : law_at p l e s m below meth c dC dI cI cJ cZ b h0 h1 qs Inv 152 i := by
  obtain ⟨hx, hb, hr, hml, hown, hts, hX, hbl, hlocks, hgv⟩ := C0
  replace hts := fun w h => hts w (wsL_law_in w h)
  have hA : ∀ q : Nat, s.heap.size ≤ q → (fun q : Nat => s.heap.size ≤ q) q := fun _ h => h
  have hbA : ¬ (fun q : Nat => s.heap.size ≤ q) b := Nat.not_le.mpr hbl
  have hown : s.vm.findClass RL = some m.cls := hown
  intro X M hI H locs hP hD hS ls hl
  refine lv_aload_n hx hb dL_law_152 rfl (lv_at hl 1 rfl) ?_
  refine lv_aload_n hx hb dL_law_153 rfl (lv_at hl 0 rfl) ?_
  refine lv_iload_n hx hb dL_law_154 rfl (lv_at hl 3 rfl) ?_
  refine lv_iconst (v := (1 : Int32)) hx hb dL_law_155 (by decide) ?_
  refine lv_iadd hx hb dL_law_156 ?_
  refine va_sld hx hb hX hbl hbA hS hi1 dL_law_157 ?_
  refine lv_i2l hx hb dL_law_158 rfl ?_
  refine lv_bipush (v := (32 : Int32)) hx hb dL_law_159 (by decide) ?_
  refine lv_lshl hx hb dL_law_161 rfl ?_
  refine lv_aload_n hx hb dL_law_162 rfl (lv_at hl 0 rfl) ?_
  refine lv_iload_n hx hb dL_law_163 rfl (lv_at hl 3 rfl) ?_
  refine lv_iconst (v := (2 : Int32)) hx hb dL_law_164 (by decide) ?_
  refine lv_iadd hx hb dL_law_165 ?_
  refine va_sld hx hb hX hbl hbA hS hi2 dL_law_166 ?_
  refine lv_i2l hx hb dL_law_167 rfl ?_
  refine lv_ldc2 hx hb hown (hts (.constantLong RL 13 (4294967295)) (by decide +kernel)) dL_law_168 ?_
  refine lv_land hx hb dL_law_171 ?_
  refine lv_lor hx hb dL_law_172 ?_
  refine lv_aload_n hx hb dL_law_173 rfl (lv_at hl 0 rfl) ?_
  refine lv_iload_n hx hb dL_law_174 rfl (lv_at hl 3 rfl) ?_
  refine lv_iconst (v := (3 : Int32)) hx hb dL_law_175 (by decide) ?_
  refine lv_iadd hx hb dL_law_176 ?_
  refine va_sld hx hb hX hbl hbA hS hi3 dL_law_177 ?_
  obtain ⟨mc, ms, hmc, hms, h⟩ := hst (xc_ X) M (((xs (i + (1 : Int32)).toNatClampNeg).toInt64 <<< ((32 : Int32).toInt64 &&& 63)) ||| ((xs (i + (2 : Int32)).toNatClampNeg).toInt64 &&& (4294967295 : Int64))) (xs (i + (3 : Int32)).toNatClampNeg) hI
  have hPx := P_left hP
  have hDx := D_left hD
  have hFx := F_left hD hS hA
  have b1 := cc__le (xc_ X)
  have b2 := cs__le (xc_ X)
  refine va_calli (va_runV (As := [.long (((xs (i + (1 : Int32)).toNatClampNeg).toInt64 <<< ((32 : Int32).toInt64 &&& 63)) ||| ((xs (i + (2 : Int32)).toNatClampNeg).toInt64 &&& (4294967295 : Int64))), .int (xs (i + (3 : Int32)).toNatClampNeg)]) (rest := []) ⟨hx, hb, hml, hown, hts⟩ (cx_span l dC dI cI cJ cZ _ h0 mc ms X (((xs (i + (1 : Int32)).toNatClampNeg).toInt64 <<< ((32 : Int32).toInt64 &&& 63)) ||| ((xs (i + (2 : Int32)).toNatClampNeg).toInt64 &&& (4294967295 : Int64))) (xs (i + (3 : Int32)).toNatClampNeg) _ h) (cwV 2 hts gL_law_X8_span rfl rfl rfl (by decide +kernel) ⟨Nat.le_of_ble_eq_true rfl, Nat.le_of_ble_eq_true rfl⟩) ⟨pre_fb, va_recv hK hPx (ci := 7) (q0 := 0) rfl rfl, pre_of hPx hDx hK hN⟩ rfl rfl hl.1 rfl (lv_room (Nat.le_of_ble_eq_true rfl)) dL_law_178 ⟨(by show _ ≤ 600000; omega), (by show _ ≤ 7302250; omega)⟩) hS (fun q _ h => hFx q h) hFx (fun r X2 t H1 locs ht hvm h hB hz1 hk1 hS => ?_)
  obtain ⟨hP1, hD1⟩ := hB
  rw [ht] at hP1
  obtain ⟨hP, hD⟩ := frame2 hP hD hk1 hFx hP1 hD1
  generalize H1 = H at hP hS ⊢
  obtain ⟨hc1, hc2, h⟩ := h
  refine W.widen (k := 10 + cc_ (xc_ X2)) (n := 2034266 + cs_ (xc_ X2)) (by omega) (by omega) ?_
  refine lv_aload_n hx hb dL_law_181 rfl (lv_at hl 2 rfl) ?_
  refine lv_aload_n hx hb dL_law_182 rfl (lv_at hl 0 rfl) ?_
  refine lv_iload_n hx hb dL_law_183 rfl (lv_at hl 3 rfl) ?_
  refine lv_iconst (v := (1 : Int32)) hx hb dL_law_184 (by decide) ?_
  refine lv_iadd hx hb dL_law_185 ?_
  refine va_sld hx hb hX hbl hbA hS hi1 dL_law_186 ?_
  refine lv_i2l hx hb dL_law_187 rfl ?_
  refine lv_bipush (v := (32 : Int32)) hx hb dL_law_188 (by decide) ?_
  refine lv_lshl hx hb dL_law_190 rfl ?_
  refine lv_aload_n hx hb dL_law_191 rfl (lv_at hl 0 rfl) ?_
  refine lv_iload_n hx hb dL_law_192 rfl (lv_at hl 3 rfl) ?_
  refine lv_iconst (v := (2 : Int32)) hx hb dL_law_193 (by decide) ?_
  refine lv_iadd hx hb dL_law_194 ?_
  refine va_sld hx hb hX hbl hbA hS hi2 dL_law_195 ?_
  refine lv_i2l hx hb dL_law_196 rfl ?_
  refine lv_ldc2 hx hb hown (hts (.constantLong RL 13 (4294967295)) (by decide +kernel)) dL_law_197 ?_
  refine lv_land hx hb dL_law_200 ?_
  refine lv_lor hx hb dL_law_201 ?_
  refine lv_aload_n hx hb dL_law_202 rfl (lv_at hl 0 rfl) ?_
  refine lv_iload_n hx hb dL_law_203 rfl (lv_at hl 3 rfl) ?_
  refine lv_iconst (v := (3 : Int32)) hx hb dL_law_204 (by decide) ?_
  refine lv_iadd hx hb dL_law_205 ?_
  refine va_sld hx hb hX hbl hbA hS hi3 dL_law_206 ?_
  have hPm : va_P (dC, dI) vwCl [(h1, .inr (8, [.int M.1, .ref qs.1, .ref qs.2.1, .int M.2.2.2.1, .long M.2.2.2.2.1, .int M.2.2.2.2.2.1, .ref qs.2.2.1, .ref qs.2.2.2.1, .ref qs.2.2.2.2.1, .int M.2.2.2.2.2.2.2.2.2.1, .long M.2.2.2.2.2.2.2.2.2.2.1, .int M.2.2.2.2.2.2.2.2.2.2.2.1, .ref qs.2.2.2.2.2.1, .ref qs.2.2.2.2.2.2.1, .int M.2.2.2.2.2.2.2.2.2.2.2.2.2.2.1, .ref qs.2.2.2.2.2.2.2, .long M.2.2.2.2.2.2.2.2.2.2.2.2.2.2.2.2.1, .long M.2.2.2.2.2.2.2.2.2.2.2.2.2.2.2.2.2.1, .int M.2.2.2.2.2.2.2.2.2.2.2.2.2.2.2.2.2.2])), (qs.1, .inl (cI, 9592, .inl (M.2.1))), (qs.2.1, .inl (cZ, 2000001, .inl (M.2.2.1))), (qs.2.2.1, .inl (cJ, 5000, .inr (.inl (M.2.2.2.2.2.2.1)))), (qs.2.2.2.1, .inl (cJ, 5000, .inr (.inl (M.2.2.2.2.2.2.2.1)))), (qs.2.2.2.2.1, .inl (cZ, 5000, .inl (M.2.2.2.2.2.2.2.2.1))), (qs.2.2.2.2.2.1, .inl (cJ, 16, .inr (.inl (M.2.2.2.2.2.2.2.2.2.2.2.2.1)))), (qs.2.2.2.2.2.2.1, .inl (cI, 16, .inl (M.2.2.2.2.2.2.2.2.2.2.2.2.2.1))), (qs.2.2.2.2.2.2.2, .inl (cJ, 9616, .inr (.inl (M.2.2.2.2.2.2.2.2.2.2.2.2.2.2.2.1))))] H := P_right hP
  have hDm : va_D (fun q : Nat => s.heap.size ≤ q) [(h1, .inr (8, [.int M.1, .ref qs.1, .ref qs.2.1, .int M.2.2.2.1, .long M.2.2.2.2.1, .int M.2.2.2.2.2.1, .ref qs.2.2.1, .ref qs.2.2.2.1, .ref qs.2.2.2.2.1, .int M.2.2.2.2.2.2.2.2.2.1, .long M.2.2.2.2.2.2.2.2.2.2.1, .int M.2.2.2.2.2.2.2.2.2.2.2.1, .ref qs.2.2.2.2.2.1, .ref qs.2.2.2.2.2.2.1, .int M.2.2.2.2.2.2.2.2.2.2.2.2.2.2.1, .ref qs.2.2.2.2.2.2.2, .long M.2.2.2.2.2.2.2.2.2.2.2.2.2.2.2.2.1, .long M.2.2.2.2.2.2.2.2.2.2.2.2.2.2.2.2.2.1, .int M.2.2.2.2.2.2.2.2.2.2.2.2.2.2.2.2.2.2])), (qs.1, .inl (cI, 9592, .inl (M.2.1))), (qs.2.1, .inl (cZ, 2000001, .inl (M.2.2.1))), (qs.2.2.1, .inl (cJ, 5000, .inr (.inl (M.2.2.2.2.2.2.1)))), (qs.2.2.2.1, .inl (cJ, 5000, .inr (.inl (M.2.2.2.2.2.2.2.1)))), (qs.2.2.2.2.1, .inl (cZ, 5000, .inl (M.2.2.2.2.2.2.2.2.1))), (qs.2.2.2.2.2.1, .inl (cJ, 16, .inr (.inl (M.2.2.2.2.2.2.2.2.2.2.2.2.1)))), (qs.2.2.2.2.2.2.1, .inl (cI, 16, .inl (M.2.2.2.2.2.2.2.2.2.2.2.2.2.1))), (qs.2.2.2.2.2.2.2, .inl (cJ, 9616, .inr (.inl (M.2.2.2.2.2.2.2.2.2.2.2.2.2.2.2.1))))] := D_right hD
  have hFm : ∀ q, va_A [(h1, .inr (8, [.int M.1, .ref qs.1, .ref qs.2.1, .int M.2.2.2.1, .long M.2.2.2.2.1, .int M.2.2.2.2.2.1, .ref qs.2.2.1, .ref qs.2.2.2.1, .ref qs.2.2.2.2.1, .int M.2.2.2.2.2.2.2.2.2.1, .long M.2.2.2.2.2.2.2.2.2.2.1, .int M.2.2.2.2.2.2.2.2.2.2.2.1, .ref qs.2.2.2.2.2.1, .ref qs.2.2.2.2.2.2.1, .int M.2.2.2.2.2.2.2.2.2.2.2.2.2.2.1, .ref qs.2.2.2.2.2.2.2, .long M.2.2.2.2.2.2.2.2.2.2.2.2.2.2.2.2.1, .long M.2.2.2.2.2.2.2.2.2.2.2.2.2.2.2.2.2.1, .int M.2.2.2.2.2.2.2.2.2.2.2.2.2.2.2.2.2.2])), (qs.1, .inl (cI, 9592, .inl (M.2.1))), (qs.2.1, .inl (cZ, 2000001, .inl (M.2.2.1))), (qs.2.2.1, .inl (cJ, 5000, .inr (.inl (M.2.2.2.2.2.2.1)))), (qs.2.2.2.1, .inl (cJ, 5000, .inr (.inl (M.2.2.2.2.2.2.2.1)))), (qs.2.2.2.2.1, .inl (cZ, 5000, .inl (M.2.2.2.2.2.2.2.2.1))), (qs.2.2.2.2.2.1, .inl (cJ, 16, .inr (.inl (M.2.2.2.2.2.2.2.2.2.2.2.2.1)))), (qs.2.2.2.2.2.2.1, .inl (cI, 16, .inl (M.2.2.2.2.2.2.2.2.2.2.2.2.2.1))), (qs.2.2.2.2.2.2.2, .inl (cJ, 9616, .inr (.inl (M.2.2.2.2.2.2.2.2.2.2.2.2.2.2.2.1))))] H.size q → (fun q : Nat => s.heap.size ≤ q) q := F_right hD hS hA
  have b3 := cc__le (xc_ X2)
  have b4 := cs__le (xc_ X2)
  refine va_calli (va_runV (As := [.long (((xs (i + (1 : Int32)).toNatClampNeg).toInt64 <<< ((32 : Int32).toInt64 &&& 63)) ||| ((xs (i + (2 : Int32)).toNatClampNeg).toInt64 &&& (4294967295 : Int64))), .int (xs (i + (3 : Int32)).toNatClampNeg)]) (rest := [.int r]) ⟨hx, hb, hml, hown, hts⟩ (c_X9_span l dC dI cI cJ cZ _ h1 M.1 M.2.1 qs.1 M.2.2.1 qs.2.1 M.2.2.2.1 M.2.2.2.2.1 M.2.2.2.2.2.1 M.2.2.2.2.2.2.1 qs.2.2.1 M.2.2.2.2.2.2.2.1 qs.2.2.2.1 M.2.2.2.2.2.2.2.2.1 qs.2.2.2.2.1 M.2.2.2.2.2.2.2.2.2.1 M.2.2.2.2.2.2.2.2.2.2.1 M.2.2.2.2.2.2.2.2.2.2.2.1 M.2.2.2.2.2.2.2.2.2.2.2.2.1 qs.2.2.2.2.2.1 M.2.2.2.2.2.2.2.2.2.2.2.2.2.1 qs.2.2.2.2.2.2.1 M.2.2.2.2.2.2.2.2.2.2.2.2.2.2.1 M.2.2.2.2.2.2.2.2.2.2.2.2.2.2.2.1 qs.2.2.2.2.2.2.2 M.2.2.2.2.2.2.2.2.2.2.2.2.2.2.2.2.1 M.2.2.2.2.2.2.2.2.2.2.2.2.2.2.2.2.2.1 M.2.2.2.2.2.2.2.2.2.2.2.2.2.2.2.2.2.2 (((xs (i + (1 : Int32)).toNatClampNeg).toInt64 <<< ((32 : Int32).toInt64 &&& 63)) ||| ((xs (i + (2 : Int32)).toNatClampNeg).toInt64 &&& (4294967295 : Int64))) (xs (i + (3 : Int32)).toNatClampNeg) _ h) (cwV 2 hts gL_law_X9_span rfl rfl rfl (by decide +kernel) ⟨Nat.le_of_ble_eq_true rfl, Nat.le_of_ble_eq_true rfl⟩) ⟨pre_fb, va_recv hK hPm (ci := 8) (q0 := 0) rfl rfl, pre_of hPm hDm hK hN⟩ rfl rfl hl.1 rfl (lv_room (Nat.le_of_ble_eq_true rfl)) dL_law_207 ⟨(by show _ ≤ 600000; omega), (by show _ ≤ 7302250; omega)⟩) hS (fun q _ h => hFm q h) hFm (fun r2 u t H1 locs ht hvm h hB hz1 hk1 hS => ?_)
  obtain ⟨o0, o1, o2, o3, o4, o5, o6, o7, o8, o9, o10, o11⟩ := u
  obtain ⟨hP1, hD1⟩ := hB
  rw [ht] at hP1
  obtain ⟨hP, hD⟩ := frame2r (wr := xcells cI cJ cZ h0 X2) (wc := mcells cI cJ cZ h1 qs M) (w1 := mcells cI cJ cZ h1 qs (M.1, M.2.1, M.2.2.1, o0, o1, o2, o7, o8, o9, M.2.2.2.2.2.2.2.2.2.1, M.2.2.2.2.2.2.2.2.2.2.1, o3, o10, o11, M.2.2.2.2.2.2.2.2.2.2.2.2.2.2.1, M.2.2.2.2.2.2.2.2.2.2.2.2.2.2.2.1, o4, o5, o6)) hP hD hk1 hFm hP1 hD1
  generalize H1 = H at hP hS ⊢
  obtain ⟨hre, hI⟩ := h
  refine lv_icmp_eq (tgt := 1181) hx hb dL_law_210 (by decide) (fun c9 => ?_) (fun c9 => absurd hre c9)
  refine W.widen (k := 10 + cc_ (xc_ X2)) (n := 2034266 + cs_ (xc_ X2)) (by omega) (by omega) ?_
  exact hnx X2 (M.1, M.2.1, M.2.2.1, o0, o1, o2, o7, o8, o9, M.2.2.2.2.2.2.2.2.2.1, M.2.2.2.2.2.2.2.2.2.2.1, o3, o10, o11, M.2.2.2.2.2.2.2.2.2.2.2.2.2.2.1, M.2.2.2.2.2.2.2.2.2.2.2.2.2.2.2.1, o4, o5, o6) hI H locs hP hD hS ls hl
set_option maxHeartbeats 4000000 in
set_option maxRecDepth 100000 in
theorem lcase_least {p : Program} {l : Launch} {e : Env} {s : State} {m : MethodId} {below : List Frame} {meth : Method} {c : Code} {dC : Nat → ClassId} {dI : Nat → Nat → Nat} {cI cJ cZ : ClassId} {b h0 h1 : Nat} {qs : AM_} {Inv : XC_ → MC_ → Prop} {L : Nat} {xs : Nat → Int32} (C0 : lw_At p s m meth c b L xs) (hK : va_K (dC, dI) vwCl (tys_ cI cJ cZ) s) (hN : nw_ s) {i : Int32} (hi1 : vp_in (i + (1 : Int32)) L) (hi2 : vp_in (i + (2 : Int32)) L) (hi3 : vp_in (i + (3 : Int32)) L) (hi4 : vp_in (i + (4 : Int32)) L) (hst : st_least Inv) (hnx : law_at p l e s m below meth c dC dI cI cJ cZ b h0 h1 qs Inv 1181 i) : law_at p l e s m below meth c dC dI cI cJ cZ b h0 h1 qs Inv 215 i := by
  obtain ⟨hx, hb, hr, hml, hown, hts, hX, hbl, hlocks, hgv⟩ := C0
  replace hts := fun w h => hts w (wsL_law_in w h)
  have hA : ∀ q : Nat, s.heap.size ≤ q → (fun q : Nat => s.heap.size ≤ q) q := fun _ h => h
  have hbA : ¬ (fun q : Nat => s.heap.size ≤ q) b := Nat.not_le.mpr hbl
  have hown : s.vm.findClass RL = some m.cls := hown
  intro X M hI H locs hP hD hS ls hl
  refine lv_aload_n hx hb dL_law_215 rfl (lv_at hl 1 rfl) ?_
  refine lv_aload_n hx hb dL_law_216 rfl (lv_at hl 0 rfl) ?_
  refine lv_iload_n hx hb dL_law_217 rfl (lv_at hl 3 rfl) ?_
  refine lv_iconst (v := (1 : Int32)) hx hb dL_law_218 (by decide) ?_
  refine lv_iadd hx hb dL_law_219 ?_
  refine va_sld hx hb hX hbl hbA hS hi1 dL_law_220 ?_
  obtain ⟨mc, ms, hmc, hms, h⟩ := hst (xc_ X) M (xs (i + (1 : Int32)).toNatClampNeg) hI
  have hPx := P_left hP
  have hDx := D_left hD
  have hFx := F_left hD hS hA
  have b1 := cc__le (xc_ X)
  have b2 := cs__le (xc_ X)
  refine va_calll (va_runV (As := [.int (xs (i + (1 : Int32)).toNatClampNeg)]) (rest := []) ⟨hx, hb, hml, hown, hts⟩ (cx_least l dC dI cI cJ cZ _ h0 mc ms X (xs (i + (1 : Int32)).toNatClampNeg) _ h) (cwV 1 hts gL_law_X8_least rfl rfl rfl (by decide +kernel) ⟨Nat.le_of_ble_eq_true rfl, Nat.le_of_ble_eq_true rfl⟩) ⟨pre_fb, va_recv hK hPx (ci := 7) (q0 := 0) rfl rfl, pre_of hPx hDx hK hN⟩ rfl rfl hl.1 rfl (lv_room (Nat.le_of_ble_eq_true rfl)) dL_law_221 ⟨(by show _ ≤ 600000; omega), (by show _ ≤ 7302250; omega)⟩) hS (fun q _ h => hFx q h) hFx (fun r X2 t H1 locs ht hvm h hB hz1 hk1 hS => ?_)
  obtain ⟨hP1, hD1⟩ := hB
  rw [ht] at hP1
  obtain ⟨hP, hD⟩ := frame2 hP hD hk1 hFx hP1 hD1
  generalize H1 = H at hP hS ⊢
  obtain ⟨hc1, hc2, h⟩ := h
  refine W.widen (k := 10 + cc_ (xc_ X2)) (n := 2034266 + cs_ (xc_ X2)) (by omega) (by omega) ?_
  refine lv_aload_n hx hb dL_law_224 rfl (lv_at hl 2 rfl) ?_
  refine lv_aload_n hx hb dL_law_225 rfl (lv_at hl 0 rfl) ?_
  refine lv_iload_n hx hb dL_law_226 rfl (lv_at hl 3 rfl) ?_
  refine lv_iconst (v := (1 : Int32)) hx hb dL_law_227 (by decide) ?_
  refine lv_iadd hx hb dL_law_228 ?_
  refine va_sld hx hb hX hbl hbA hS hi1 dL_law_229 ?_
  have hPm : va_P (dC, dI) vwCl [(h1, .inr (8, [.int M.1, .ref qs.1, .ref qs.2.1, .int M.2.2.2.1, .long M.2.2.2.2.1, .int M.2.2.2.2.2.1, .ref qs.2.2.1, .ref qs.2.2.2.1, .ref qs.2.2.2.2.1, .int M.2.2.2.2.2.2.2.2.2.1, .long M.2.2.2.2.2.2.2.2.2.2.1, .int M.2.2.2.2.2.2.2.2.2.2.2.1, .ref qs.2.2.2.2.2.1, .ref qs.2.2.2.2.2.2.1, .int M.2.2.2.2.2.2.2.2.2.2.2.2.2.2.1, .ref qs.2.2.2.2.2.2.2, .long M.2.2.2.2.2.2.2.2.2.2.2.2.2.2.2.2.1, .long M.2.2.2.2.2.2.2.2.2.2.2.2.2.2.2.2.2.1, .int M.2.2.2.2.2.2.2.2.2.2.2.2.2.2.2.2.2.2])), (qs.1, .inl (cI, 9592, .inl (M.2.1))), (qs.2.1, .inl (cZ, 2000001, .inl (M.2.2.1))), (qs.2.2.1, .inl (cJ, 5000, .inr (.inl (M.2.2.2.2.2.2.1)))), (qs.2.2.2.1, .inl (cJ, 5000, .inr (.inl (M.2.2.2.2.2.2.2.1)))), (qs.2.2.2.2.1, .inl (cZ, 5000, .inl (M.2.2.2.2.2.2.2.2.1))), (qs.2.2.2.2.2.1, .inl (cJ, 16, .inr (.inl (M.2.2.2.2.2.2.2.2.2.2.2.2.1)))), (qs.2.2.2.2.2.2.1, .inl (cI, 16, .inl (M.2.2.2.2.2.2.2.2.2.2.2.2.2.1))), (qs.2.2.2.2.2.2.2, .inl (cJ, 9616, .inr (.inl (M.2.2.2.2.2.2.2.2.2.2.2.2.2.2.2.1))))] H := P_right hP
  have hDm : va_D (fun q : Nat => s.heap.size ≤ q) [(h1, .inr (8, [.int M.1, .ref qs.1, .ref qs.2.1, .int M.2.2.2.1, .long M.2.2.2.2.1, .int M.2.2.2.2.2.1, .ref qs.2.2.1, .ref qs.2.2.2.1, .ref qs.2.2.2.2.1, .int M.2.2.2.2.2.2.2.2.2.1, .long M.2.2.2.2.2.2.2.2.2.2.1, .int M.2.2.2.2.2.2.2.2.2.2.2.1, .ref qs.2.2.2.2.2.1, .ref qs.2.2.2.2.2.2.1, .int M.2.2.2.2.2.2.2.2.2.2.2.2.2.2.1, .ref qs.2.2.2.2.2.2.2, .long M.2.2.2.2.2.2.2.2.2.2.2.2.2.2.2.2.1, .long M.2.2.2.2.2.2.2.2.2.2.2.2.2.2.2.2.2.1, .int M.2.2.2.2.2.2.2.2.2.2.2.2.2.2.2.2.2.2])), (qs.1, .inl (cI, 9592, .inl (M.2.1))), (qs.2.1, .inl (cZ, 2000001, .inl (M.2.2.1))), (qs.2.2.1, .inl (cJ, 5000, .inr (.inl (M.2.2.2.2.2.2.1)))), (qs.2.2.2.1, .inl (cJ, 5000, .inr (.inl (M.2.2.2.2.2.2.2.1)))), (qs.2.2.2.2.1, .inl (cZ, 5000, .inl (M.2.2.2.2.2.2.2.2.1))), (qs.2.2.2.2.2.1, .inl (cJ, 16, .inr (.inl (M.2.2.2.2.2.2.2.2.2.2.2.2.1)))), (qs.2.2.2.2.2.2.1, .inl (cI, 16, .inl (M.2.2.2.2.2.2.2.2.2.2.2.2.2.1))), (qs.2.2.2.2.2.2.2, .inl (cJ, 9616, .inr (.inl (M.2.2.2.2.2.2.2.2.2.2.2.2.2.2.2.1))))] := D_right hD
  have hFm : ∀ q, va_A [(h1, .inr (8, [.int M.1, .ref qs.1, .ref qs.2.1, .int M.2.2.2.1, .long M.2.2.2.2.1, .int M.2.2.2.2.2.1, .ref qs.2.2.1, .ref qs.2.2.2.1, .ref qs.2.2.2.2.1, .int M.2.2.2.2.2.2.2.2.2.1, .long M.2.2.2.2.2.2.2.2.2.2.1, .int M.2.2.2.2.2.2.2.2.2.2.2.1, .ref qs.2.2.2.2.2.1, .ref qs.2.2.2.2.2.2.1, .int M.2.2.2.2.2.2.2.2.2.2.2.2.2.2.1, .ref qs.2.2.2.2.2.2.2, .long M.2.2.2.2.2.2.2.2.2.2.2.2.2.2.2.2.1, .long M.2.2.2.2.2.2.2.2.2.2.2.2.2.2.2.2.2.1, .int M.2.2.2.2.2.2.2.2.2.2.2.2.2.2.2.2.2.2])), (qs.1, .inl (cI, 9592, .inl (M.2.1))), (qs.2.1, .inl (cZ, 2000001, .inl (M.2.2.1))), (qs.2.2.1, .inl (cJ, 5000, .inr (.inl (M.2.2.2.2.2.2.1)))), (qs.2.2.2.1, .inl (cJ, 5000, .inr (.inl (M.2.2.2.2.2.2.2.1)))), (qs.2.2.2.2.1, .inl (cZ, 5000, .inl (M.2.2.2.2.2.2.2.2.1))), (qs.2.2.2.2.2.1, .inl (cJ, 16, .inr (.inl (M.2.2.2.2.2.2.2.2.2.2.2.2.1)))), (qs.2.2.2.2.2.2.1, .inl (cI, 16, .inl (M.2.2.2.2.2.2.2.2.2.2.2.2.2.1))), (qs.2.2.2.2.2.2.2, .inl (cJ, 9616, .inr (.inl (M.2.2.2.2.2.2.2.2.2.2.2.2.2.2.2.1))))] H.size q → (fun q : Nat => s.heap.size ≤ q) q := F_right hD hS hA
  have b3 := cc__le (xc_ X2)
  have b4 := cs__le (xc_ X2)
  refine va_calll (va_runV (As := [.int (xs (i + (1 : Int32)).toNatClampNeg)]) (rest := [.long r]) ⟨hx, hb, hml, hown, hts⟩ (c_X9_least l dC dI cI cJ cZ _ h1 M.1 M.2.1 qs.1 M.2.2.1 qs.2.1 M.2.2.2.1 M.2.2.2.2.1 M.2.2.2.2.2.1 M.2.2.2.2.2.2.1 qs.2.2.1 M.2.2.2.2.2.2.2.1 qs.2.2.2.1 M.2.2.2.2.2.2.2.2.1 qs.2.2.2.2.1 M.2.2.2.2.2.2.2.2.2.1 M.2.2.2.2.2.2.2.2.2.2.1 M.2.2.2.2.2.2.2.2.2.2.2.1 M.2.2.2.2.2.2.2.2.2.2.2.2.1 qs.2.2.2.2.2.1 M.2.2.2.2.2.2.2.2.2.2.2.2.2.1 qs.2.2.2.2.2.2.1 M.2.2.2.2.2.2.2.2.2.2.2.2.2.2.1 M.2.2.2.2.2.2.2.2.2.2.2.2.2.2.2.1 qs.2.2.2.2.2.2.2 M.2.2.2.2.2.2.2.2.2.2.2.2.2.2.2.2.1 M.2.2.2.2.2.2.2.2.2.2.2.2.2.2.2.2.2.1 M.2.2.2.2.2.2.2.2.2.2.2.2.2.2.2.2.2.2 (xs (i + (1 : Int32)).toNatClampNeg) _ h) (cwV 1 hts gL_law_X9_least rfl rfl rfl (by decide +kernel) ⟨Nat.le_of_ble_eq_true rfl, Nat.le_of_ble_eq_true rfl⟩) ⟨pre_fb, va_recv hK hPm (ci := 8) (q0 := 0) rfl rfl, pre_of hPm hDm hK hN⟩ rfl rfl hl.1 rfl (lv_room (Nat.le_of_ble_eq_true rfl)) dL_law_230 ⟨(by show _ ≤ 600000; omega), (by show _ ≤ 7302250; omega)⟩) hS (fun q _ h => hFm q h) hFm (fun r2 u t H1 locs ht hvm h hB hz1 hk1 hS => ?_)
  obtain ⟨hP1, hD1⟩ := hB
  rw [ht] at hP1
  obtain ⟨hP, hD⟩ := frame2r (wr := xcells cI cJ cZ h0 X2) (wc := mcells cI cJ cZ h1 qs M) (w1 := mcells cI cJ cZ h1 qs (M.1, M.2.1, M.2.2.1, M.2.2.2.1, M.2.2.2.2.1, M.2.2.2.2.2.1, M.2.2.2.2.2.2.1, M.2.2.2.2.2.2.2.1, M.2.2.2.2.2.2.2.2.1, M.2.2.2.2.2.2.2.2.2.1, M.2.2.2.2.2.2.2.2.2.2.1, M.2.2.2.2.2.2.2.2.2.2.2.1, M.2.2.2.2.2.2.2.2.2.2.2.2.1, M.2.2.2.2.2.2.2.2.2.2.2.2.2.1, M.2.2.2.2.2.2.2.2.2.2.2.2.2.2.1, M.2.2.2.2.2.2.2.2.2.2.2.2.2.2.2.1, M.2.2.2.2.2.2.2.2.2.2.2.2.2.2.2.2.1, M.2.2.2.2.2.2.2.2.2.2.2.2.2.2.2.2.2.1, M.2.2.2.2.2.2.2.2.2.2.2.2.2.2.2.2.2.2)) hP hD hk1 hFm hP1 hD1
  generalize H1 = H at hP hS ⊢
  obtain ⟨hre, hI⟩ := h
  refine W.lcmp hx hb dL_law_233 ?_
  refine lv_if_eq (tgt := 1181) hx hb dL_law_234 (by decide) (fun c9 => ?_) (fun c9 => absurd hre (lc_neq c9))
  refine W.widen (k := 10 + cc_ (xc_ X2)) (n := 2034266 + cs_ (xc_ X2)) (by omega) (by omega) ?_
  exact hnx X2 (M.1, M.2.1, M.2.2.1, M.2.2.2.1, M.2.2.2.2.1, M.2.2.2.2.2.1, M.2.2.2.2.2.2.1, M.2.2.2.2.2.2.2.1, M.2.2.2.2.2.2.2.2.1, M.2.2.2.2.2.2.2.2.2.1, M.2.2.2.2.2.2.2.2.2.2.1, M.2.2.2.2.2.2.2.2.2.2.2.1, M.2.2.2.2.2.2.2.2.2.2.2.2.1, M.2.2.2.2.2.2.2.2.2.2.2.2.2.1, M.2.2.2.2.2.2.2.2.2.2.2.2.2.2.1, M.2.2.2.2.2.2.2.2.2.2.2.2.2.2.2.1, M.2.2.2.2.2.2.2.2.2.2.2.2.2.2.2.2.1, M.2.2.2.2.2.2.2.2.2.2.2.2.2.2.2.2.2.1, M.2.2.2.2.2.2.2.2.2.2.2.2.2.2.2.2.2.2) hI H locs hP hD hS ls hl
set_option maxHeartbeats 4000000 in
set_option maxRecDepth 100000 in
theorem lcase_spanned {p : Program} {l : Launch} {e : Env} {s : State} {m : MethodId} {below : List Frame} {meth : Method} {c : Code} {dC : Nat → ClassId} {dI : Nat → Nat → Nat} {cI cJ cZ : ClassId} {b h0 h1 : Nat} {qs : AM_} {Inv : XC_ → MC_ → Prop} {L : Nat} {xs : Nat → Int32} (C0 : lw_At p s m meth c b L xs) (hK : va_K (dC, dI) vwCl (tys_ cI cJ cZ) s) (hN : nw_ s) {i : Int32} (hi1 : vp_in (i + (1 : Int32)) L) (hi2 : vp_in (i + (2 : Int32)) L) (hi3 : vp_in (i + (3 : Int32)) L) (hi4 : vp_in (i + (4 : Int32)) L) (hst : st_spanned Inv) (hnx : law_at p l e s m below meth c dC dI cI cJ cZ b h0 h1 qs Inv 1181 i) : law_at p l e s m below meth c dC dI cI cJ cZ b h0 h1 qs Inv 239 i := by
  obtain ⟨hx, hb, hr, hml, hown, hts, hX, hbl, hlocks, hgv⟩ := C0
  replace hts := fun w h => hts w (wsL_law_in w h)
  have hA : ∀ q : Nat, s.heap.size ≤ q → (fun q : Nat => s.heap.size ≤ q) q := fun _ h => h
  have hbA : ¬ (fun q : Nat => s.heap.size ≤ q) b := Nat.not_le.mpr hbl
  have hown : s.vm.findClass RL = some m.cls := hown
  intro X M hI H locs hP hD hS ls hl
  refine lv_aload_n hx hb dL_law_239 rfl (lv_at hl 1 rfl) ?_
  refine lv_aload_n hx hb dL_law_240 rfl (lv_at hl 0 rfl) ?_
  refine lv_iload_n hx hb dL_law_241 rfl (lv_at hl 3 rfl) ?_
  refine lv_iconst (v := (1 : Int32)) hx hb dL_law_242 (by decide) ?_
  refine lv_iadd hx hb dL_law_243 ?_
  refine va_sld hx hb hX hbl hbA hS hi1 dL_law_244 ?_
  obtain ⟨mc, ms, hmc, hms, h⟩ := hst (xc_ X) M (xs (i + (1 : Int32)).toNatClampNeg) hI
  have hPx := P_left hP
  have hDx := D_left hD
  have hFx := F_left hD hS hA
  have b1 := cc__le (xc_ X)
  have b2 := cs__le (xc_ X)
  refine va_calli (va_runV (As := [.int (xs (i + (1 : Int32)).toNatClampNeg)]) (rest := []) ⟨hx, hb, hml, hown, hts⟩ (cx_spanned l dC dI cI cJ cZ _ h0 mc ms X (xs (i + (1 : Int32)).toNatClampNeg) _ h) (cwV 1 hts gL_law_X8_spanned rfl rfl rfl (by decide +kernel) ⟨Nat.le_of_ble_eq_true rfl, Nat.le_of_ble_eq_true rfl⟩) ⟨pre_fb, va_recv hK hPx (ci := 7) (q0 := 0) rfl rfl, pre_of hPx hDx hK hN⟩ rfl rfl hl.1 rfl (lv_room (Nat.le_of_ble_eq_true rfl)) dL_law_245 ⟨(by show _ ≤ 600000; omega), (by show _ ≤ 7302250; omega)⟩) hS (fun q _ h => hFx q h) hFx (fun r X2 t H1 locs ht hvm h hB hz1 hk1 hS => ?_)
  obtain ⟨hP1, hD1⟩ := hB
  rw [ht] at hP1
  obtain ⟨hP, hD⟩ := frame2 hP hD hk1 hFx hP1 hD1
  generalize H1 = H at hP hS ⊢
  obtain ⟨hc1, hc2, h⟩ := h
  refine W.widen (k := 10 + cc_ (xc_ X2)) (n := 2034266 + cs_ (xc_ X2)) (by omega) (by omega) ?_
  refine lv_aload_n hx hb dL_law_248 rfl (lv_at hl 2 rfl) ?_
  refine lv_aload_n hx hb dL_law_249 rfl (lv_at hl 0 rfl) ?_
  refine lv_iload_n hx hb dL_law_250 rfl (lv_at hl 3 rfl) ?_
  refine lv_iconst (v := (1 : Int32)) hx hb dL_law_251 (by decide) ?_
  refine lv_iadd hx hb dL_law_252 ?_
  refine va_sld hx hb hX hbl hbA hS hi1 dL_law_253 ?_
  have hPm : va_P (dC, dI) vwCl [(h1, .inr (8, [.int M.1, .ref qs.1, .ref qs.2.1, .int M.2.2.2.1, .long M.2.2.2.2.1, .int M.2.2.2.2.2.1, .ref qs.2.2.1, .ref qs.2.2.2.1, .ref qs.2.2.2.2.1, .int M.2.2.2.2.2.2.2.2.2.1, .long M.2.2.2.2.2.2.2.2.2.2.1, .int M.2.2.2.2.2.2.2.2.2.2.2.1, .ref qs.2.2.2.2.2.1, .ref qs.2.2.2.2.2.2.1, .int M.2.2.2.2.2.2.2.2.2.2.2.2.2.2.1, .ref qs.2.2.2.2.2.2.2, .long M.2.2.2.2.2.2.2.2.2.2.2.2.2.2.2.2.1, .long M.2.2.2.2.2.2.2.2.2.2.2.2.2.2.2.2.2.1, .int M.2.2.2.2.2.2.2.2.2.2.2.2.2.2.2.2.2.2])), (qs.1, .inl (cI, 9592, .inl (M.2.1))), (qs.2.1, .inl (cZ, 2000001, .inl (M.2.2.1))), (qs.2.2.1, .inl (cJ, 5000, .inr (.inl (M.2.2.2.2.2.2.1)))), (qs.2.2.2.1, .inl (cJ, 5000, .inr (.inl (M.2.2.2.2.2.2.2.1)))), (qs.2.2.2.2.1, .inl (cZ, 5000, .inl (M.2.2.2.2.2.2.2.2.1))), (qs.2.2.2.2.2.1, .inl (cJ, 16, .inr (.inl (M.2.2.2.2.2.2.2.2.2.2.2.2.1)))), (qs.2.2.2.2.2.2.1, .inl (cI, 16, .inl (M.2.2.2.2.2.2.2.2.2.2.2.2.2.1))), (qs.2.2.2.2.2.2.2, .inl (cJ, 9616, .inr (.inl (M.2.2.2.2.2.2.2.2.2.2.2.2.2.2.2.1))))] H := P_right hP
  have hDm : va_D (fun q : Nat => s.heap.size ≤ q) [(h1, .inr (8, [.int M.1, .ref qs.1, .ref qs.2.1, .int M.2.2.2.1, .long M.2.2.2.2.1, .int M.2.2.2.2.2.1, .ref qs.2.2.1, .ref qs.2.2.2.1, .ref qs.2.2.2.2.1, .int M.2.2.2.2.2.2.2.2.2.1, .long M.2.2.2.2.2.2.2.2.2.2.1, .int M.2.2.2.2.2.2.2.2.2.2.2.1, .ref qs.2.2.2.2.2.1, .ref qs.2.2.2.2.2.2.1, .int M.2.2.2.2.2.2.2.2.2.2.2.2.2.2.1, .ref qs.2.2.2.2.2.2.2, .long M.2.2.2.2.2.2.2.2.2.2.2.2.2.2.2.2.1, .long M.2.2.2.2.2.2.2.2.2.2.2.2.2.2.2.2.2.1, .int M.2.2.2.2.2.2.2.2.2.2.2.2.2.2.2.2.2.2])), (qs.1, .inl (cI, 9592, .inl (M.2.1))), (qs.2.1, .inl (cZ, 2000001, .inl (M.2.2.1))), (qs.2.2.1, .inl (cJ, 5000, .inr (.inl (M.2.2.2.2.2.2.1)))), (qs.2.2.2.1, .inl (cJ, 5000, .inr (.inl (M.2.2.2.2.2.2.2.1)))), (qs.2.2.2.2.1, .inl (cZ, 5000, .inl (M.2.2.2.2.2.2.2.2.1))), (qs.2.2.2.2.2.1, .inl (cJ, 16, .inr (.inl (M.2.2.2.2.2.2.2.2.2.2.2.2.1)))), (qs.2.2.2.2.2.2.1, .inl (cI, 16, .inl (M.2.2.2.2.2.2.2.2.2.2.2.2.2.1))), (qs.2.2.2.2.2.2.2, .inl (cJ, 9616, .inr (.inl (M.2.2.2.2.2.2.2.2.2.2.2.2.2.2.2.1))))] := D_right hD
  have hFm : ∀ q, va_A [(h1, .inr (8, [.int M.1, .ref qs.1, .ref qs.2.1, .int M.2.2.2.1, .long M.2.2.2.2.1, .int M.2.2.2.2.2.1, .ref qs.2.2.1, .ref qs.2.2.2.1, .ref qs.2.2.2.2.1, .int M.2.2.2.2.2.2.2.2.2.1, .long M.2.2.2.2.2.2.2.2.2.2.1, .int M.2.2.2.2.2.2.2.2.2.2.2.1, .ref qs.2.2.2.2.2.1, .ref qs.2.2.2.2.2.2.1, .int M.2.2.2.2.2.2.2.2.2.2.2.2.2.2.1, .ref qs.2.2.2.2.2.2.2, .long M.2.2.2.2.2.2.2.2.2.2.2.2.2.2.2.2.1, .long M.2.2.2.2.2.2.2.2.2.2.2.2.2.2.2.2.2.1, .int M.2.2.2.2.2.2.2.2.2.2.2.2.2.2.2.2.2.2])), (qs.1, .inl (cI, 9592, .inl (M.2.1))), (qs.2.1, .inl (cZ, 2000001, .inl (M.2.2.1))), (qs.2.2.1, .inl (cJ, 5000, .inr (.inl (M.2.2.2.2.2.2.1)))), (qs.2.2.2.1, .inl (cJ, 5000, .inr (.inl (M.2.2.2.2.2.2.2.1)))), (qs.2.2.2.2.1, .inl (cZ, 5000, .inl (M.2.2.2.2.2.2.2.2.1))), (qs.2.2.2.2.2.1, .inl (cJ, 16, .inr (.inl (M.2.2.2.2.2.2.2.2.2.2.2.2.1)))), (qs.2.2.2.2.2.2.1, .inl (cI, 16, .inl (M.2.2.2.2.2.2.2.2.2.2.2.2.2.1))), (qs.2.2.2.2.2.2.2, .inl (cJ, 9616, .inr (.inl (M.2.2.2.2.2.2.2.2.2.2.2.2.2.2.2.1))))] H.size q → (fun q : Nat => s.heap.size ≤ q) q := F_right hD hS hA
  have b3 := cc__le (xc_ X2)
  have b4 := cs__le (xc_ X2)
  refine va_calli (va_runV (As := [.int (xs (i + (1 : Int32)).toNatClampNeg)]) (rest := [.int r]) ⟨hx, hb, hml, hown, hts⟩ (c_X9_spanned l dC dI cI cJ cZ _ h1 M.1 M.2.1 qs.1 M.2.2.1 qs.2.1 M.2.2.2.1 M.2.2.2.2.1 M.2.2.2.2.2.1 M.2.2.2.2.2.2.1 qs.2.2.1 M.2.2.2.2.2.2.2.1 qs.2.2.2.1 M.2.2.2.2.2.2.2.2.1 qs.2.2.2.2.1 M.2.2.2.2.2.2.2.2.2.1 M.2.2.2.2.2.2.2.2.2.2.1 M.2.2.2.2.2.2.2.2.2.2.2.1 M.2.2.2.2.2.2.2.2.2.2.2.2.1 qs.2.2.2.2.2.1 M.2.2.2.2.2.2.2.2.2.2.2.2.2.1 qs.2.2.2.2.2.2.1 M.2.2.2.2.2.2.2.2.2.2.2.2.2.2.1 M.2.2.2.2.2.2.2.2.2.2.2.2.2.2.2.1 qs.2.2.2.2.2.2.2 M.2.2.2.2.2.2.2.2.2.2.2.2.2.2.2.2.1 M.2.2.2.2.2.2.2.2.2.2.2.2.2.2.2.2.2.1 M.2.2.2.2.2.2.2.2.2.2.2.2.2.2.2.2.2.2 (xs (i + (1 : Int32)).toNatClampNeg) _ h) (cwV 1 hts gL_law_X9_spanned rfl rfl rfl (by decide +kernel) ⟨Nat.le_of_ble_eq_true rfl, Nat.le_of_ble_eq_true rfl⟩) ⟨pre_fb, va_recv hK hPm (ci := 8) (q0 := 0) rfl rfl, pre_of hPm hDm hK hN⟩ rfl rfl hl.1 rfl (lv_room (Nat.le_of_ble_eq_true rfl)) dL_law_254 ⟨(by show _ ≤ 600000; omega), (by show _ ≤ 7302250; omega)⟩) hS (fun q _ h => hFm q h) hFm (fun r2 u t H1 locs ht hvm h hB hz1 hk1 hS => ?_)
  obtain ⟨hP1, hD1⟩ := hB
  rw [ht] at hP1
  obtain ⟨hP, hD⟩ := frame2r (wr := xcells cI cJ cZ h0 X2) (wc := mcells cI cJ cZ h1 qs M) (w1 := mcells cI cJ cZ h1 qs (M.1, M.2.1, M.2.2.1, M.2.2.2.1, M.2.2.2.2.1, M.2.2.2.2.2.1, M.2.2.2.2.2.2.1, M.2.2.2.2.2.2.2.1, M.2.2.2.2.2.2.2.2.1, M.2.2.2.2.2.2.2.2.2.1, M.2.2.2.2.2.2.2.2.2.2.1, M.2.2.2.2.2.2.2.2.2.2.2.1, M.2.2.2.2.2.2.2.2.2.2.2.2.1, M.2.2.2.2.2.2.2.2.2.2.2.2.2.1, M.2.2.2.2.2.2.2.2.2.2.2.2.2.2.1, M.2.2.2.2.2.2.2.2.2.2.2.2.2.2.2.1, M.2.2.2.2.2.2.2.2.2.2.2.2.2.2.2.2.1, M.2.2.2.2.2.2.2.2.2.2.2.2.2.2.2.2.2.1, M.2.2.2.2.2.2.2.2.2.2.2.2.2.2.2.2.2.2)) hP hD hk1 hFm hP1 hD1
  generalize H1 = H at hP hS ⊢
  obtain ⟨hre, hI⟩ := h
  refine lv_icmp_eq (tgt := 1181) hx hb dL_law_257 (by decide) (fun c9 => ?_) (fun c9 => absurd hre c9)
  refine W.widen (k := 10 + cc_ (xc_ X2)) (n := 2034266 + cs_ (xc_ X2)) (by omega) (by omega) ?_
  exact hnx X2 (M.1, M.2.1, M.2.2.1, M.2.2.2.1, M.2.2.2.2.1, M.2.2.2.2.2.1, M.2.2.2.2.2.2.1, M.2.2.2.2.2.2.2.1, M.2.2.2.2.2.2.2.2.1, M.2.2.2.2.2.2.2.2.2.1, M.2.2.2.2.2.2.2.2.2.2.1, M.2.2.2.2.2.2.2.2.2.2.2.1, M.2.2.2.2.2.2.2.2.2.2.2.2.1, M.2.2.2.2.2.2.2.2.2.2.2.2.2.1, M.2.2.2.2.2.2.2.2.2.2.2.2.2.2.1, M.2.2.2.2.2.2.2.2.2.2.2.2.2.2.2.1, M.2.2.2.2.2.2.2.2.2.2.2.2.2.2.2.2.1, M.2.2.2.2.2.2.2.2.2.2.2.2.2.2.2.2.2.1, M.2.2.2.2.2.2.2.2.2.2.2.2.2.2.2.2.2.2) hI H locs hP hD hS ls hl
set_option maxHeartbeats 4000000 in
set_option maxRecDepth 100000 in
theorem lcase_smooth {p : Program} {l : Launch} {e : Env} {s : State} {m : MethodId} {below : List Frame} {meth : Method} {c : Code} {dC : Nat → ClassId} {dI : Nat → Nat → Nat} {cI cJ cZ : ClassId} {b h0 h1 : Nat} {qs : AM_} {Inv : XC_ → MC_ → Prop} {L : Nat} {xs : Nat → Int32} (C0 : lw_At p s m meth c b L xs) (hK : va_K (dC, dI) vwCl (tys_ cI cJ cZ) s) (hN : nw_ s) {i : Int32} (hi1 : vp_in (i + (1 : Int32)) L) (hi2 : vp_in (i + (2 : Int32)) L) (hi3 : vp_in (i + (3 : Int32)) L) (hi4 : vp_in (i + (4 : Int32)) L) (hst : st_smooth Inv) (hnx : law_at p l e s m below meth c dC dI cI cJ cZ b h0 h1 qs Inv 1181 i) : law_at p l e s m below meth c dC dI cI cJ cZ b h0 h1 qs Inv 262 i := by
  obtain ⟨hx, hb, hr, hml, hown, hts, hX, hbl, hlocks, hgv⟩ := C0
  replace hts := fun w h => hts w (wsL_law_in w h)
  have hA : ∀ q : Nat, s.heap.size ≤ q → (fun q : Nat => s.heap.size ≤ q) q := fun _ h => h
  have hbA : ¬ (fun q : Nat => s.heap.size ≤ q) b := Nat.not_le.mpr hbl
  have hown : s.vm.findClass RL = some m.cls := hown
  intro X M hI H locs hP hD hS ls hl
  refine lv_aload_n hx hb dL_law_262 rfl (lv_at hl 1 rfl) ?_
  refine lv_aload_n hx hb dL_law_263 rfl (lv_at hl 0 rfl) ?_
  refine lv_iload_n hx hb dL_law_264 rfl (lv_at hl 3 rfl) ?_
  refine lv_iconst (v := (1 : Int32)) hx hb dL_law_265 (by decide) ?_
  refine lv_iadd hx hb dL_law_266 ?_
  refine va_sld hx hb hX hbl hbA hS hi1 dL_law_267 ?_
  refine lv_i2l hx hb dL_law_268 rfl ?_
  refine lv_bipush (v := (32 : Int32)) hx hb dL_law_269 (by decide) ?_
  refine lv_lshl hx hb dL_law_271 rfl ?_
  refine lv_aload_n hx hb dL_law_272 rfl (lv_at hl 0 rfl) ?_
  refine lv_iload_n hx hb dL_law_273 rfl (lv_at hl 3 rfl) ?_
  refine lv_iconst (v := (2 : Int32)) hx hb dL_law_274 (by decide) ?_
  refine lv_iadd hx hb dL_law_275 ?_
  refine va_sld hx hb hX hbl hbA hS hi2 dL_law_276 ?_
  refine lv_i2l hx hb dL_law_277 rfl ?_
  refine lv_ldc2 hx hb hown (hts (.constantLong RL 13 (4294967295)) (by decide +kernel)) dL_law_278 ?_
  refine lv_land hx hb dL_law_281 ?_
  refine lv_lor hx hb dL_law_282 ?_
  refine lv_aload_n hx hb dL_law_283 rfl (lv_at hl 0 rfl) ?_
  refine lv_iload_n hx hb dL_law_284 rfl (lv_at hl 3 rfl) ?_
  refine lv_iconst (v := (3 : Int32)) hx hb dL_law_285 (by decide) ?_
  refine lv_iadd hx hb dL_law_286 ?_
  refine va_sld hx hb hX hbl hbA hS hi3 dL_law_287 ?_
  refine lv_if_eq (tgt := 295) hx hb dL_law_288 (by decide) (fun k0 => ?_) (fun k0 => ?_)
  · refine lv_iconst (v := (0 : Int32)) hx hb dL_law_295 (by decide) ?_
    obtain ⟨mc, ms, hmc, hms, h⟩ := hst (xc_ X) M (((xs (i + (1 : Int32)).toNatClampNeg).toInt64 <<< ((32 : Int32).toInt64 &&& 63)) ||| ((xs (i + (2 : Int32)).toNatClampNeg).toInt64 &&& (4294967295 : Int64))) (0 : Int32) hI
    have hPx := P_left hP
    have hDx := D_left hD
    have hFx := F_left hD hS hA
    have b1 := cc__le (xc_ X)
    have b2 := cs__le (xc_ X)
    refine va_calli (va_runV (As := [.long (((xs (i + (1 : Int32)).toNatClampNeg).toInt64 <<< ((32 : Int32).toInt64 &&& 63)) ||| ((xs (i + (2 : Int32)).toNatClampNeg).toInt64 &&& (4294967295 : Int64))), .int (0 : Int32)]) (rest := []) ⟨hx, hb, hml, hown, hts⟩ (cx_smooth l dC dI cI cJ cZ _ h0 mc ms X (((xs (i + (1 : Int32)).toNatClampNeg).toInt64 <<< ((32 : Int32).toInt64 &&& 63)) ||| ((xs (i + (2 : Int32)).toNatClampNeg).toInt64 &&& (4294967295 : Int64))) (0 : Int32) _ h) (cwV 2 hts gL_law_X8_smooth rfl rfl rfl (by decide +kernel) ⟨Nat.le_of_ble_eq_true rfl, Nat.le_of_ble_eq_true rfl⟩) ⟨pre_fb, va_recv hK hPx (ci := 7) (q0 := 0) rfl rfl, pre_of hPx hDx hK hN⟩ rfl rfl hl.1 rfl (lv_room (Nat.le_of_ble_eq_true rfl)) dL_law_296 ⟨(by show _ ≤ 600000; omega), (by show _ ≤ 7302250; omega)⟩) hS (fun q _ h => hFx q h) hFx (fun r X2 t H1 locs ht hvm h hB hz1 hk1 hS => ?_)
    obtain ⟨hP1, hD1⟩ := hB
    rw [ht] at hP1
    obtain ⟨hP, hD⟩ := frame2 hP hD hk1 hFx hP1 hD1
    generalize H1 = H at hP hS ⊢
    obtain ⟨hc1, hc2, h⟩ := h
    refine W.widen (k := 10 + cc_ (xc_ X2)) (n := 2034266 + cs_ (xc_ X2)) (by omega) (by omega) ?_
    refine lv_aload_n hx hb dL_law_299 rfl (lv_at hl 2 rfl) ?_
    refine lv_aload_n hx hb dL_law_300 rfl (lv_at hl 0 rfl) ?_
    refine lv_iload_n hx hb dL_law_301 rfl (lv_at hl 3 rfl) ?_
    refine lv_iconst (v := (1 : Int32)) hx hb dL_law_302 (by decide) ?_
    refine lv_iadd hx hb dL_law_303 ?_
    refine va_sld hx hb hX hbl hbA hS hi1 dL_law_304 ?_
    refine lv_i2l hx hb dL_law_305 rfl ?_
    refine lv_bipush (v := (32 : Int32)) hx hb dL_law_306 (by decide) ?_
    refine lv_lshl hx hb dL_law_308 rfl ?_
    refine lv_aload_n hx hb dL_law_309 rfl (lv_at hl 0 rfl) ?_
    refine lv_iload_n hx hb dL_law_310 rfl (lv_at hl 3 rfl) ?_
    refine lv_iconst (v := (2 : Int32)) hx hb dL_law_311 (by decide) ?_
    refine lv_iadd hx hb dL_law_312 ?_
    refine va_sld hx hb hX hbl hbA hS hi2 dL_law_313 ?_
    refine lv_i2l hx hb dL_law_314 rfl ?_
    refine lv_ldc2 hx hb hown (hts (.constantLong RL 13 (4294967295)) (by decide +kernel)) dL_law_315 ?_
    refine lv_land hx hb dL_law_318 ?_
    refine lv_lor hx hb dL_law_319 ?_
    refine lv_aload_n hx hb dL_law_320 rfl (lv_at hl 0 rfl) ?_
    refine lv_iload_n hx hb dL_law_321 rfl (lv_at hl 3 rfl) ?_
    refine lv_iconst (v := (3 : Int32)) hx hb dL_law_322 (by decide) ?_
    refine lv_iadd hx hb dL_law_323 ?_
    refine va_sld hx hb hX hbl hbA hS hi3 dL_law_324 ?_
    refine lv_if_eq (tgt := 332) hx hb dL_law_325 (by decide) (fun k1 => ?_) (fun k1 => ?_)
    · refine lv_iconst (v := (0 : Int32)) hx hb dL_law_332 (by decide) ?_
      have hPm : va_P (dC, dI) vwCl [(h1, .inr (8, [.int M.1, .ref qs.1, .ref qs.2.1, .int M.2.2.2.1, .long M.2.2.2.2.1, .int M.2.2.2.2.2.1, .ref qs.2.2.1, .ref qs.2.2.2.1, .ref qs.2.2.2.2.1, .int M.2.2.2.2.2.2.2.2.2.1, .long M.2.2.2.2.2.2.2.2.2.2.1, .int M.2.2.2.2.2.2.2.2.2.2.2.1, .ref qs.2.2.2.2.2.1, .ref qs.2.2.2.2.2.2.1, .int M.2.2.2.2.2.2.2.2.2.2.2.2.2.2.1, .ref qs.2.2.2.2.2.2.2, .long M.2.2.2.2.2.2.2.2.2.2.2.2.2.2.2.2.1, .long M.2.2.2.2.2.2.2.2.2.2.2.2.2.2.2.2.2.1, .int M.2.2.2.2.2.2.2.2.2.2.2.2.2.2.2.2.2.2])), (qs.1, .inl (cI, 9592, .inl (M.2.1))), (qs.2.1, .inl (cZ, 2000001, .inl (M.2.2.1))), (qs.2.2.1, .inl (cJ, 5000, .inr (.inl (M.2.2.2.2.2.2.1)))), (qs.2.2.2.1, .inl (cJ, 5000, .inr (.inl (M.2.2.2.2.2.2.2.1)))), (qs.2.2.2.2.1, .inl (cZ, 5000, .inl (M.2.2.2.2.2.2.2.2.1))), (qs.2.2.2.2.2.1, .inl (cJ, 16, .inr (.inl (M.2.2.2.2.2.2.2.2.2.2.2.2.1)))), (qs.2.2.2.2.2.2.1, .inl (cI, 16, .inl (M.2.2.2.2.2.2.2.2.2.2.2.2.2.1))), (qs.2.2.2.2.2.2.2, .inl (cJ, 9616, .inr (.inl (M.2.2.2.2.2.2.2.2.2.2.2.2.2.2.2.1))))] H := P_right hP
      have hDm : va_D (fun q : Nat => s.heap.size ≤ q) [(h1, .inr (8, [.int M.1, .ref qs.1, .ref qs.2.1, .int M.2.2.2.1, .long M.2.2.2.2.1, .int M.2.2.2.2.2.1, .ref qs.2.2.1, .ref qs.2.2.2.1, .ref qs.2.2.2.2.1, .int M.2.2.2.2.2.2.2.2.2.1, .long M.2.2.2.2.2.2.2.2.2.2.1, .int M.2.2.2.2.2.2.2.2.2.2.2.1, .ref qs.2.2.2.2.2.1, .ref qs.2.2.2.2.2.2.1, .int M.2.2.2.2.2.2.2.2.2.2.2.2.2.2.1, .ref qs.2.2.2.2.2.2.2, .long M.2.2.2.2.2.2.2.2.2.2.2.2.2.2.2.2.1, .long M.2.2.2.2.2.2.2.2.2.2.2.2.2.2.2.2.2.1, .int M.2.2.2.2.2.2.2.2.2.2.2.2.2.2.2.2.2.2])), (qs.1, .inl (cI, 9592, .inl (M.2.1))), (qs.2.1, .inl (cZ, 2000001, .inl (M.2.2.1))), (qs.2.2.1, .inl (cJ, 5000, .inr (.inl (M.2.2.2.2.2.2.1)))), (qs.2.2.2.1, .inl (cJ, 5000, .inr (.inl (M.2.2.2.2.2.2.2.1)))), (qs.2.2.2.2.1, .inl (cZ, 5000, .inl (M.2.2.2.2.2.2.2.2.1))), (qs.2.2.2.2.2.1, .inl (cJ, 16, .inr (.inl (M.2.2.2.2.2.2.2.2.2.2.2.2.1)))), (qs.2.2.2.2.2.2.1, .inl (cI, 16, .inl (M.2.2.2.2.2.2.2.2.2.2.2.2.2.1))), (qs.2.2.2.2.2.2.2, .inl (cJ, 9616, .inr (.inl (M.2.2.2.2.2.2.2.2.2.2.2.2.2.2.2.1))))] := D_right hD
      have hFm : ∀ q, va_A [(h1, .inr (8, [.int M.1, .ref qs.1, .ref qs.2.1, .int M.2.2.2.1, .long M.2.2.2.2.1, .int M.2.2.2.2.2.1, .ref qs.2.2.1, .ref qs.2.2.2.1, .ref qs.2.2.2.2.1, .int M.2.2.2.2.2.2.2.2.2.1, .long M.2.2.2.2.2.2.2.2.2.2.1, .int M.2.2.2.2.2.2.2.2.2.2.2.1, .ref qs.2.2.2.2.2.1, .ref qs.2.2.2.2.2.2.1, .int M.2.2.2.2.2.2.2.2.2.2.2.2.2.2.1, .ref qs.2.2.2.2.2.2.2, .long M.2.2.2.2.2.2.2.2.2.2.2.2.2.2.2.2.1, .long M.2.2.2.2.2.2.2.2.2.2.2.2.2.2.2.2.2.1, .int M.2.2.2.2.2.2.2.2.2.2.2.2.2.2.2.2.2.2])), (qs.1, .inl (cI, 9592, .inl (M.2.1))), (qs.2.1, .inl (cZ, 2000001, .inl (M.2.2.1))), (qs.2.2.1, .inl (cJ, 5000, .inr (.inl (M.2.2.2.2.2.2.1)))), (qs.2.2.2.1, .inl (cJ, 5000, .inr (.inl (M.2.2.2.2.2.2.2.1)))), (qs.2.2.2.2.1, .inl (cZ, 5000, .inl (M.2.2.2.2.2.2.2.2.1))), (qs.2.2.2.2.2.1, .inl (cJ, 16, .inr (.inl (M.2.2.2.2.2.2.2.2.2.2.2.2.1)))), (qs.2.2.2.2.2.2.1, .inl (cI, 16, .inl (M.2.2.2.2.2.2.2.2.2.2.2.2.2.1))), (qs.2.2.2.2.2.2.2, .inl (cJ, 9616, .inr (.inl (M.2.2.2.2.2.2.2.2.2.2.2.2.2.2.2.1))))] H.size q → (fun q : Nat => s.heap.size ≤ q) q := F_right hD hS hA
      have b3 := cc__le (xc_ X2)
      have b4 := cs__le (xc_ X2)
      refine va_calli (va_runV (As := [.long (((xs (i + (1 : Int32)).toNatClampNeg).toInt64 <<< ((32 : Int32).toInt64 &&& 63)) ||| ((xs (i + (2 : Int32)).toNatClampNeg).toInt64 &&& (4294967295 : Int64))), .int (0 : Int32)]) (rest := [.int r]) ⟨hx, hb, hml, hown, hts⟩ (c_X9_smooth l dC dI cI cJ cZ _ h1 M.1 M.2.1 qs.1 M.2.2.1 qs.2.1 M.2.2.2.1 M.2.2.2.2.1 M.2.2.2.2.2.1 M.2.2.2.2.2.2.1 qs.2.2.1 M.2.2.2.2.2.2.2.1 qs.2.2.2.1 M.2.2.2.2.2.2.2.2.1 qs.2.2.2.2.1 M.2.2.2.2.2.2.2.2.2.1 M.2.2.2.2.2.2.2.2.2.2.1 M.2.2.2.2.2.2.2.2.2.2.2.1 M.2.2.2.2.2.2.2.2.2.2.2.2.1 qs.2.2.2.2.2.1 M.2.2.2.2.2.2.2.2.2.2.2.2.2.1 qs.2.2.2.2.2.2.1 M.2.2.2.2.2.2.2.2.2.2.2.2.2.2.1 M.2.2.2.2.2.2.2.2.2.2.2.2.2.2.2.1 qs.2.2.2.2.2.2.2 M.2.2.2.2.2.2.2.2.2.2.2.2.2.2.2.2.1 M.2.2.2.2.2.2.2.2.2.2.2.2.2.2.2.2.2.1 M.2.2.2.2.2.2.2.2.2.2.2.2.2.2.2.2.2.2 (((xs (i + (1 : Int32)).toNatClampNeg).toInt64 <<< ((32 : Int32).toInt64 &&& 63)) ||| ((xs (i + (2 : Int32)).toNatClampNeg).toInt64 &&& (4294967295 : Int64))) (0 : Int32) _ h) (cwV 2 hts gL_law_X9_smooth rfl rfl rfl (by decide +kernel) ⟨Nat.le_of_ble_eq_true rfl, Nat.le_of_ble_eq_true rfl⟩) ⟨pre_fb, va_recv hK hPm (ci := 8) (q0 := 0) rfl rfl, pre_of hPm hDm hK hN⟩ rfl rfl hl.1 rfl (lv_room (Nat.le_of_ble_eq_true rfl)) dL_law_333 ⟨(by show _ ≤ 600000; omega), (by show _ ≤ 7302250; omega)⟩) hS (fun q _ h => hFm q h) hFm (fun r2 u t H1 locs ht hvm h hB hz1 hk1 hS => ?_)
      obtain ⟨hP1, hD1⟩ := hB
      rw [ht] at hP1
      obtain ⟨hP, hD⟩ := frame2r (wr := xcells cI cJ cZ h0 X2) (wc := mcells cI cJ cZ h1 qs M) (w1 := mcells cI cJ cZ h1 qs (M.1, M.2.1, M.2.2.1, M.2.2.2.1, M.2.2.2.2.1, M.2.2.2.2.2.1, M.2.2.2.2.2.2.1, M.2.2.2.2.2.2.2.1, M.2.2.2.2.2.2.2.2.1, M.2.2.2.2.2.2.2.2.2.1, M.2.2.2.2.2.2.2.2.2.2.1, M.2.2.2.2.2.2.2.2.2.2.2.1, M.2.2.2.2.2.2.2.2.2.2.2.2.1, M.2.2.2.2.2.2.2.2.2.2.2.2.2.1, M.2.2.2.2.2.2.2.2.2.2.2.2.2.2.1, M.2.2.2.2.2.2.2.2.2.2.2.2.2.2.2.1, M.2.2.2.2.2.2.2.2.2.2.2.2.2.2.2.2.1, M.2.2.2.2.2.2.2.2.2.2.2.2.2.2.2.2.2.1, M.2.2.2.2.2.2.2.2.2.2.2.2.2.2.2.2.2.2)) hP hD hk1 hFm hP1 hD1
      generalize H1 = H at hP hS ⊢
      obtain ⟨hre, hI⟩ := h
      refine lv_icmp_eq (tgt := 1181) hx hb dL_law_336 (by decide) (fun c9 => ?_) (fun c9 => absurd hre c9)
      refine W.widen (k := 10 + cc_ (xc_ X2)) (n := 2034266 + cs_ (xc_ X2)) (by omega) (by omega) ?_
      exact hnx X2 (M.1, M.2.1, M.2.2.1, M.2.2.2.1, M.2.2.2.2.1, M.2.2.2.2.2.1, M.2.2.2.2.2.2.1, M.2.2.2.2.2.2.2.1, M.2.2.2.2.2.2.2.2.1, M.2.2.2.2.2.2.2.2.2.1, M.2.2.2.2.2.2.2.2.2.2.1, M.2.2.2.2.2.2.2.2.2.2.2.1, M.2.2.2.2.2.2.2.2.2.2.2.2.1, M.2.2.2.2.2.2.2.2.2.2.2.2.2.1, M.2.2.2.2.2.2.2.2.2.2.2.2.2.2.1, M.2.2.2.2.2.2.2.2.2.2.2.2.2.2.2.1, M.2.2.2.2.2.2.2.2.2.2.2.2.2.2.2.2.1, M.2.2.2.2.2.2.2.2.2.2.2.2.2.2.2.2.2.1, M.2.2.2.2.2.2.2.2.2.2.2.2.2.2.2.2.2.2) hI H locs hP hD hS ls hl
    · exact absurd k0 k1
  · refine lv_iconst (v := (1 : Int32)) hx hb dL_law_291 (by decide) ?_
    refine lv_goto (tgt := 296) hx hb dL_law_292 (by decide) ?_
    obtain ⟨mc, ms, hmc, hms, h⟩ := hst (xc_ X) M (((xs (i + (1 : Int32)).toNatClampNeg).toInt64 <<< ((32 : Int32).toInt64 &&& 63)) ||| ((xs (i + (2 : Int32)).toNatClampNeg).toInt64 &&& (4294967295 : Int64))) (1 : Int32) hI
    have hPx := P_left hP
    have hDx := D_left hD
    have hFx := F_left hD hS hA
    have b1 := cc__le (xc_ X)
    have b2 := cs__le (xc_ X)
    refine va_calli (va_runV (As := [.long (((xs (i + (1 : Int32)).toNatClampNeg).toInt64 <<< ((32 : Int32).toInt64 &&& 63)) ||| ((xs (i + (2 : Int32)).toNatClampNeg).toInt64 &&& (4294967295 : Int64))), .int (1 : Int32)]) (rest := []) ⟨hx, hb, hml, hown, hts⟩ (cx_smooth l dC dI cI cJ cZ _ h0 mc ms X (((xs (i + (1 : Int32)).toNatClampNeg).toInt64 <<< ((32 : Int32).toInt64 &&& 63)) ||| ((xs (i + (2 : Int32)).toNatClampNeg).toInt64 &&& (4294967295 : Int64))) (1 : Int32) _ h) (cwV 2 hts gL_law_X8_smooth rfl rfl rfl (by decide +kernel) ⟨Nat.le_of_ble_eq_true rfl, Nat.le_of_ble_eq_true rfl⟩) ⟨pre_fb, va_recv hK hPx (ci := 7) (q0 := 0) rfl rfl, pre_of hPx hDx hK hN⟩ rfl rfl hl.1 rfl (lv_room (Nat.le_of_ble_eq_true rfl)) dL_law_296 ⟨(by show _ ≤ 600000; omega), (by show _ ≤ 7302250; omega)⟩) hS (fun q _ h => hFx q h) hFx (fun r X2 t H1 locs ht hvm h hB hz1 hk1 hS => ?_)
    obtain ⟨hP1, hD1⟩ := hB
    rw [ht] at hP1
    obtain ⟨hP, hD⟩ := frame2 hP hD hk1 hFx hP1 hD1
    generalize H1 = H at hP hS ⊢
    obtain ⟨hc1, hc2, h⟩ := h
    refine W.widen (k := 10 + cc_ (xc_ X2)) (n := 2034266 + cs_ (xc_ X2)) (by omega) (by omega) ?_
    refine lv_aload_n hx hb dL_law_299 rfl (lv_at hl 2 rfl) ?_
    refine lv_aload_n hx hb dL_law_300 rfl (lv_at hl 0 rfl) ?_
    refine lv_iload_n hx hb dL_law_301 rfl (lv_at hl 3 rfl) ?_
    refine lv_iconst (v := (1 : Int32)) hx hb dL_law_302 (by decide) ?_
    refine lv_iadd hx hb dL_law_303 ?_
    refine va_sld hx hb hX hbl hbA hS hi1 dL_law_304 ?_
    refine lv_i2l hx hb dL_law_305 rfl ?_
    refine lv_bipush (v := (32 : Int32)) hx hb dL_law_306 (by decide) ?_
    refine lv_lshl hx hb dL_law_308 rfl ?_
    refine lv_aload_n hx hb dL_law_309 rfl (lv_at hl 0 rfl) ?_
    refine lv_iload_n hx hb dL_law_310 rfl (lv_at hl 3 rfl) ?_
    refine lv_iconst (v := (2 : Int32)) hx hb dL_law_311 (by decide) ?_
    refine lv_iadd hx hb dL_law_312 ?_
    refine va_sld hx hb hX hbl hbA hS hi2 dL_law_313 ?_
    refine lv_i2l hx hb dL_law_314 rfl ?_
    refine lv_ldc2 hx hb hown (hts (.constantLong RL 13 (4294967295)) (by decide +kernel)) dL_law_315 ?_
    refine lv_land hx hb dL_law_318 ?_
    refine lv_lor hx hb dL_law_319 ?_
    refine lv_aload_n hx hb dL_law_320 rfl (lv_at hl 0 rfl) ?_
    refine lv_iload_n hx hb dL_law_321 rfl (lv_at hl 3 rfl) ?_
    refine lv_iconst (v := (3 : Int32)) hx hb dL_law_322 (by decide) ?_
    refine lv_iadd hx hb dL_law_323 ?_
    refine va_sld hx hb hX hbl hbA hS hi3 dL_law_324 ?_
    refine lv_if_eq (tgt := 332) hx hb dL_law_325 (by decide) (fun k2 => ?_) (fun k2 => ?_)
    · exact absurd k2 k0
    · refine lv_iconst (v := (1 : Int32)) hx hb dL_law_328 (by decide) ?_
      refine lv_goto (tgt := 333) hx hb dL_law_329 (by decide) ?_
      have hPm : va_P (dC, dI) vwCl [(h1, .inr (8, [.int M.1, .ref qs.1, .ref qs.2.1, .int M.2.2.2.1, .long M.2.2.2.2.1, .int M.2.2.2.2.2.1, .ref qs.2.2.1, .ref qs.2.2.2.1, .ref qs.2.2.2.2.1, .int M.2.2.2.2.2.2.2.2.2.1, .long M.2.2.2.2.2.2.2.2.2.2.1, .int M.2.2.2.2.2.2.2.2.2.2.2.1, .ref qs.2.2.2.2.2.1, .ref qs.2.2.2.2.2.2.1, .int M.2.2.2.2.2.2.2.2.2.2.2.2.2.2.1, .ref qs.2.2.2.2.2.2.2, .long M.2.2.2.2.2.2.2.2.2.2.2.2.2.2.2.2.1, .long M.2.2.2.2.2.2.2.2.2.2.2.2.2.2.2.2.2.1, .int M.2.2.2.2.2.2.2.2.2.2.2.2.2.2.2.2.2.2])), (qs.1, .inl (cI, 9592, .inl (M.2.1))), (qs.2.1, .inl (cZ, 2000001, .inl (M.2.2.1))), (qs.2.2.1, .inl (cJ, 5000, .inr (.inl (M.2.2.2.2.2.2.1)))), (qs.2.2.2.1, .inl (cJ, 5000, .inr (.inl (M.2.2.2.2.2.2.2.1)))), (qs.2.2.2.2.1, .inl (cZ, 5000, .inl (M.2.2.2.2.2.2.2.2.1))), (qs.2.2.2.2.2.1, .inl (cJ, 16, .inr (.inl (M.2.2.2.2.2.2.2.2.2.2.2.2.1)))), (qs.2.2.2.2.2.2.1, .inl (cI, 16, .inl (M.2.2.2.2.2.2.2.2.2.2.2.2.2.1))), (qs.2.2.2.2.2.2.2, .inl (cJ, 9616, .inr (.inl (M.2.2.2.2.2.2.2.2.2.2.2.2.2.2.2.1))))] H := P_right hP
      have hDm : va_D (fun q : Nat => s.heap.size ≤ q) [(h1, .inr (8, [.int M.1, .ref qs.1, .ref qs.2.1, .int M.2.2.2.1, .long M.2.2.2.2.1, .int M.2.2.2.2.2.1, .ref qs.2.2.1, .ref qs.2.2.2.1, .ref qs.2.2.2.2.1, .int M.2.2.2.2.2.2.2.2.2.1, .long M.2.2.2.2.2.2.2.2.2.2.1, .int M.2.2.2.2.2.2.2.2.2.2.2.1, .ref qs.2.2.2.2.2.1, .ref qs.2.2.2.2.2.2.1, .int M.2.2.2.2.2.2.2.2.2.2.2.2.2.2.1, .ref qs.2.2.2.2.2.2.2, .long M.2.2.2.2.2.2.2.2.2.2.2.2.2.2.2.2.1, .long M.2.2.2.2.2.2.2.2.2.2.2.2.2.2.2.2.2.1, .int M.2.2.2.2.2.2.2.2.2.2.2.2.2.2.2.2.2.2])), (qs.1, .inl (cI, 9592, .inl (M.2.1))), (qs.2.1, .inl (cZ, 2000001, .inl (M.2.2.1))), (qs.2.2.1, .inl (cJ, 5000, .inr (.inl (M.2.2.2.2.2.2.1)))), (qs.2.2.2.1, .inl (cJ, 5000, .inr (.inl (M.2.2.2.2.2.2.2.1)))), (qs.2.2.2.2.1, .inl (cZ, 5000, .inl (M.2.2.2.2.2.2.2.2.1))), (qs.2.2.2.2.2.1, .inl (cJ, 16, .inr (.inl (M.2.2.2.2.2.2.2.2.2.2.2.2.1)))), (qs.2.2.2.2.2.2.1, .inl (cI, 16, .inl (M.2.2.2.2.2.2.2.2.2.2.2.2.2.1))), (qs.2.2.2.2.2.2.2, .inl (cJ, 9616, .inr (.inl (M.2.2.2.2.2.2.2.2.2.2.2.2.2.2.2.1))))] := D_right hD
      have hFm : ∀ q, va_A [(h1, .inr (8, [.int M.1, .ref qs.1, .ref qs.2.1, .int M.2.2.2.1, .long M.2.2.2.2.1, .int M.2.2.2.2.2.1, .ref qs.2.2.1, .ref qs.2.2.2.1, .ref qs.2.2.2.2.1, .int M.2.2.2.2.2.2.2.2.2.1, .long M.2.2.2.2.2.2.2.2.2.2.1, .int M.2.2.2.2.2.2.2.2.2.2.2.1, .ref qs.2.2.2.2.2.1, .ref qs.2.2.2.2.2.2.1, .int M.2.2.2.2.2.2.2.2.2.2.2.2.2.2.1, .ref qs.2.2.2.2.2.2.2, .long M.2.2.2.2.2.2.2.2.2.2.2.2.2.2.2.2.1, .long M.2.2.2.2.2.2.2.2.2.2.2.2.2.2.2.2.2.1, .int M.2.2.2.2.2.2.2.2.2.2.2.2.2.2.2.2.2.2])), (qs.1, .inl (cI, 9592, .inl (M.2.1))), (qs.2.1, .inl (cZ, 2000001, .inl (M.2.2.1))), (qs.2.2.1, .inl (cJ, 5000, .inr (.inl (M.2.2.2.2.2.2.1)))), (qs.2.2.2.1, .inl (cJ, 5000, .inr (.inl (M.2.2.2.2.2.2.2.1)))), (qs.2.2.2.2.1, .inl (cZ, 5000, .inl (M.2.2.2.2.2.2.2.2.1))), (qs.2.2.2.2.2.1, .inl (cJ, 16, .inr (.inl (M.2.2.2.2.2.2.2.2.2.2.2.2.1)))), (qs.2.2.2.2.2.2.1, .inl (cI, 16, .inl (M.2.2.2.2.2.2.2.2.2.2.2.2.2.1))), (qs.2.2.2.2.2.2.2, .inl (cJ, 9616, .inr (.inl (M.2.2.2.2.2.2.2.2.2.2.2.2.2.2.2.1))))] H.size q → (fun q : Nat => s.heap.size ≤ q) q := F_right hD hS hA
      have b3 := cc__le (xc_ X2)
      have b4 := cs__le (xc_ X2)
      refine va_calli (va_runV (As := [.long (((xs (i + (1 : Int32)).toNatClampNeg).toInt64 <<< ((32 : Int32).toInt64 &&& 63)) ||| ((xs (i + (2 : Int32)).toNatClampNeg).toInt64 &&& (4294967295 : Int64))), .int (1 : Int32)]) (rest := [.int r]) ⟨hx, hb, hml, hown, hts⟩ (c_X9_smooth l dC dI cI cJ cZ _ h1 M.1 M.2.1 qs.1 M.2.2.1 qs.2.1 M.2.2.2.1 M.2.2.2.2.1 M.2.2.2.2.2.1 M.2.2.2.2.2.2.1 qs.2.2.1 M.2.2.2.2.2.2.2.1 qs.2.2.2.1 M.2.2.2.2.2.2.2.2.1 qs.2.2.2.2.1 M.2.2.2.2.2.2.2.2.2.1 M.2.2.2.2.2.2.2.2.2.2.1 M.2.2.2.2.2.2.2.2.2.2.2.1 M.2.2.2.2.2.2.2.2.2.2.2.2.1 qs.2.2.2.2.2.1 M.2.2.2.2.2.2.2.2.2.2.2.2.2.1 qs.2.2.2.2.2.2.1 M.2.2.2.2.2.2.2.2.2.2.2.2.2.2.1 M.2.2.2.2.2.2.2.2.2.2.2.2.2.2.2.1 qs.2.2.2.2.2.2.2 M.2.2.2.2.2.2.2.2.2.2.2.2.2.2.2.2.1 M.2.2.2.2.2.2.2.2.2.2.2.2.2.2.2.2.2.1 M.2.2.2.2.2.2.2.2.2.2.2.2.2.2.2.2.2.2 (((xs (i + (1 : Int32)).toNatClampNeg).toInt64 <<< ((32 : Int32).toInt64 &&& 63)) ||| ((xs (i + (2 : Int32)).toNatClampNeg).toInt64 &&& (4294967295 : Int64))) (1 : Int32) _ h) (cwV 2 hts gL_law_X9_smooth rfl rfl rfl (by decide +kernel) ⟨Nat.le_of_ble_eq_true rfl, Nat.le_of_ble_eq_true rfl⟩) ⟨pre_fb, va_recv hK hPm (ci := 8) (q0 := 0) rfl rfl, pre_of hPm hDm hK hN⟩ rfl rfl hl.1 rfl (lv_room (Nat.le_of_ble_eq_true rfl)) dL_law_333 ⟨(by show _ ≤ 600000; omega), (by show _ ≤ 7302250; omega)⟩) hS (fun q _ h => hFm q h) hFm (fun r2 u t H1 locs ht hvm h hB hz1 hk1 hS => ?_)
      obtain ⟨hP1, hD1⟩ := hB
      rw [ht] at hP1
      obtain ⟨hP, hD⟩ := frame2r (wr := xcells cI cJ cZ h0 X2) (wc := mcells cI cJ cZ h1 qs M) (w1 := mcells cI cJ cZ h1 qs (M.1, M.2.1, M.2.2.1, M.2.2.2.1, M.2.2.2.2.1, M.2.2.2.2.2.1, M.2.2.2.2.2.2.1, M.2.2.2.2.2.2.2.1, M.2.2.2.2.2.2.2.2.1, M.2.2.2.2.2.2.2.2.2.1, M.2.2.2.2.2.2.2.2.2.2.1, M.2.2.2.2.2.2.2.2.2.2.2.1, M.2.2.2.2.2.2.2.2.2.2.2.2.1, M.2.2.2.2.2.2.2.2.2.2.2.2.2.1, M.2.2.2.2.2.2.2.2.2.2.2.2.2.2.1, M.2.2.2.2.2.2.2.2.2.2.2.2.2.2.2.1, M.2.2.2.2.2.2.2.2.2.2.2.2.2.2.2.2.1, M.2.2.2.2.2.2.2.2.2.2.2.2.2.2.2.2.2.1, M.2.2.2.2.2.2.2.2.2.2.2.2.2.2.2.2.2.2)) hP hD hk1 hFm hP1 hD1
      generalize H1 = H at hP hS ⊢
      obtain ⟨hre, hI⟩ := h
      refine lv_icmp_eq (tgt := 1181) hx hb dL_law_336 (by decide) (fun c9 => ?_) (fun c9 => absurd hre c9)
      refine W.widen (k := 10 + cc_ (xc_ X2)) (n := 2034266 + cs_ (xc_ X2)) (by omega) (by omega) ?_
      exact hnx X2 (M.1, M.2.1, M.2.2.1, M.2.2.2.1, M.2.2.2.2.1, M.2.2.2.2.2.1, M.2.2.2.2.2.2.1, M.2.2.2.2.2.2.2.1, M.2.2.2.2.2.2.2.2.1, M.2.2.2.2.2.2.2.2.2.1, M.2.2.2.2.2.2.2.2.2.2.1, M.2.2.2.2.2.2.2.2.2.2.2.1, M.2.2.2.2.2.2.2.2.2.2.2.2.1, M.2.2.2.2.2.2.2.2.2.2.2.2.2.1, M.2.2.2.2.2.2.2.2.2.2.2.2.2.2.1, M.2.2.2.2.2.2.2.2.2.2.2.2.2.2.2.1, M.2.2.2.2.2.2.2.2.2.2.2.2.2.2.2.2.1, M.2.2.2.2.2.2.2.2.2.2.2.2.2.2.2.2.2.1, M.2.2.2.2.2.2.2.2.2.2.2.2.2.2.2.2.2.2) hI H locs hP hD hS ls hl
set_option maxHeartbeats 4000000 in
set_option maxRecDepth 100000 in
theorem lcase_prime {p : Program} {l : Launch} {e : Env} {s : State} {m : MethodId} {below : List Frame} {meth : Method} {c : Code} {dC : Nat → ClassId} {dI : Nat → Nat → Nat} {cI cJ cZ : ClassId} {b h0 h1 : Nat} {qs : AM_} {Inv : XC_ → MC_ → Prop} {L : Nat} {xs : Nat → Int32} (C0 : lw_At p s m meth c b L xs) (hK : va_K (dC, dI) vwCl (tys_ cI cJ cZ) s) (hN : nw_ s) {i : Int32} (hi1 : vp_in (i + (1 : Int32)) L) (hi2 : vp_in (i + (2 : Int32)) L) (hi3 : vp_in (i + (3 : Int32)) L) (hi4 : vp_in (i + (4 : Int32)) L) (hst : st_prime Inv) (hnx : law_at p l e s m below meth c dC dI cI cJ cZ b h0 h1 qs Inv 1181 i) : law_at p l e s m below meth c dC dI cI cJ cZ b h0 h1 qs Inv 341 i := by
  obtain ⟨hx, hb, hr, hml, hown, hts, hX, hbl, hlocks, hgv⟩ := C0
  replace hts := fun w h => hts w (wsL_law_in w h)
  have hA : ∀ q : Nat, s.heap.size ≤ q → (fun q : Nat => s.heap.size ≤ q) q := fun _ h => h
  have hbA : ¬ (fun q : Nat => s.heap.size ≤ q) b := Nat.not_le.mpr hbl
  have hown : s.vm.findClass RL = some m.cls := hown
  intro X M hI H locs hP hD hS ls hl
  refine lv_aload_n hx hb dL_law_341 rfl (lv_at hl 1 rfl) ?_
  refine lv_aload_n hx hb dL_law_342 rfl (lv_at hl 0 rfl) ?_
  refine lv_iload_n hx hb dL_law_343 rfl (lv_at hl 3 rfl) ?_
  refine lv_iconst (v := (1 : Int32)) hx hb dL_law_344 (by decide) ?_
  refine lv_iadd hx hb dL_law_345 ?_
  refine va_sld hx hb hX hbl hbA hS hi1 dL_law_346 ?_
  refine lv_i2l hx hb dL_law_347 rfl ?_
  refine lv_bipush (v := (32 : Int32)) hx hb dL_law_348 (by decide) ?_
  refine lv_lshl hx hb dL_law_350 rfl ?_
  refine lv_aload_n hx hb dL_law_351 rfl (lv_at hl 0 rfl) ?_
  refine lv_iload_n hx hb dL_law_352 rfl (lv_at hl 3 rfl) ?_
  refine lv_iconst (v := (2 : Int32)) hx hb dL_law_353 (by decide) ?_
  refine lv_iadd hx hb dL_law_354 ?_
  refine va_sld hx hb hX hbl hbA hS hi2 dL_law_355 ?_
  refine lv_i2l hx hb dL_law_356 rfl ?_
  refine lv_ldc2 hx hb hown (hts (.constantLong RL 13 (4294967295)) (by decide +kernel)) dL_law_357 ?_
  refine lv_land hx hb dL_law_360 ?_
  refine lv_lor hx hb dL_law_361 ?_
  obtain ⟨mc, ms, hmc, hms, h⟩ := hst (xc_ X) M (((xs (i + (1 : Int32)).toNatClampNeg).toInt64 <<< ((32 : Int32).toInt64 &&& 63)) ||| ((xs (i + (2 : Int32)).toNatClampNeg).toInt64 &&& (4294967295 : Int64))) hI
  have hPx := P_left hP
  have hDx := D_left hD
  have hFx := F_left hD hS hA
  have b1 := cc__le (xc_ X)
  have b2 := cs__le (xc_ X)
  refine va_calli (va_runV (As := [.long (((xs (i + (1 : Int32)).toNatClampNeg).toInt64 <<< ((32 : Int32).toInt64 &&& 63)) ||| ((xs (i + (2 : Int32)).toNatClampNeg).toInt64 &&& (4294967295 : Int64)))]) (rest := []) ⟨hx, hb, hml, hown, hts⟩ (cx_prime l dC dI cI cJ cZ _ h0 mc ms X (((xs (i + (1 : Int32)).toNatClampNeg).toInt64 <<< ((32 : Int32).toInt64 &&& 63)) ||| ((xs (i + (2 : Int32)).toNatClampNeg).toInt64 &&& (4294967295 : Int64))) _ h) (cwV 1 hts gL_law_X8_prime rfl rfl rfl (by decide +kernel) ⟨Nat.le_of_ble_eq_true rfl, Nat.le_of_ble_eq_true rfl⟩) ⟨pre_fb, va_recv hK hPx (ci := 7) (q0 := 0) rfl rfl, pre_of hPx hDx hK hN⟩ rfl rfl hl.1 rfl (lv_room (Nat.le_of_ble_eq_true rfl)) dL_law_362 ⟨(by show _ ≤ 600000; omega), (by show _ ≤ 7302250; omega)⟩) hS (fun q _ h => hFx q h) hFx (fun r X2 t H1 locs ht hvm h hB hz1 hk1 hS => ?_)
  obtain ⟨hP1, hD1⟩ := hB
  rw [ht] at hP1
  obtain ⟨hP, hD⟩ := frame2 hP hD hk1 hFx hP1 hD1
  generalize H1 = H at hP hS ⊢
  obtain ⟨hc1, hc2, h⟩ := h
  refine W.widen (k := 10 + cc_ (xc_ X2)) (n := 2034266 + cs_ (xc_ X2)) (by omega) (by omega) ?_
  refine lv_aload_n hx hb dL_law_365 rfl (lv_at hl 2 rfl) ?_
  refine lv_aload_n hx hb dL_law_366 rfl (lv_at hl 0 rfl) ?_
  refine lv_iload_n hx hb dL_law_367 rfl (lv_at hl 3 rfl) ?_
  refine lv_iconst (v := (1 : Int32)) hx hb dL_law_368 (by decide) ?_
  refine lv_iadd hx hb dL_law_369 ?_
  refine va_sld hx hb hX hbl hbA hS hi1 dL_law_370 ?_
  refine lv_i2l hx hb dL_law_371 rfl ?_
  refine lv_bipush (v := (32 : Int32)) hx hb dL_law_372 (by decide) ?_
  refine lv_lshl hx hb dL_law_374 rfl ?_
  refine lv_aload_n hx hb dL_law_375 rfl (lv_at hl 0 rfl) ?_
  refine lv_iload_n hx hb dL_law_376 rfl (lv_at hl 3 rfl) ?_
  refine lv_iconst (v := (2 : Int32)) hx hb dL_law_377 (by decide) ?_
  refine lv_iadd hx hb dL_law_378 ?_
  refine va_sld hx hb hX hbl hbA hS hi2 dL_law_379 ?_
  refine lv_i2l hx hb dL_law_380 rfl ?_
  refine lv_ldc2 hx hb hown (hts (.constantLong RL 13 (4294967295)) (by decide +kernel)) dL_law_381 ?_
  refine lv_land hx hb dL_law_384 ?_
  refine lv_lor hx hb dL_law_385 ?_
  have hPm : va_P (dC, dI) vwCl [(h1, .inr (8, [.int M.1, .ref qs.1, .ref qs.2.1, .int M.2.2.2.1, .long M.2.2.2.2.1, .int M.2.2.2.2.2.1, .ref qs.2.2.1, .ref qs.2.2.2.1, .ref qs.2.2.2.2.1, .int M.2.2.2.2.2.2.2.2.2.1, .long M.2.2.2.2.2.2.2.2.2.2.1, .int M.2.2.2.2.2.2.2.2.2.2.2.1, .ref qs.2.2.2.2.2.1, .ref qs.2.2.2.2.2.2.1, .int M.2.2.2.2.2.2.2.2.2.2.2.2.2.2.1, .ref qs.2.2.2.2.2.2.2, .long M.2.2.2.2.2.2.2.2.2.2.2.2.2.2.2.2.1, .long M.2.2.2.2.2.2.2.2.2.2.2.2.2.2.2.2.2.1, .int M.2.2.2.2.2.2.2.2.2.2.2.2.2.2.2.2.2.2])), (qs.1, .inl (cI, 9592, .inl (M.2.1))), (qs.2.1, .inl (cZ, 2000001, .inl (M.2.2.1))), (qs.2.2.1, .inl (cJ, 5000, .inr (.inl (M.2.2.2.2.2.2.1)))), (qs.2.2.2.1, .inl (cJ, 5000, .inr (.inl (M.2.2.2.2.2.2.2.1)))), (qs.2.2.2.2.1, .inl (cZ, 5000, .inl (M.2.2.2.2.2.2.2.2.1))), (qs.2.2.2.2.2.1, .inl (cJ, 16, .inr (.inl (M.2.2.2.2.2.2.2.2.2.2.2.2.1)))), (qs.2.2.2.2.2.2.1, .inl (cI, 16, .inl (M.2.2.2.2.2.2.2.2.2.2.2.2.2.1))), (qs.2.2.2.2.2.2.2, .inl (cJ, 9616, .inr (.inl (M.2.2.2.2.2.2.2.2.2.2.2.2.2.2.2.1))))] H := P_right hP
  have hDm : va_D (fun q : Nat => s.heap.size ≤ q) [(h1, .inr (8, [.int M.1, .ref qs.1, .ref qs.2.1, .int M.2.2.2.1, .long M.2.2.2.2.1, .int M.2.2.2.2.2.1, .ref qs.2.2.1, .ref qs.2.2.2.1, .ref qs.2.2.2.2.1, .int M.2.2.2.2.2.2.2.2.2.1, .long M.2.2.2.2.2.2.2.2.2.2.1, .int M.2.2.2.2.2.2.2.2.2.2.2.1, .ref qs.2.2.2.2.2.1, .ref qs.2.2.2.2.2.2.1, .int M.2.2.2.2.2.2.2.2.2.2.2.2.2.2.1, .ref qs.2.2.2.2.2.2.2, .long M.2.2.2.2.2.2.2.2.2.2.2.2.2.2.2.2.1, .long M.2.2.2.2.2.2.2.2.2.2.2.2.2.2.2.2.2.1, .int M.2.2.2.2.2.2.2.2.2.2.2.2.2.2.2.2.2.2])), (qs.1, .inl (cI, 9592, .inl (M.2.1))), (qs.2.1, .inl (cZ, 2000001, .inl (M.2.2.1))), (qs.2.2.1, .inl (cJ, 5000, .inr (.inl (M.2.2.2.2.2.2.1)))), (qs.2.2.2.1, .inl (cJ, 5000, .inr (.inl (M.2.2.2.2.2.2.2.1)))), (qs.2.2.2.2.1, .inl (cZ, 5000, .inl (M.2.2.2.2.2.2.2.2.1))), (qs.2.2.2.2.2.1, .inl (cJ, 16, .inr (.inl (M.2.2.2.2.2.2.2.2.2.2.2.2.1)))), (qs.2.2.2.2.2.2.1, .inl (cI, 16, .inl (M.2.2.2.2.2.2.2.2.2.2.2.2.2.1))), (qs.2.2.2.2.2.2.2, .inl (cJ, 9616, .inr (.inl (M.2.2.2.2.2.2.2.2.2.2.2.2.2.2.2.1))))] := D_right hD
  have hFm : ∀ q, va_A [(h1, .inr (8, [.int M.1, .ref qs.1, .ref qs.2.1, .int M.2.2.2.1, .long M.2.2.2.2.1, .int M.2.2.2.2.2.1, .ref qs.2.2.1, .ref qs.2.2.2.1, .ref qs.2.2.2.2.1, .int M.2.2.2.2.2.2.2.2.2.1, .long M.2.2.2.2.2.2.2.2.2.2.1, .int M.2.2.2.2.2.2.2.2.2.2.2.1, .ref qs.2.2.2.2.2.1, .ref qs.2.2.2.2.2.2.1, .int M.2.2.2.2.2.2.2.2.2.2.2.2.2.2.1, .ref qs.2.2.2.2.2.2.2, .long M.2.2.2.2.2.2.2.2.2.2.2.2.2.2.2.2.1, .long M.2.2.2.2.2.2.2.2.2.2.2.2.2.2.2.2.2.1, .int M.2.2.2.2.2.2.2.2.2.2.2.2.2.2.2.2.2.2])), (qs.1, .inl (cI, 9592, .inl (M.2.1))), (qs.2.1, .inl (cZ, 2000001, .inl (M.2.2.1))), (qs.2.2.1, .inl (cJ, 5000, .inr (.inl (M.2.2.2.2.2.2.1)))), (qs.2.2.2.1, .inl (cJ, 5000, .inr (.inl (M.2.2.2.2.2.2.2.1)))), (qs.2.2.2.2.1, .inl (cZ, 5000, .inl (M.2.2.2.2.2.2.2.2.1))), (qs.2.2.2.2.2.1, .inl (cJ, 16, .inr (.inl (M.2.2.2.2.2.2.2.2.2.2.2.2.1)))), (qs.2.2.2.2.2.2.1, .inl (cI, 16, .inl (M.2.2.2.2.2.2.2.2.2.2.2.2.2.1))), (qs.2.2.2.2.2.2.2, .inl (cJ, 9616, .inr (.inl (M.2.2.2.2.2.2.2.2.2.2.2.2.2.2.2.1))))] H.size q → (fun q : Nat => s.heap.size ≤ q) q := F_right hD hS hA
  have b3 := cc__le (xc_ X2)
  have b4 := cs__le (xc_ X2)
  refine va_calli (va_runV (As := [.long (((xs (i + (1 : Int32)).toNatClampNeg).toInt64 <<< ((32 : Int32).toInt64 &&& 63)) ||| ((xs (i + (2 : Int32)).toNatClampNeg).toInt64 &&& (4294967295 : Int64)))]) (rest := [.int r]) ⟨hx, hb, hml, hown, hts⟩ (c_X9_prime l dC dI cI cJ cZ _ h1 M.1 M.2.1 qs.1 M.2.2.1 qs.2.1 M.2.2.2.1 M.2.2.2.2.1 M.2.2.2.2.2.1 M.2.2.2.2.2.2.1 qs.2.2.1 M.2.2.2.2.2.2.2.1 qs.2.2.2.1 M.2.2.2.2.2.2.2.2.1 qs.2.2.2.2.1 M.2.2.2.2.2.2.2.2.2.1 M.2.2.2.2.2.2.2.2.2.2.1 M.2.2.2.2.2.2.2.2.2.2.2.1 M.2.2.2.2.2.2.2.2.2.2.2.2.1 qs.2.2.2.2.2.1 M.2.2.2.2.2.2.2.2.2.2.2.2.2.1 qs.2.2.2.2.2.2.1 M.2.2.2.2.2.2.2.2.2.2.2.2.2.2.1 M.2.2.2.2.2.2.2.2.2.2.2.2.2.2.2.1 qs.2.2.2.2.2.2.2 M.2.2.2.2.2.2.2.2.2.2.2.2.2.2.2.2.1 M.2.2.2.2.2.2.2.2.2.2.2.2.2.2.2.2.2.1 M.2.2.2.2.2.2.2.2.2.2.2.2.2.2.2.2.2.2 (((xs (i + (1 : Int32)).toNatClampNeg).toInt64 <<< ((32 : Int32).toInt64 &&& 63)) ||| ((xs (i + (2 : Int32)).toNatClampNeg).toInt64 &&& (4294967295 : Int64))) _ h) (cwV 1 hts gL_law_X9_prime rfl rfl rfl (by decide +kernel) ⟨Nat.le_of_ble_eq_true rfl, Nat.le_of_ble_eq_true rfl⟩) ⟨pre_fb, va_recv hK hPm (ci := 8) (q0 := 0) rfl rfl, pre_of hPm hDm hK hN⟩ rfl rfl hl.1 rfl (lv_room (Nat.le_of_ble_eq_true rfl)) dL_law_386 ⟨(by show _ ≤ 600000; omega), (by show _ ≤ 7302250; omega)⟩) hS (fun q _ h => hFm q h) hFm (fun r2 u t H1 locs ht hvm h hB hz1 hk1 hS => ?_)
  obtain ⟨hP1, hD1⟩ := hB
  rw [ht] at hP1
  obtain ⟨hP, hD⟩ := frame2r (wr := xcells cI cJ cZ h0 X2) (wc := mcells cI cJ cZ h1 qs M) (w1 := mcells cI cJ cZ h1 qs (M.1, M.2.1, M.2.2.1, M.2.2.2.1, M.2.2.2.2.1, M.2.2.2.2.2.1, M.2.2.2.2.2.2.1, M.2.2.2.2.2.2.2.1, M.2.2.2.2.2.2.2.2.1, M.2.2.2.2.2.2.2.2.2.1, M.2.2.2.2.2.2.2.2.2.2.1, M.2.2.2.2.2.2.2.2.2.2.2.1, M.2.2.2.2.2.2.2.2.2.2.2.2.1, M.2.2.2.2.2.2.2.2.2.2.2.2.2.1, M.2.2.2.2.2.2.2.2.2.2.2.2.2.2.1, M.2.2.2.2.2.2.2.2.2.2.2.2.2.2.2.1, M.2.2.2.2.2.2.2.2.2.2.2.2.2.2.2.2.1, M.2.2.2.2.2.2.2.2.2.2.2.2.2.2.2.2.2.1, M.2.2.2.2.2.2.2.2.2.2.2.2.2.2.2.2.2.2)) hP hD hk1 hFm hP1 hD1
  generalize H1 = H at hP hS ⊢
  obtain ⟨hre, hI⟩ := h
  refine lv_icmp_eq (tgt := 1181) hx hb dL_law_389 (by decide) (fun c9 => ?_) (fun c9 => absurd hre c9)
  refine W.widen (k := 10 + cc_ (xc_ X2)) (n := 2034266 + cs_ (xc_ X2)) (by omega) (by omega) ?_
  exact hnx X2 (M.1, M.2.1, M.2.2.1, M.2.2.2.1, M.2.2.2.2.1, M.2.2.2.2.2.1, M.2.2.2.2.2.2.1, M.2.2.2.2.2.2.2.1, M.2.2.2.2.2.2.2.2.1, M.2.2.2.2.2.2.2.2.2.1, M.2.2.2.2.2.2.2.2.2.2.1, M.2.2.2.2.2.2.2.2.2.2.2.1, M.2.2.2.2.2.2.2.2.2.2.2.2.1, M.2.2.2.2.2.2.2.2.2.2.2.2.2.1, M.2.2.2.2.2.2.2.2.2.2.2.2.2.2.1, M.2.2.2.2.2.2.2.2.2.2.2.2.2.2.2.1, M.2.2.2.2.2.2.2.2.2.2.2.2.2.2.2.2.1, M.2.2.2.2.2.2.2.2.2.2.2.2.2.2.2.2.2.1, M.2.2.2.2.2.2.2.2.2.2.2.2.2.2.2.2.2.2) hI H locs hP hD hS ls hl
set_option maxHeartbeats 4000000 in
set_option maxRecDepth 100000 in
theorem lcase_next {p : Program} {l : Launch} {e : Env} {s : State} {m : MethodId} {below : List Frame} {meth : Method} {c : Code} {dC : Nat → ClassId} {dI : Nat → Nat → Nat} {cI cJ cZ : ClassId} {b h0 h1 : Nat} {qs : AM_} {Inv : XC_ → MC_ → Prop} {L : Nat} {xs : Nat → Int32} (C0 : lw_At p s m meth c b L xs) (hK : va_K (dC, dI) vwCl (tys_ cI cJ cZ) s) (hN : nw_ s) {i : Int32} (hi1 : vp_in (i + (1 : Int32)) L) (hi2 : vp_in (i + (2 : Int32)) L) (hi3 : vp_in (i + (3 : Int32)) L) (hi4 : vp_in (i + (4 : Int32)) L) (hst : st_next Inv) (hnx : law_at p l e s m below meth c dC dI cI cJ cZ b h0 h1 qs Inv 1181 i) : law_at p l e s m below meth c dC dI cI cJ cZ b h0 h1 qs Inv 394 i := by
  obtain ⟨hx, hb, hr, hml, hown, hts, hX, hbl, hlocks, hgv⟩ := C0
  replace hts := fun w h => hts w (wsL_law_in w h)
  have hA : ∀ q : Nat, s.heap.size ≤ q → (fun q : Nat => s.heap.size ≤ q) q := fun _ h => h
  have hbA : ¬ (fun q : Nat => s.heap.size ≤ q) b := Nat.not_le.mpr hbl
  have hown : s.vm.findClass RL = some m.cls := hown
  intro X M hI H locs hP hD hS ls hl
  refine lv_aload_n hx hb dL_law_394 rfl (lv_at hl 1 rfl) ?_
  refine lv_aload_n hx hb dL_law_395 rfl (lv_at hl 0 rfl) ?_
  refine lv_iload_n hx hb dL_law_396 rfl (lv_at hl 3 rfl) ?_
  refine lv_iconst (v := (1 : Int32)) hx hb dL_law_397 (by decide) ?_
  refine lv_iadd hx hb dL_law_398 ?_
  refine va_sld hx hb hX hbl hbA hS hi1 dL_law_399 ?_
  refine lv_i2l hx hb dL_law_400 rfl ?_
  refine lv_bipush (v := (32 : Int32)) hx hb dL_law_401 (by decide) ?_
  refine lv_lshl hx hb dL_law_403 rfl ?_
  refine lv_aload_n hx hb dL_law_404 rfl (lv_at hl 0 rfl) ?_
  refine lv_iload_n hx hb dL_law_405 rfl (lv_at hl 3 rfl) ?_
  refine lv_iconst (v := (2 : Int32)) hx hb dL_law_406 (by decide) ?_
  refine lv_iadd hx hb dL_law_407 ?_
  refine va_sld hx hb hX hbl hbA hS hi2 dL_law_408 ?_
  refine lv_i2l hx hb dL_law_409 rfl ?_
  refine lv_ldc2 hx hb hown (hts (.constantLong RL 13 (4294967295)) (by decide +kernel)) dL_law_410 ?_
  refine lv_land hx hb dL_law_413 ?_
  refine lv_lor hx hb dL_law_414 ?_
  refine lv_aload_n hx hb dL_law_415 rfl (lv_at hl 0 rfl) ?_
  refine lv_iload_n hx hb dL_law_416 rfl (lv_at hl 3 rfl) ?_
  refine lv_iconst (v := (3 : Int32)) hx hb dL_law_417 (by decide) ?_
  refine lv_iadd hx hb dL_law_418 ?_
  refine va_sld hx hb hX hbl hbA hS hi3 dL_law_419 ?_
  refine lv_if_eq (tgt := 427) hx hb dL_law_420 (by decide) (fun k0 => ?_) (fun k0 => ?_)
  · refine lv_iconst (v := (0 : Int32)) hx hb dL_law_427 (by decide) ?_
    obtain ⟨mc, ms, hmc, hms, h⟩ := hst (xc_ X) M (((xs (i + (1 : Int32)).toNatClampNeg).toInt64 <<< ((32 : Int32).toInt64 &&& 63)) ||| ((xs (i + (2 : Int32)).toNatClampNeg).toInt64 &&& (4294967295 : Int64))) (0 : Int32) hI
    have hPx := P_left hP
    have hDx := D_left hD
    have hFx := F_left hD hS hA
    have b1 := cc__le (xc_ X)
    have b2 := cs__le (xc_ X)
    refine va_calll (va_runV (As := [.long (((xs (i + (1 : Int32)).toNatClampNeg).toInt64 <<< ((32 : Int32).toInt64 &&& 63)) ||| ((xs (i + (2 : Int32)).toNatClampNeg).toInt64 &&& (4294967295 : Int64))), .int (0 : Int32)]) (rest := []) ⟨hx, hb, hml, hown, hts⟩ (cx_next l dC dI cI cJ cZ _ h0 mc ms X (((xs (i + (1 : Int32)).toNatClampNeg).toInt64 <<< ((32 : Int32).toInt64 &&& 63)) ||| ((xs (i + (2 : Int32)).toNatClampNeg).toInt64 &&& (4294967295 : Int64))) (0 : Int32) _ h) (cwV 2 hts gL_law_X8_next rfl rfl rfl (by decide +kernel) ⟨Nat.le_of_ble_eq_true rfl, Nat.le_of_ble_eq_true rfl⟩) ⟨pre_fb, va_recv hK hPx (ci := 7) (q0 := 0) rfl rfl, pre_of hPx hDx hK hN⟩ rfl rfl hl.1 rfl (lv_room (Nat.le_of_ble_eq_true rfl)) dL_law_428 ⟨(by show _ ≤ 600000; omega), (by show _ ≤ 7302250; omega)⟩) hS (fun q _ h => hFx q h) hFx (fun r X2 t H1 locs ht hvm h hB hz1 hk1 hS => ?_)
    obtain ⟨hP1, hD1⟩ := hB
    rw [ht] at hP1
    obtain ⟨hP, hD⟩ := frame2 hP hD hk1 hFx hP1 hD1
    generalize H1 = H at hP hS ⊢
    obtain ⟨hc1, hc2, h⟩ := h
    refine W.widen (k := 10 + cc_ (xc_ X2)) (n := 2034266 + cs_ (xc_ X2)) (by omega) (by omega) ?_
    refine lv_aload_n hx hb dL_law_431 rfl (lv_at hl 2 rfl) ?_
    refine lv_aload_n hx hb dL_law_432 rfl (lv_at hl 0 rfl) ?_
    refine lv_iload_n hx hb dL_law_433 rfl (lv_at hl 3 rfl) ?_
    refine lv_iconst (v := (1 : Int32)) hx hb dL_law_434 (by decide) ?_
    refine lv_iadd hx hb dL_law_435 ?_
    refine va_sld hx hb hX hbl hbA hS hi1 dL_law_436 ?_
    refine lv_i2l hx hb dL_law_437 rfl ?_
    refine lv_bipush (v := (32 : Int32)) hx hb dL_law_438 (by decide) ?_
    refine lv_lshl hx hb dL_law_440 rfl ?_
    refine lv_aload_n hx hb dL_law_441 rfl (lv_at hl 0 rfl) ?_
    refine lv_iload_n hx hb dL_law_442 rfl (lv_at hl 3 rfl) ?_
    refine lv_iconst (v := (2 : Int32)) hx hb dL_law_443 (by decide) ?_
    refine lv_iadd hx hb dL_law_444 ?_
    refine va_sld hx hb hX hbl hbA hS hi2 dL_law_445 ?_
    refine lv_i2l hx hb dL_law_446 rfl ?_
    refine lv_ldc2 hx hb hown (hts (.constantLong RL 13 (4294967295)) (by decide +kernel)) dL_law_447 ?_
    refine lv_land hx hb dL_law_450 ?_
    refine lv_lor hx hb dL_law_451 ?_
    refine lv_aload_n hx hb dL_law_452 rfl (lv_at hl 0 rfl) ?_
    refine lv_iload_n hx hb dL_law_453 rfl (lv_at hl 3 rfl) ?_
    refine lv_iconst (v := (3 : Int32)) hx hb dL_law_454 (by decide) ?_
    refine lv_iadd hx hb dL_law_455 ?_
    refine va_sld hx hb hX hbl hbA hS hi3 dL_law_456 ?_
    refine lv_if_eq (tgt := 464) hx hb dL_law_457 (by decide) (fun k1 => ?_) (fun k1 => ?_)
    · refine lv_iconst (v := (0 : Int32)) hx hb dL_law_464 (by decide) ?_
      have hPm : va_P (dC, dI) vwCl [(h1, .inr (8, [.int M.1, .ref qs.1, .ref qs.2.1, .int M.2.2.2.1, .long M.2.2.2.2.1, .int M.2.2.2.2.2.1, .ref qs.2.2.1, .ref qs.2.2.2.1, .ref qs.2.2.2.2.1, .int M.2.2.2.2.2.2.2.2.2.1, .long M.2.2.2.2.2.2.2.2.2.2.1, .int M.2.2.2.2.2.2.2.2.2.2.2.1, .ref qs.2.2.2.2.2.1, .ref qs.2.2.2.2.2.2.1, .int M.2.2.2.2.2.2.2.2.2.2.2.2.2.2.1, .ref qs.2.2.2.2.2.2.2, .long M.2.2.2.2.2.2.2.2.2.2.2.2.2.2.2.2.1, .long M.2.2.2.2.2.2.2.2.2.2.2.2.2.2.2.2.2.1, .int M.2.2.2.2.2.2.2.2.2.2.2.2.2.2.2.2.2.2])), (qs.1, .inl (cI, 9592, .inl (M.2.1))), (qs.2.1, .inl (cZ, 2000001, .inl (M.2.2.1))), (qs.2.2.1, .inl (cJ, 5000, .inr (.inl (M.2.2.2.2.2.2.1)))), (qs.2.2.2.1, .inl (cJ, 5000, .inr (.inl (M.2.2.2.2.2.2.2.1)))), (qs.2.2.2.2.1, .inl (cZ, 5000, .inl (M.2.2.2.2.2.2.2.2.1))), (qs.2.2.2.2.2.1, .inl (cJ, 16, .inr (.inl (M.2.2.2.2.2.2.2.2.2.2.2.2.1)))), (qs.2.2.2.2.2.2.1, .inl (cI, 16, .inl (M.2.2.2.2.2.2.2.2.2.2.2.2.2.1))), (qs.2.2.2.2.2.2.2, .inl (cJ, 9616, .inr (.inl (M.2.2.2.2.2.2.2.2.2.2.2.2.2.2.2.1))))] H := P_right hP
      have hDm : va_D (fun q : Nat => s.heap.size ≤ q) [(h1, .inr (8, [.int M.1, .ref qs.1, .ref qs.2.1, .int M.2.2.2.1, .long M.2.2.2.2.1, .int M.2.2.2.2.2.1, .ref qs.2.2.1, .ref qs.2.2.2.1, .ref qs.2.2.2.2.1, .int M.2.2.2.2.2.2.2.2.2.1, .long M.2.2.2.2.2.2.2.2.2.2.1, .int M.2.2.2.2.2.2.2.2.2.2.2.1, .ref qs.2.2.2.2.2.1, .ref qs.2.2.2.2.2.2.1, .int M.2.2.2.2.2.2.2.2.2.2.2.2.2.2.1, .ref qs.2.2.2.2.2.2.2, .long M.2.2.2.2.2.2.2.2.2.2.2.2.2.2.2.2.1, .long M.2.2.2.2.2.2.2.2.2.2.2.2.2.2.2.2.2.1, .int M.2.2.2.2.2.2.2.2.2.2.2.2.2.2.2.2.2.2])), (qs.1, .inl (cI, 9592, .inl (M.2.1))), (qs.2.1, .inl (cZ, 2000001, .inl (M.2.2.1))), (qs.2.2.1, .inl (cJ, 5000, .inr (.inl (M.2.2.2.2.2.2.1)))), (qs.2.2.2.1, .inl (cJ, 5000, .inr (.inl (M.2.2.2.2.2.2.2.1)))), (qs.2.2.2.2.1, .inl (cZ, 5000, .inl (M.2.2.2.2.2.2.2.2.1))), (qs.2.2.2.2.2.1, .inl (cJ, 16, .inr (.inl (M.2.2.2.2.2.2.2.2.2.2.2.2.1)))), (qs.2.2.2.2.2.2.1, .inl (cI, 16, .inl (M.2.2.2.2.2.2.2.2.2.2.2.2.2.1))), (qs.2.2.2.2.2.2.2, .inl (cJ, 9616, .inr (.inl (M.2.2.2.2.2.2.2.2.2.2.2.2.2.2.2.1))))] := D_right hD
      have hFm : ∀ q, va_A [(h1, .inr (8, [.int M.1, .ref qs.1, .ref qs.2.1, .int M.2.2.2.1, .long M.2.2.2.2.1, .int M.2.2.2.2.2.1, .ref qs.2.2.1, .ref qs.2.2.2.1, .ref qs.2.2.2.2.1, .int M.2.2.2.2.2.2.2.2.2.1, .long M.2.2.2.2.2.2.2.2.2.2.1, .int M.2.2.2.2.2.2.2.2.2.2.2.1, .ref qs.2.2.2.2.2.1, .ref qs.2.2.2.2.2.2.1, .int M.2.2.2.2.2.2.2.2.2.2.2.2.2.2.1, .ref qs.2.2.2.2.2.2.2, .long M.2.2.2.2.2.2.2.2.2.2.2.2.2.2.2.2.1, .long M.2.2.2.2.2.2.2.2.2.2.2.2.2.2.2.2.2.1, .int M.2.2.2.2.2.2.2.2.2.2.2.2.2.2.2.2.2.2])), (qs.1, .inl (cI, 9592, .inl (M.2.1))), (qs.2.1, .inl (cZ, 2000001, .inl (M.2.2.1))), (qs.2.2.1, .inl (cJ, 5000, .inr (.inl (M.2.2.2.2.2.2.1)))), (qs.2.2.2.1, .inl (cJ, 5000, .inr (.inl (M.2.2.2.2.2.2.2.1)))), (qs.2.2.2.2.1, .inl (cZ, 5000, .inl (M.2.2.2.2.2.2.2.2.1))), (qs.2.2.2.2.2.1, .inl (cJ, 16, .inr (.inl (M.2.2.2.2.2.2.2.2.2.2.2.2.1)))), (qs.2.2.2.2.2.2.1, .inl (cI, 16, .inl (M.2.2.2.2.2.2.2.2.2.2.2.2.2.1))), (qs.2.2.2.2.2.2.2, .inl (cJ, 9616, .inr (.inl (M.2.2.2.2.2.2.2.2.2.2.2.2.2.2.2.1))))] H.size q → (fun q : Nat => s.heap.size ≤ q) q := F_right hD hS hA
      have b3 := cc__le (xc_ X2)
      have b4 := cs__le (xc_ X2)
      refine va_calll (va_runV (As := [.long (((xs (i + (1 : Int32)).toNatClampNeg).toInt64 <<< ((32 : Int32).toInt64 &&& 63)) ||| ((xs (i + (2 : Int32)).toNatClampNeg).toInt64 &&& (4294967295 : Int64))), .int (0 : Int32)]) (rest := [.long r]) ⟨hx, hb, hml, hown, hts⟩ (c_X9_next l dC dI cI cJ cZ _ h1 M.1 M.2.1 qs.1 M.2.2.1 qs.2.1 M.2.2.2.1 M.2.2.2.2.1 M.2.2.2.2.2.1 M.2.2.2.2.2.2.1 qs.2.2.1 M.2.2.2.2.2.2.2.1 qs.2.2.2.1 M.2.2.2.2.2.2.2.2.1 qs.2.2.2.2.1 M.2.2.2.2.2.2.2.2.2.1 M.2.2.2.2.2.2.2.2.2.2.1 M.2.2.2.2.2.2.2.2.2.2.2.1 M.2.2.2.2.2.2.2.2.2.2.2.2.1 qs.2.2.2.2.2.1 M.2.2.2.2.2.2.2.2.2.2.2.2.2.1 qs.2.2.2.2.2.2.1 M.2.2.2.2.2.2.2.2.2.2.2.2.2.2.1 M.2.2.2.2.2.2.2.2.2.2.2.2.2.2.2.1 qs.2.2.2.2.2.2.2 M.2.2.2.2.2.2.2.2.2.2.2.2.2.2.2.2.1 M.2.2.2.2.2.2.2.2.2.2.2.2.2.2.2.2.2.1 M.2.2.2.2.2.2.2.2.2.2.2.2.2.2.2.2.2.2 (((xs (i + (1 : Int32)).toNatClampNeg).toInt64 <<< ((32 : Int32).toInt64 &&& 63)) ||| ((xs (i + (2 : Int32)).toNatClampNeg).toInt64 &&& (4294967295 : Int64))) (0 : Int32) _ h) (cwV 2 hts gL_law_X9_next rfl rfl rfl (by decide +kernel) ⟨Nat.le_of_ble_eq_true rfl, Nat.le_of_ble_eq_true rfl⟩) ⟨pre_fb, va_recv hK hPm (ci := 8) (q0 := 0) rfl rfl, pre_of hPm hDm hK hN⟩ rfl rfl hl.1 rfl (lv_room (Nat.le_of_ble_eq_true rfl)) dL_law_465 ⟨(by show _ ≤ 600000; omega), (by show _ ≤ 7302250; omega)⟩) hS (fun q _ h => hFm q h) hFm (fun r2 u t H1 locs ht hvm h hB hz1 hk1 hS => ?_)
      obtain ⟨hP1, hD1⟩ := hB
      rw [ht] at hP1
      obtain ⟨hP, hD⟩ := frame2r (wr := xcells cI cJ cZ h0 X2) (wc := mcells cI cJ cZ h1 qs M) (w1 := mcells cI cJ cZ h1 qs (M.1, M.2.1, M.2.2.1, M.2.2.2.1, M.2.2.2.2.1, M.2.2.2.2.2.1, M.2.2.2.2.2.2.1, M.2.2.2.2.2.2.2.1, M.2.2.2.2.2.2.2.2.1, M.2.2.2.2.2.2.2.2.2.1, M.2.2.2.2.2.2.2.2.2.2.1, M.2.2.2.2.2.2.2.2.2.2.2.1, M.2.2.2.2.2.2.2.2.2.2.2.2.1, M.2.2.2.2.2.2.2.2.2.2.2.2.2.1, M.2.2.2.2.2.2.2.2.2.2.2.2.2.2.1, M.2.2.2.2.2.2.2.2.2.2.2.2.2.2.2.1, M.2.2.2.2.2.2.2.2.2.2.2.2.2.2.2.2.1, M.2.2.2.2.2.2.2.2.2.2.2.2.2.2.2.2.2.1, M.2.2.2.2.2.2.2.2.2.2.2.2.2.2.2.2.2.2)) hP hD hk1 hFm hP1 hD1
      generalize H1 = H at hP hS ⊢
      obtain ⟨hre, hI⟩ := h
      refine W.lcmp hx hb dL_law_468 ?_
      refine lv_if_eq (tgt := 1181) hx hb dL_law_469 (by decide) (fun c9 => ?_) (fun c9 => absurd hre (lc_neq c9))
      refine W.widen (k := 10 + cc_ (xc_ X2)) (n := 2034266 + cs_ (xc_ X2)) (by omega) (by omega) ?_
      exact hnx X2 (M.1, M.2.1, M.2.2.1, M.2.2.2.1, M.2.2.2.2.1, M.2.2.2.2.2.1, M.2.2.2.2.2.2.1, M.2.2.2.2.2.2.2.1, M.2.2.2.2.2.2.2.2.1, M.2.2.2.2.2.2.2.2.2.1, M.2.2.2.2.2.2.2.2.2.2.1, M.2.2.2.2.2.2.2.2.2.2.2.1, M.2.2.2.2.2.2.2.2.2.2.2.2.1, M.2.2.2.2.2.2.2.2.2.2.2.2.2.1, M.2.2.2.2.2.2.2.2.2.2.2.2.2.2.1, M.2.2.2.2.2.2.2.2.2.2.2.2.2.2.2.1, M.2.2.2.2.2.2.2.2.2.2.2.2.2.2.2.2.1, M.2.2.2.2.2.2.2.2.2.2.2.2.2.2.2.2.2.1, M.2.2.2.2.2.2.2.2.2.2.2.2.2.2.2.2.2.2) hI H locs hP hD hS ls hl
    · exact absurd k0 k1
  · refine lv_iconst (v := (1 : Int32)) hx hb dL_law_423 (by decide) ?_
    refine lv_goto (tgt := 428) hx hb dL_law_424 (by decide) ?_
    obtain ⟨mc, ms, hmc, hms, h⟩ := hst (xc_ X) M (((xs (i + (1 : Int32)).toNatClampNeg).toInt64 <<< ((32 : Int32).toInt64 &&& 63)) ||| ((xs (i + (2 : Int32)).toNatClampNeg).toInt64 &&& (4294967295 : Int64))) (1 : Int32) hI
    have hPx := P_left hP
    have hDx := D_left hD
    have hFx := F_left hD hS hA
    have b1 := cc__le (xc_ X)
    have b2 := cs__le (xc_ X)
    refine va_calll (va_runV (As := [.long (((xs (i + (1 : Int32)).toNatClampNeg).toInt64 <<< ((32 : Int32).toInt64 &&& 63)) ||| ((xs (i + (2 : Int32)).toNatClampNeg).toInt64 &&& (4294967295 : Int64))), .int (1 : Int32)]) (rest := []) ⟨hx, hb, hml, hown, hts⟩ (cx_next l dC dI cI cJ cZ _ h0 mc ms X (((xs (i + (1 : Int32)).toNatClampNeg).toInt64 <<< ((32 : Int32).toInt64 &&& 63)) ||| ((xs (i + (2 : Int32)).toNatClampNeg).toInt64 &&& (4294967295 : Int64))) (1 : Int32) _ h) (cwV 2 hts gL_law_X8_next rfl rfl rfl (by decide +kernel) ⟨Nat.le_of_ble_eq_true rfl, Nat.le_of_ble_eq_true rfl⟩) ⟨pre_fb, va_recv hK hPx (ci := 7) (q0 := 0) rfl rfl, pre_of hPx hDx hK hN⟩ rfl rfl hl.1 rfl (lv_room (Nat.le_of_ble_eq_true rfl)) dL_law_428 ⟨(by show _ ≤ 600000; omega), (by show _ ≤ 7302250; omega)⟩) hS (fun q _ h => hFx q h) hFx (fun r X2 t H1 locs ht hvm h hB hz1 hk1 hS => ?_)
    obtain ⟨hP1, hD1⟩ := hB
    rw [ht] at hP1
    obtain ⟨hP, hD⟩ := frame2 hP hD hk1 hFx hP1 hD1
    generalize H1 = H at hP hS ⊢
    obtain ⟨hc1, hc2, h⟩ := h
    refine W.widen (k := 10 + cc_ (xc_ X2)) (n := 2034266 + cs_ (xc_ X2)) (by omega) (by omega) ?_
    refine lv_aload_n hx hb dL_law_431 rfl (lv_at hl 2 rfl) ?_
    refine lv_aload_n hx hb dL_law_432 rfl (lv_at hl 0 rfl) ?_
    refine lv_iload_n hx hb dL_law_433 rfl (lv_at hl 3 rfl) ?_
    refine lv_iconst (v := (1 : Int32)) hx hb dL_law_434 (by decide) ?_
    refine lv_iadd hx hb dL_law_435 ?_
    refine va_sld hx hb hX hbl hbA hS hi1 dL_law_436 ?_
    refine lv_i2l hx hb dL_law_437 rfl ?_
    refine lv_bipush (v := (32 : Int32)) hx hb dL_law_438 (by decide) ?_
    refine lv_lshl hx hb dL_law_440 rfl ?_
    refine lv_aload_n hx hb dL_law_441 rfl (lv_at hl 0 rfl) ?_
    refine lv_iload_n hx hb dL_law_442 rfl (lv_at hl 3 rfl) ?_
    refine lv_iconst (v := (2 : Int32)) hx hb dL_law_443 (by decide) ?_
    refine lv_iadd hx hb dL_law_444 ?_
    refine va_sld hx hb hX hbl hbA hS hi2 dL_law_445 ?_
    refine lv_i2l hx hb dL_law_446 rfl ?_
    refine lv_ldc2 hx hb hown (hts (.constantLong RL 13 (4294967295)) (by decide +kernel)) dL_law_447 ?_
    refine lv_land hx hb dL_law_450 ?_
    refine lv_lor hx hb dL_law_451 ?_
    refine lv_aload_n hx hb dL_law_452 rfl (lv_at hl 0 rfl) ?_
    refine lv_iload_n hx hb dL_law_453 rfl (lv_at hl 3 rfl) ?_
    refine lv_iconst (v := (3 : Int32)) hx hb dL_law_454 (by decide) ?_
    refine lv_iadd hx hb dL_law_455 ?_
    refine va_sld hx hb hX hbl hbA hS hi3 dL_law_456 ?_
    refine lv_if_eq (tgt := 464) hx hb dL_law_457 (by decide) (fun k2 => ?_) (fun k2 => ?_)
    · exact absurd k2 k0
    · refine lv_iconst (v := (1 : Int32)) hx hb dL_law_460 (by decide) ?_
      refine lv_goto (tgt := 465) hx hb dL_law_461 (by decide) ?_
      have hPm : va_P (dC, dI) vwCl [(h1, .inr (8, [.int M.1, .ref qs.1, .ref qs.2.1, .int M.2.2.2.1, .long M.2.2.2.2.1, .int M.2.2.2.2.2.1, .ref qs.2.2.1, .ref qs.2.2.2.1, .ref qs.2.2.2.2.1, .int M.2.2.2.2.2.2.2.2.2.1, .long M.2.2.2.2.2.2.2.2.2.2.1, .int M.2.2.2.2.2.2.2.2.2.2.2.1, .ref qs.2.2.2.2.2.1, .ref qs.2.2.2.2.2.2.1, .int M.2.2.2.2.2.2.2.2.2.2.2.2.2.2.1, .ref qs.2.2.2.2.2.2.2, .long M.2.2.2.2.2.2.2.2.2.2.2.2.2.2.2.2.1, .long M.2.2.2.2.2.2.2.2.2.2.2.2.2.2.2.2.2.1, .int M.2.2.2.2.2.2.2.2.2.2.2.2.2.2.2.2.2.2])), (qs.1, .inl (cI, 9592, .inl (M.2.1))), (qs.2.1, .inl (cZ, 2000001, .inl (M.2.2.1))), (qs.2.2.1, .inl (cJ, 5000, .inr (.inl (M.2.2.2.2.2.2.1)))), (qs.2.2.2.1, .inl (cJ, 5000, .inr (.inl (M.2.2.2.2.2.2.2.1)))), (qs.2.2.2.2.1, .inl (cZ, 5000, .inl (M.2.2.2.2.2.2.2.2.1))), (qs.2.2.2.2.2.1, .inl (cJ, 16, .inr (.inl (M.2.2.2.2.2.2.2.2.2.2.2.2.1)))), (qs.2.2.2.2.2.2.1, .inl (cI, 16, .inl (M.2.2.2.2.2.2.2.2.2.2.2.2.2.1))), (qs.2.2.2.2.2.2.2, .inl (cJ, 9616, .inr (.inl (M.2.2.2.2.2.2.2.2.2.2.2.2.2.2.2.1))))] H := P_right hP
      have hDm : va_D (fun q : Nat => s.heap.size ≤ q) [(h1, .inr (8, [.int M.1, .ref qs.1, .ref qs.2.1, .int M.2.2.2.1, .long M.2.2.2.2.1, .int M.2.2.2.2.2.1, .ref qs.2.2.1, .ref qs.2.2.2.1, .ref qs.2.2.2.2.1, .int M.2.2.2.2.2.2.2.2.2.1, .long M.2.2.2.2.2.2.2.2.2.2.1, .int M.2.2.2.2.2.2.2.2.2.2.2.1, .ref qs.2.2.2.2.2.1, .ref qs.2.2.2.2.2.2.1, .int M.2.2.2.2.2.2.2.2.2.2.2.2.2.2.1, .ref qs.2.2.2.2.2.2.2, .long M.2.2.2.2.2.2.2.2.2.2.2.2.2.2.2.2.1, .long M.2.2.2.2.2.2.2.2.2.2.2.2.2.2.2.2.2.1, .int M.2.2.2.2.2.2.2.2.2.2.2.2.2.2.2.2.2.2])), (qs.1, .inl (cI, 9592, .inl (M.2.1))), (qs.2.1, .inl (cZ, 2000001, .inl (M.2.2.1))), (qs.2.2.1, .inl (cJ, 5000, .inr (.inl (M.2.2.2.2.2.2.1)))), (qs.2.2.2.1, .inl (cJ, 5000, .inr (.inl (M.2.2.2.2.2.2.2.1)))), (qs.2.2.2.2.1, .inl (cZ, 5000, .inl (M.2.2.2.2.2.2.2.2.1))), (qs.2.2.2.2.2.1, .inl (cJ, 16, .inr (.inl (M.2.2.2.2.2.2.2.2.2.2.2.2.1)))), (qs.2.2.2.2.2.2.1, .inl (cI, 16, .inl (M.2.2.2.2.2.2.2.2.2.2.2.2.2.1))), (qs.2.2.2.2.2.2.2, .inl (cJ, 9616, .inr (.inl (M.2.2.2.2.2.2.2.2.2.2.2.2.2.2.2.1))))] := D_right hD
      have hFm : ∀ q, va_A [(h1, .inr (8, [.int M.1, .ref qs.1, .ref qs.2.1, .int M.2.2.2.1, .long M.2.2.2.2.1, .int M.2.2.2.2.2.1, .ref qs.2.2.1, .ref qs.2.2.2.1, .ref qs.2.2.2.2.1, .int M.2.2.2.2.2.2.2.2.2.1, .long M.2.2.2.2.2.2.2.2.2.2.1, .int M.2.2.2.2.2.2.2.2.2.2.2.1, .ref qs.2.2.2.2.2.1, .ref qs.2.2.2.2.2.2.1, .int M.2.2.2.2.2.2.2.2.2.2.2.2.2.2.1, .ref qs.2.2.2.2.2.2.2, .long M.2.2.2.2.2.2.2.2.2.2.2.2.2.2.2.2.1, .long M.2.2.2.2.2.2.2.2.2.2.2.2.2.2.2.2.2.1, .int M.2.2.2.2.2.2.2.2.2.2.2.2.2.2.2.2.2.2])), (qs.1, .inl (cI, 9592, .inl (M.2.1))), (qs.2.1, .inl (cZ, 2000001, .inl (M.2.2.1))), (qs.2.2.1, .inl (cJ, 5000, .inr (.inl (M.2.2.2.2.2.2.1)))), (qs.2.2.2.1, .inl (cJ, 5000, .inr (.inl (M.2.2.2.2.2.2.2.1)))), (qs.2.2.2.2.1, .inl (cZ, 5000, .inl (M.2.2.2.2.2.2.2.2.1))), (qs.2.2.2.2.2.1, .inl (cJ, 16, .inr (.inl (M.2.2.2.2.2.2.2.2.2.2.2.2.1)))), (qs.2.2.2.2.2.2.1, .inl (cI, 16, .inl (M.2.2.2.2.2.2.2.2.2.2.2.2.2.1))), (qs.2.2.2.2.2.2.2, .inl (cJ, 9616, .inr (.inl (M.2.2.2.2.2.2.2.2.2.2.2.2.2.2.2.1))))] H.size q → (fun q : Nat => s.heap.size ≤ q) q := F_right hD hS hA
      have b3 := cc__le (xc_ X2)
      have b4 := cs__le (xc_ X2)
      refine va_calll (va_runV (As := [.long (((xs (i + (1 : Int32)).toNatClampNeg).toInt64 <<< ((32 : Int32).toInt64 &&& 63)) ||| ((xs (i + (2 : Int32)).toNatClampNeg).toInt64 &&& (4294967295 : Int64))), .int (1 : Int32)]) (rest := [.long r]) ⟨hx, hb, hml, hown, hts⟩ (c_X9_next l dC dI cI cJ cZ _ h1 M.1 M.2.1 qs.1 M.2.2.1 qs.2.1 M.2.2.2.1 M.2.2.2.2.1 M.2.2.2.2.2.1 M.2.2.2.2.2.2.1 qs.2.2.1 M.2.2.2.2.2.2.2.1 qs.2.2.2.1 M.2.2.2.2.2.2.2.2.1 qs.2.2.2.2.1 M.2.2.2.2.2.2.2.2.2.1 M.2.2.2.2.2.2.2.2.2.2.1 M.2.2.2.2.2.2.2.2.2.2.2.1 M.2.2.2.2.2.2.2.2.2.2.2.2.1 qs.2.2.2.2.2.1 M.2.2.2.2.2.2.2.2.2.2.2.2.2.1 qs.2.2.2.2.2.2.1 M.2.2.2.2.2.2.2.2.2.2.2.2.2.2.1 M.2.2.2.2.2.2.2.2.2.2.2.2.2.2.2.1 qs.2.2.2.2.2.2.2 M.2.2.2.2.2.2.2.2.2.2.2.2.2.2.2.2.1 M.2.2.2.2.2.2.2.2.2.2.2.2.2.2.2.2.2.1 M.2.2.2.2.2.2.2.2.2.2.2.2.2.2.2.2.2.2 (((xs (i + (1 : Int32)).toNatClampNeg).toInt64 <<< ((32 : Int32).toInt64 &&& 63)) ||| ((xs (i + (2 : Int32)).toNatClampNeg).toInt64 &&& (4294967295 : Int64))) (1 : Int32) _ h) (cwV 2 hts gL_law_X9_next rfl rfl rfl (by decide +kernel) ⟨Nat.le_of_ble_eq_true rfl, Nat.le_of_ble_eq_true rfl⟩) ⟨pre_fb, va_recv hK hPm (ci := 8) (q0 := 0) rfl rfl, pre_of hPm hDm hK hN⟩ rfl rfl hl.1 rfl (lv_room (Nat.le_of_ble_eq_true rfl)) dL_law_465 ⟨(by show _ ≤ 600000; omega), (by show _ ≤ 7302250; omega)⟩) hS (fun q _ h => hFm q h) hFm (fun r2 u t H1 locs ht hvm h hB hz1 hk1 hS => ?_)
      obtain ⟨hP1, hD1⟩ := hB
      rw [ht] at hP1
      obtain ⟨hP, hD⟩ := frame2r (wr := xcells cI cJ cZ h0 X2) (wc := mcells cI cJ cZ h1 qs M) (w1 := mcells cI cJ cZ h1 qs (M.1, M.2.1, M.2.2.1, M.2.2.2.1, M.2.2.2.2.1, M.2.2.2.2.2.1, M.2.2.2.2.2.2.1, M.2.2.2.2.2.2.2.1, M.2.2.2.2.2.2.2.2.1, M.2.2.2.2.2.2.2.2.2.1, M.2.2.2.2.2.2.2.2.2.2.1, M.2.2.2.2.2.2.2.2.2.2.2.1, M.2.2.2.2.2.2.2.2.2.2.2.2.1, M.2.2.2.2.2.2.2.2.2.2.2.2.2.1, M.2.2.2.2.2.2.2.2.2.2.2.2.2.2.1, M.2.2.2.2.2.2.2.2.2.2.2.2.2.2.2.1, M.2.2.2.2.2.2.2.2.2.2.2.2.2.2.2.2.1, M.2.2.2.2.2.2.2.2.2.2.2.2.2.2.2.2.2.1, M.2.2.2.2.2.2.2.2.2.2.2.2.2.2.2.2.2.2)) hP hD hk1 hFm hP1 hD1
      generalize H1 = H at hP hS ⊢
      obtain ⟨hre, hI⟩ := h
      refine W.lcmp hx hb dL_law_468 ?_
      refine lv_if_eq (tgt := 1181) hx hb dL_law_469 (by decide) (fun c9 => ?_) (fun c9 => absurd hre (lc_neq c9))
      refine W.widen (k := 10 + cc_ (xc_ X2)) (n := 2034266 + cs_ (xc_ X2)) (by omega) (by omega) ?_
      exact hnx X2 (M.1, M.2.1, M.2.2.1, M.2.2.2.1, M.2.2.2.2.1, M.2.2.2.2.2.1, M.2.2.2.2.2.2.1, M.2.2.2.2.2.2.2.1, M.2.2.2.2.2.2.2.2.1, M.2.2.2.2.2.2.2.2.2.1, M.2.2.2.2.2.2.2.2.2.2.1, M.2.2.2.2.2.2.2.2.2.2.2.1, M.2.2.2.2.2.2.2.2.2.2.2.2.1, M.2.2.2.2.2.2.2.2.2.2.2.2.2.1, M.2.2.2.2.2.2.2.2.2.2.2.2.2.2.1, M.2.2.2.2.2.2.2.2.2.2.2.2.2.2.2.1, M.2.2.2.2.2.2.2.2.2.2.2.2.2.2.2.2.1, M.2.2.2.2.2.2.2.2.2.2.2.2.2.2.2.2.2.1, M.2.2.2.2.2.2.2.2.2.2.2.2.2.2.2.2.2.2) hI H locs hP hD hS ls hl
set_option maxHeartbeats 4000000 in
set_option maxRecDepth 100000 in
theorem lcase_part {p : Program} {l : Launch} {e : Env} {s : State} {m : MethodId} {below : List Frame} {meth : Method} {c : Code} {dC : Nat → ClassId} {dI : Nat → Nat → Nat} {cI cJ cZ : ClassId} {b h0 h1 : Nat} {qs : AM_} {Inv : XC_ → MC_ → Prop} {L : Nat} {xs : Nat → Int32} (C0 : lw_At p s m meth c b L xs) (hK : va_K (dC, dI) vwCl (tys_ cI cJ cZ) s) (hN : nw_ s) {i : Int32} (hi1 : vp_in (i + (1 : Int32)) L) (hi2 : vp_in (i + (2 : Int32)) L) (hi3 : vp_in (i + (3 : Int32)) L) (hi4 : vp_in (i + (4 : Int32)) L) (hst : st_part Inv) (hnx : law_at p l e s m below meth c dC dI cI cJ cZ b h0 h1 qs Inv 1181 i) : law_at p l e s m below meth c dC dI cI cJ cZ b h0 h1 qs Inv 474 i := by
  obtain ⟨hx, hb, hr, hml, hown, hts, hX, hbl, hlocks, hgv⟩ := C0
  replace hts := fun w h => hts w (wsL_law_in w h)
  have hA : ∀ q : Nat, s.heap.size ≤ q → (fun q : Nat => s.heap.size ≤ q) q := fun _ h => h
  have hbA : ¬ (fun q : Nat => s.heap.size ≤ q) b := Nat.not_le.mpr hbl
  have hown : s.vm.findClass RL = some m.cls := hown
  intro X M hI H locs hP hD hS ls hl
  refine lv_aload_n hx hb dL_law_474 rfl (lv_at hl 1 rfl) ?_
  refine lv_aload_n hx hb dL_law_475 rfl (lv_at hl 0 rfl) ?_
  refine lv_iload_n hx hb dL_law_476 rfl (lv_at hl 3 rfl) ?_
  refine lv_iconst (v := (1 : Int32)) hx hb dL_law_477 (by decide) ?_
  refine lv_iadd hx hb dL_law_478 ?_
  refine va_sld hx hb hX hbl hbA hS hi1 dL_law_479 ?_
  refine lv_i2l hx hb dL_law_480 rfl ?_
  refine lv_bipush (v := (32 : Int32)) hx hb dL_law_481 (by decide) ?_
  refine lv_lshl hx hb dL_law_483 rfl ?_
  refine lv_aload_n hx hb dL_law_484 rfl (lv_at hl 0 rfl) ?_
  refine lv_iload_n hx hb dL_law_485 rfl (lv_at hl 3 rfl) ?_
  refine lv_iconst (v := (2 : Int32)) hx hb dL_law_486 (by decide) ?_
  refine lv_iadd hx hb dL_law_487 ?_
  refine va_sld hx hb hX hbl hbA hS hi2 dL_law_488 ?_
  refine lv_i2l hx hb dL_law_489 rfl ?_
  refine lv_ldc2 hx hb hown (hts (.constantLong RL 13 (4294967295)) (by decide +kernel)) dL_law_490 ?_
  refine lv_land hx hb dL_law_493 ?_
  refine lv_lor hx hb dL_law_494 ?_
  obtain ⟨mc, ms, hmc, hms, h⟩ := hst (xc_ X) M (((xs (i + (1 : Int32)).toNatClampNeg).toInt64 <<< ((32 : Int32).toInt64 &&& 63)) ||| ((xs (i + (2 : Int32)).toNatClampNeg).toInt64 &&& (4294967295 : Int64))) hI
  have hPx := P_left hP
  have hDx := D_left hD
  have hFx := F_left hD hS hA
  have b1 := cc__le (xc_ X)
  have b2 := cs__le (xc_ X)
  refine va_calli (va_runV (As := [.long (((xs (i + (1 : Int32)).toNatClampNeg).toInt64 <<< ((32 : Int32).toInt64 &&& 63)) ||| ((xs (i + (2 : Int32)).toNatClampNeg).toInt64 &&& (4294967295 : Int64)))]) (rest := []) ⟨hx, hb, hml, hown, hts⟩ (cx_part l dC dI cI cJ cZ _ h0 mc ms X (((xs (i + (1 : Int32)).toNatClampNeg).toInt64 <<< ((32 : Int32).toInt64 &&& 63)) ||| ((xs (i + (2 : Int32)).toNatClampNeg).toInt64 &&& (4294967295 : Int64))) _ h) (cwV 1 hts gL_law_X8_part rfl rfl rfl (by decide +kernel) ⟨Nat.le_of_ble_eq_true rfl, Nat.le_of_ble_eq_true rfl⟩) ⟨pre_fb, va_recv hK hPx (ci := 7) (q0 := 0) rfl rfl, pre_of hPx hDx hK hN⟩ rfl rfl hl.1 rfl (lv_room (Nat.le_of_ble_eq_true rfl)) dL_law_495 ⟨(by show _ ≤ 600000; omega), (by show _ ≤ 7302250; omega)⟩) hS (fun q _ h => hFx q h) hFx (fun r X2 t H1 locs ht hvm h hB hz1 hk1 hS => ?_)
  obtain ⟨hP1, hD1⟩ := hB
  rw [ht] at hP1
  obtain ⟨hP, hD⟩ := frame2 hP hD hk1 hFx hP1 hD1
  generalize H1 = H at hP hS ⊢
  obtain ⟨hc1, hc2, h⟩ := h
  refine W.widen (k := 10 + cc_ (xc_ X2)) (n := 2034266 + cs_ (xc_ X2)) (by omega) (by omega) ?_
  refine lv_aload_n hx hb dL_law_498 rfl (lv_at hl 2 rfl) ?_
  refine lv_aload_n hx hb dL_law_499 rfl (lv_at hl 0 rfl) ?_
  refine lv_iload_n hx hb dL_law_500 rfl (lv_at hl 3 rfl) ?_
  refine lv_iconst (v := (1 : Int32)) hx hb dL_law_501 (by decide) ?_
  refine lv_iadd hx hb dL_law_502 ?_
  refine va_sld hx hb hX hbl hbA hS hi1 dL_law_503 ?_
  refine lv_i2l hx hb dL_law_504 rfl ?_
  refine lv_bipush (v := (32 : Int32)) hx hb dL_law_505 (by decide) ?_
  refine lv_lshl hx hb dL_law_507 rfl ?_
  refine lv_aload_n hx hb dL_law_508 rfl (lv_at hl 0 rfl) ?_
  refine lv_iload_n hx hb dL_law_509 rfl (lv_at hl 3 rfl) ?_
  refine lv_iconst (v := (2 : Int32)) hx hb dL_law_510 (by decide) ?_
  refine lv_iadd hx hb dL_law_511 ?_
  refine va_sld hx hb hX hbl hbA hS hi2 dL_law_512 ?_
  refine lv_i2l hx hb dL_law_513 rfl ?_
  refine lv_ldc2 hx hb hown (hts (.constantLong RL 13 (4294967295)) (by decide +kernel)) dL_law_514 ?_
  refine lv_land hx hb dL_law_517 ?_
  refine lv_lor hx hb dL_law_518 ?_
  have hPm : va_P (dC, dI) vwCl [(h1, .inr (8, [.int M.1, .ref qs.1, .ref qs.2.1, .int M.2.2.2.1, .long M.2.2.2.2.1, .int M.2.2.2.2.2.1, .ref qs.2.2.1, .ref qs.2.2.2.1, .ref qs.2.2.2.2.1, .int M.2.2.2.2.2.2.2.2.2.1, .long M.2.2.2.2.2.2.2.2.2.2.1, .int M.2.2.2.2.2.2.2.2.2.2.2.1, .ref qs.2.2.2.2.2.1, .ref qs.2.2.2.2.2.2.1, .int M.2.2.2.2.2.2.2.2.2.2.2.2.2.2.1, .ref qs.2.2.2.2.2.2.2, .long M.2.2.2.2.2.2.2.2.2.2.2.2.2.2.2.2.1, .long M.2.2.2.2.2.2.2.2.2.2.2.2.2.2.2.2.2.1, .int M.2.2.2.2.2.2.2.2.2.2.2.2.2.2.2.2.2.2])), (qs.1, .inl (cI, 9592, .inl (M.2.1))), (qs.2.1, .inl (cZ, 2000001, .inl (M.2.2.1))), (qs.2.2.1, .inl (cJ, 5000, .inr (.inl (M.2.2.2.2.2.2.1)))), (qs.2.2.2.1, .inl (cJ, 5000, .inr (.inl (M.2.2.2.2.2.2.2.1)))), (qs.2.2.2.2.1, .inl (cZ, 5000, .inl (M.2.2.2.2.2.2.2.2.1))), (qs.2.2.2.2.2.1, .inl (cJ, 16, .inr (.inl (M.2.2.2.2.2.2.2.2.2.2.2.2.1)))), (qs.2.2.2.2.2.2.1, .inl (cI, 16, .inl (M.2.2.2.2.2.2.2.2.2.2.2.2.2.1))), (qs.2.2.2.2.2.2.2, .inl (cJ, 9616, .inr (.inl (M.2.2.2.2.2.2.2.2.2.2.2.2.2.2.2.1))))] H := P_right hP
  have hDm : va_D (fun q : Nat => s.heap.size ≤ q) [(h1, .inr (8, [.int M.1, .ref qs.1, .ref qs.2.1, .int M.2.2.2.1, .long M.2.2.2.2.1, .int M.2.2.2.2.2.1, .ref qs.2.2.1, .ref qs.2.2.2.1, .ref qs.2.2.2.2.1, .int M.2.2.2.2.2.2.2.2.2.1, .long M.2.2.2.2.2.2.2.2.2.2.1, .int M.2.2.2.2.2.2.2.2.2.2.2.1, .ref qs.2.2.2.2.2.1, .ref qs.2.2.2.2.2.2.1, .int M.2.2.2.2.2.2.2.2.2.2.2.2.2.2.1, .ref qs.2.2.2.2.2.2.2, .long M.2.2.2.2.2.2.2.2.2.2.2.2.2.2.2.2.1, .long M.2.2.2.2.2.2.2.2.2.2.2.2.2.2.2.2.2.1, .int M.2.2.2.2.2.2.2.2.2.2.2.2.2.2.2.2.2.2])), (qs.1, .inl (cI, 9592, .inl (M.2.1))), (qs.2.1, .inl (cZ, 2000001, .inl (M.2.2.1))), (qs.2.2.1, .inl (cJ, 5000, .inr (.inl (M.2.2.2.2.2.2.1)))), (qs.2.2.2.1, .inl (cJ, 5000, .inr (.inl (M.2.2.2.2.2.2.2.1)))), (qs.2.2.2.2.1, .inl (cZ, 5000, .inl (M.2.2.2.2.2.2.2.2.1))), (qs.2.2.2.2.2.1, .inl (cJ, 16, .inr (.inl (M.2.2.2.2.2.2.2.2.2.2.2.2.1)))), (qs.2.2.2.2.2.2.1, .inl (cI, 16, .inl (M.2.2.2.2.2.2.2.2.2.2.2.2.2.1))), (qs.2.2.2.2.2.2.2, .inl (cJ, 9616, .inr (.inl (M.2.2.2.2.2.2.2.2.2.2.2.2.2.2.2.1))))] := D_right hD
  have hFm : ∀ q, va_A [(h1, .inr (8, [.int M.1, .ref qs.1, .ref qs.2.1, .int M.2.2.2.1, .long M.2.2.2.2.1, .int M.2.2.2.2.2.1, .ref qs.2.2.1, .ref qs.2.2.2.1, .ref qs.2.2.2.2.1, .int M.2.2.2.2.2.2.2.2.2.1, .long M.2.2.2.2.2.2.2.2.2.2.1, .int M.2.2.2.2.2.2.2.2.2.2.2.1, .ref qs.2.2.2.2.2.1, .ref qs.2.2.2.2.2.2.1, .int M.2.2.2.2.2.2.2.2.2.2.2.2.2.2.1, .ref qs.2.2.2.2.2.2.2, .long M.2.2.2.2.2.2.2.2.2.2.2.2.2.2.2.2.1, .long M.2.2.2.2.2.2.2.2.2.2.2.2.2.2.2.2.2.1, .int M.2.2.2.2.2.2.2.2.2.2.2.2.2.2.2.2.2.2])), (qs.1, .inl (cI, 9592, .inl (M.2.1))), (qs.2.1, .inl (cZ, 2000001, .inl (M.2.2.1))), (qs.2.2.1, .inl (cJ, 5000, .inr (.inl (M.2.2.2.2.2.2.1)))), (qs.2.2.2.1, .inl (cJ, 5000, .inr (.inl (M.2.2.2.2.2.2.2.1)))), (qs.2.2.2.2.1, .inl (cZ, 5000, .inl (M.2.2.2.2.2.2.2.2.1))), (qs.2.2.2.2.2.1, .inl (cJ, 16, .inr (.inl (M.2.2.2.2.2.2.2.2.2.2.2.2.1)))), (qs.2.2.2.2.2.2.1, .inl (cI, 16, .inl (M.2.2.2.2.2.2.2.2.2.2.2.2.2.1))), (qs.2.2.2.2.2.2.2, .inl (cJ, 9616, .inr (.inl (M.2.2.2.2.2.2.2.2.2.2.2.2.2.2.2.1))))] H.size q → (fun q : Nat => s.heap.size ≤ q) q := F_right hD hS hA
  have b3 := cc__le (xc_ X2)
  have b4 := cs__le (xc_ X2)
  refine va_calli (va_runV (As := [.long (((xs (i + (1 : Int32)).toNatClampNeg).toInt64 <<< ((32 : Int32).toInt64 &&& 63)) ||| ((xs (i + (2 : Int32)).toNatClampNeg).toInt64 &&& (4294967295 : Int64)))]) (rest := [.int r]) ⟨hx, hb, hml, hown, hts⟩ (c_X9_part l dC dI cI cJ cZ _ h1 M.1 M.2.1 qs.1 M.2.2.1 qs.2.1 M.2.2.2.1 M.2.2.2.2.1 M.2.2.2.2.2.1 M.2.2.2.2.2.2.1 qs.2.2.1 M.2.2.2.2.2.2.2.1 qs.2.2.2.1 M.2.2.2.2.2.2.2.2.1 qs.2.2.2.2.1 M.2.2.2.2.2.2.2.2.2.1 M.2.2.2.2.2.2.2.2.2.2.1 M.2.2.2.2.2.2.2.2.2.2.2.1 M.2.2.2.2.2.2.2.2.2.2.2.2.1 qs.2.2.2.2.2.1 M.2.2.2.2.2.2.2.2.2.2.2.2.2.1 qs.2.2.2.2.2.2.1 M.2.2.2.2.2.2.2.2.2.2.2.2.2.2.1 M.2.2.2.2.2.2.2.2.2.2.2.2.2.2.2.1 qs.2.2.2.2.2.2.2 M.2.2.2.2.2.2.2.2.2.2.2.2.2.2.2.2.1 M.2.2.2.2.2.2.2.2.2.2.2.2.2.2.2.2.2.1 M.2.2.2.2.2.2.2.2.2.2.2.2.2.2.2.2.2.2 (((xs (i + (1 : Int32)).toNatClampNeg).toInt64 <<< ((32 : Int32).toInt64 &&& 63)) ||| ((xs (i + (2 : Int32)).toNatClampNeg).toInt64 &&& (4294967295 : Int64))) _ h) (cwV 1 hts gL_law_X9_part rfl rfl rfl (by decide +kernel) ⟨Nat.le_of_ble_eq_true rfl, Nat.le_of_ble_eq_true rfl⟩) ⟨pre_fb, va_recv hK hPm (ci := 8) (q0 := 0) rfl rfl, pre_of hPm hDm hK hN⟩ rfl rfl hl.1 rfl (lv_room (Nat.le_of_ble_eq_true rfl)) dL_law_519 ⟨(by show _ ≤ 600000; omega), (by show _ ≤ 7302250; omega)⟩) hS (fun q _ h => hFm q h) hFm (fun r2 u t H1 locs ht hvm h hB hz1 hk1 hS => ?_)
  obtain ⟨o0, o1, o2, o3, o4, o5, o6, o7⟩ := u
  obtain ⟨hP1, hD1⟩ := hB
  rw [ht] at hP1
  obtain ⟨hP, hD⟩ := frame2r (wr := xcells cI cJ cZ h0 X2) (wc := mcells cI cJ cZ h1 qs M) (w1 := mcells cI cJ cZ h1 qs (M.1, M.2.1, M.2.2.1, M.2.2.2.1, M.2.2.2.2.1, M.2.2.2.2.2.1, M.2.2.2.2.2.2.1, M.2.2.2.2.2.2.2.1, M.2.2.2.2.2.2.2.2.1, o0, o1, o2, o6, o7, M.2.2.2.2.2.2.2.2.2.2.2.2.2.2.1, M.2.2.2.2.2.2.2.2.2.2.2.2.2.2.2.1, o3, o4, o5)) hP hD hk1 hFm hP1 hD1
  generalize H1 = H at hP hS ⊢
  obtain ⟨hre, hI⟩ := h
  refine lv_icmp_eq (tgt := 1181) hx hb dL_law_522 (by decide) (fun c9 => ?_) (fun c9 => absurd hre c9)
  refine W.widen (k := 10 + cc_ (xc_ X2)) (n := 2034266 + cs_ (xc_ X2)) (by omega) (by omega) ?_
  exact hnx X2 (M.1, M.2.1, M.2.2.1, M.2.2.2.1, M.2.2.2.2.1, M.2.2.2.2.2.1, M.2.2.2.2.2.2.1, M.2.2.2.2.2.2.2.1, M.2.2.2.2.2.2.2.2.1, o0, o1, o2, o6, o7, M.2.2.2.2.2.2.2.2.2.2.2.2.2.2.1, M.2.2.2.2.2.2.2.2.2.2.2.2.2.2.2.1, o3, o4, o5) hI H locs hP hD hS ls hl
set_option maxHeartbeats 4000000 in
set_option maxRecDepth 100000 in
theorem lcase_parts {p : Program} {l : Launch} {e : Env} {s : State} {m : MethodId} {below : List Frame} {meth : Method} {c : Code} {dC : Nat → ClassId} {dI : Nat → Nat → Nat} {cI cJ cZ : ClassId} {b h0 h1 : Nat} {qs : AM_} {Inv : XC_ → MC_ → Prop} {L : Nat} {xs : Nat → Int32} (C0 : lw_At p s m meth c b L xs) (hK : va_K (dC, dI) vwCl (tys_ cI cJ cZ) s) (hN : nw_ s) {i : Int32} (hi1 : vp_in (i + (1 : Int32)) L) (hi2 : vp_in (i + (2 : Int32)) L) (hi3 : vp_in (i + (3 : Int32)) L) (hi4 : vp_in (i + (4 : Int32)) L) (hst : st_parts Inv) (hnx : law_at p l e s m below meth c dC dI cI cJ cZ b h0 h1 qs Inv 1181 i) : law_at p l e s m below meth c dC dI cI cJ cZ b h0 h1 qs Inv 527 i := by
  obtain ⟨hx, hb, hr, hml, hown, hts, hX, hbl, hlocks, hgv⟩ := C0
  replace hts := fun w h => hts w (wsL_law_in w h)
  have hA : ∀ q : Nat, s.heap.size ≤ q → (fun q : Nat => s.heap.size ≤ q) q := fun _ h => h
  have hbA : ¬ (fun q : Nat => s.heap.size ≤ q) b := Nat.not_le.mpr hbl
  have hown : s.vm.findClass RL = some m.cls := hown
  intro X M hI H locs hP hD hS ls hl
  refine lv_aload_n hx hb dL_law_527 rfl (lv_at hl 1 rfl) ?_
  refine lv_aload_n hx hb dL_law_528 rfl (lv_at hl 0 rfl) ?_
  refine lv_iload_n hx hb dL_law_529 rfl (lv_at hl 3 rfl) ?_
  refine lv_iconst (v := (1 : Int32)) hx hb dL_law_530 (by decide) ?_
  refine lv_iadd hx hb dL_law_531 ?_
  refine va_sld hx hb hX hbl hbA hS hi1 dL_law_532 ?_
  refine lv_aload_n hx hb dL_law_533 rfl (lv_at hl 0 rfl) ?_
  refine lv_iload_n hx hb dL_law_534 rfl (lv_at hl 3 rfl) ?_
  refine lv_iconst (v := (2 : Int32)) hx hb dL_law_535 (by decide) ?_
  refine lv_iadd hx hb dL_law_536 ?_
  refine va_sld hx hb hX hbl hbA hS hi2 dL_law_537 ?_
  obtain ⟨mc, ms, hmc, hms, h⟩ := hst (xc_ X) M (xs (i + (1 : Int32)).toNatClampNeg) (xs (i + (2 : Int32)).toNatClampNeg) hI
  have hPx := P_left hP
  have hDx := D_left hD
  have hFx := F_left hD hS hA
  have b1 := cc__le (xc_ X)
  have b2 := cs__le (xc_ X)
  refine va_calll (va_runV (As := [.int (xs (i + (1 : Int32)).toNatClampNeg), .int (xs (i + (2 : Int32)).toNatClampNeg)]) (rest := []) ⟨hx, hb, hml, hown, hts⟩ (cx_parts l dC dI cI cJ cZ _ h0 mc ms X (xs (i + (1 : Int32)).toNatClampNeg) (xs (i + (2 : Int32)).toNatClampNeg) _ h) (cwV 2 hts gL_law_X8_parts rfl rfl rfl (by decide +kernel) ⟨Nat.le_of_ble_eq_true rfl, Nat.le_of_ble_eq_true rfl⟩) ⟨pre_fb, va_recv hK hPx (ci := 7) (q0 := 0) rfl rfl, pre_of hPx hDx hK hN⟩ rfl rfl hl.1 rfl (lv_room (Nat.le_of_ble_eq_true rfl)) dL_law_538 ⟨(by show _ ≤ 600000; omega), (by show _ ≤ 7302250; omega)⟩) hS (fun q _ h => hFx q h) hFx (fun r X2 t H1 locs ht hvm h hB hz1 hk1 hS => ?_)
  obtain ⟨hP1, hD1⟩ := hB
  rw [ht] at hP1
  obtain ⟨hP, hD⟩ := frame2 hP hD hk1 hFx hP1 hD1
  generalize H1 = H at hP hS ⊢
  obtain ⟨hc1, hc2, h⟩ := h
  refine W.widen (k := 10 + cc_ (xc_ X2)) (n := 2034266 + cs_ (xc_ X2)) (by omega) (by omega) ?_
  refine lv_aload_n hx hb dL_law_541 rfl (lv_at hl 2 rfl) ?_
  refine lv_aload_n hx hb dL_law_542 rfl (lv_at hl 0 rfl) ?_
  refine lv_iload_n hx hb dL_law_543 rfl (lv_at hl 3 rfl) ?_
  refine lv_iconst (v := (1 : Int32)) hx hb dL_law_544 (by decide) ?_
  refine lv_iadd hx hb dL_law_545 ?_
  refine va_sld hx hb hX hbl hbA hS hi1 dL_law_546 ?_
  refine lv_aload_n hx hb dL_law_547 rfl (lv_at hl 0 rfl) ?_
  refine lv_iload_n hx hb dL_law_548 rfl (lv_at hl 3 rfl) ?_
  refine lv_iconst (v := (2 : Int32)) hx hb dL_law_549 (by decide) ?_
  refine lv_iadd hx hb dL_law_550 ?_
  refine va_sld hx hb hX hbl hbA hS hi2 dL_law_551 ?_
  have hPm : va_P (dC, dI) vwCl [(h1, .inr (8, [.int M.1, .ref qs.1, .ref qs.2.1, .int M.2.2.2.1, .long M.2.2.2.2.1, .int M.2.2.2.2.2.1, .ref qs.2.2.1, .ref qs.2.2.2.1, .ref qs.2.2.2.2.1, .int M.2.2.2.2.2.2.2.2.2.1, .long M.2.2.2.2.2.2.2.2.2.2.1, .int M.2.2.2.2.2.2.2.2.2.2.2.1, .ref qs.2.2.2.2.2.1, .ref qs.2.2.2.2.2.2.1, .int M.2.2.2.2.2.2.2.2.2.2.2.2.2.2.1, .ref qs.2.2.2.2.2.2.2, .long M.2.2.2.2.2.2.2.2.2.2.2.2.2.2.2.2.1, .long M.2.2.2.2.2.2.2.2.2.2.2.2.2.2.2.2.2.1, .int M.2.2.2.2.2.2.2.2.2.2.2.2.2.2.2.2.2.2])), (qs.1, .inl (cI, 9592, .inl (M.2.1))), (qs.2.1, .inl (cZ, 2000001, .inl (M.2.2.1))), (qs.2.2.1, .inl (cJ, 5000, .inr (.inl (M.2.2.2.2.2.2.1)))), (qs.2.2.2.1, .inl (cJ, 5000, .inr (.inl (M.2.2.2.2.2.2.2.1)))), (qs.2.2.2.2.1, .inl (cZ, 5000, .inl (M.2.2.2.2.2.2.2.2.1))), (qs.2.2.2.2.2.1, .inl (cJ, 16, .inr (.inl (M.2.2.2.2.2.2.2.2.2.2.2.2.1)))), (qs.2.2.2.2.2.2.1, .inl (cI, 16, .inl (M.2.2.2.2.2.2.2.2.2.2.2.2.2.1))), (qs.2.2.2.2.2.2.2, .inl (cJ, 9616, .inr (.inl (M.2.2.2.2.2.2.2.2.2.2.2.2.2.2.2.1))))] H := P_right hP
  have hDm : va_D (fun q : Nat => s.heap.size ≤ q) [(h1, .inr (8, [.int M.1, .ref qs.1, .ref qs.2.1, .int M.2.2.2.1, .long M.2.2.2.2.1, .int M.2.2.2.2.2.1, .ref qs.2.2.1, .ref qs.2.2.2.1, .ref qs.2.2.2.2.1, .int M.2.2.2.2.2.2.2.2.2.1, .long M.2.2.2.2.2.2.2.2.2.2.1, .int M.2.2.2.2.2.2.2.2.2.2.2.1, .ref qs.2.2.2.2.2.1, .ref qs.2.2.2.2.2.2.1, .int M.2.2.2.2.2.2.2.2.2.2.2.2.2.2.1, .ref qs.2.2.2.2.2.2.2, .long M.2.2.2.2.2.2.2.2.2.2.2.2.2.2.2.2.1, .long M.2.2.2.2.2.2.2.2.2.2.2.2.2.2.2.2.2.1, .int M.2.2.2.2.2.2.2.2.2.2.2.2.2.2.2.2.2.2])), (qs.1, .inl (cI, 9592, .inl (M.2.1))), (qs.2.1, .inl (cZ, 2000001, .inl (M.2.2.1))), (qs.2.2.1, .inl (cJ, 5000, .inr (.inl (M.2.2.2.2.2.2.1)))), (qs.2.2.2.1, .inl (cJ, 5000, .inr (.inl (M.2.2.2.2.2.2.2.1)))), (qs.2.2.2.2.1, .inl (cZ, 5000, .inl (M.2.2.2.2.2.2.2.2.1))), (qs.2.2.2.2.2.1, .inl (cJ, 16, .inr (.inl (M.2.2.2.2.2.2.2.2.2.2.2.2.1)))), (qs.2.2.2.2.2.2.1, .inl (cI, 16, .inl (M.2.2.2.2.2.2.2.2.2.2.2.2.2.1))), (qs.2.2.2.2.2.2.2, .inl (cJ, 9616, .inr (.inl (M.2.2.2.2.2.2.2.2.2.2.2.2.2.2.2.1))))] := D_right hD
  have hFm : ∀ q, va_A [(h1, .inr (8, [.int M.1, .ref qs.1, .ref qs.2.1, .int M.2.2.2.1, .long M.2.2.2.2.1, .int M.2.2.2.2.2.1, .ref qs.2.2.1, .ref qs.2.2.2.1, .ref qs.2.2.2.2.1, .int M.2.2.2.2.2.2.2.2.2.1, .long M.2.2.2.2.2.2.2.2.2.2.1, .int M.2.2.2.2.2.2.2.2.2.2.2.1, .ref qs.2.2.2.2.2.1, .ref qs.2.2.2.2.2.2.1, .int M.2.2.2.2.2.2.2.2.2.2.2.2.2.2.1, .ref qs.2.2.2.2.2.2.2, .long M.2.2.2.2.2.2.2.2.2.2.2.2.2.2.2.2.1, .long M.2.2.2.2.2.2.2.2.2.2.2.2.2.2.2.2.2.1, .int M.2.2.2.2.2.2.2.2.2.2.2.2.2.2.2.2.2.2])), (qs.1, .inl (cI, 9592, .inl (M.2.1))), (qs.2.1, .inl (cZ, 2000001, .inl (M.2.2.1))), (qs.2.2.1, .inl (cJ, 5000, .inr (.inl (M.2.2.2.2.2.2.1)))), (qs.2.2.2.1, .inl (cJ, 5000, .inr (.inl (M.2.2.2.2.2.2.2.1)))), (qs.2.2.2.2.1, .inl (cZ, 5000, .inl (M.2.2.2.2.2.2.2.2.1))), (qs.2.2.2.2.2.1, .inl (cJ, 16, .inr (.inl (M.2.2.2.2.2.2.2.2.2.2.2.2.1)))), (qs.2.2.2.2.2.2.1, .inl (cI, 16, .inl (M.2.2.2.2.2.2.2.2.2.2.2.2.2.1))), (qs.2.2.2.2.2.2.2, .inl (cJ, 9616, .inr (.inl (M.2.2.2.2.2.2.2.2.2.2.2.2.2.2.2.1))))] H.size q → (fun q : Nat => s.heap.size ≤ q) q := F_right hD hS hA
  have b3 := cc__le (xc_ X2)
  have b4 := cs__le (xc_ X2)
  refine va_calll (va_runV (As := [.int (xs (i + (1 : Int32)).toNatClampNeg), .int (xs (i + (2 : Int32)).toNatClampNeg)]) (rest := [.long r]) ⟨hx, hb, hml, hown, hts⟩ (c_X9_parts_ l dC dI cI cJ cZ _ h1 M.1 M.2.1 qs.1 M.2.2.1 qs.2.1 M.2.2.2.1 M.2.2.2.2.1 M.2.2.2.2.2.1 M.2.2.2.2.2.2.1 qs.2.2.1 M.2.2.2.2.2.2.2.1 qs.2.2.2.1 M.2.2.2.2.2.2.2.2.1 qs.2.2.2.2.1 M.2.2.2.2.2.2.2.2.2.1 M.2.2.2.2.2.2.2.2.2.2.1 M.2.2.2.2.2.2.2.2.2.2.2.1 M.2.2.2.2.2.2.2.2.2.2.2.2.1 qs.2.2.2.2.2.1 M.2.2.2.2.2.2.2.2.2.2.2.2.2.1 qs.2.2.2.2.2.2.1 M.2.2.2.2.2.2.2.2.2.2.2.2.2.2.1 M.2.2.2.2.2.2.2.2.2.2.2.2.2.2.2.1 qs.2.2.2.2.2.2.2 M.2.2.2.2.2.2.2.2.2.2.2.2.2.2.2.2.1 M.2.2.2.2.2.2.2.2.2.2.2.2.2.2.2.2.2.1 M.2.2.2.2.2.2.2.2.2.2.2.2.2.2.2.2.2.2 (xs (i + (1 : Int32)).toNatClampNeg) (xs (i + (2 : Int32)).toNatClampNeg) _ h) (cwV 2 hts gL_law_X9_parts_ rfl rfl rfl (by decide +kernel) ⟨Nat.le_of_ble_eq_true rfl, Nat.le_of_ble_eq_true rfl⟩) ⟨pre_fb, va_recv hK hPm (ci := 8) (q0 := 0) rfl rfl, pre_of hPm hDm hK hN⟩ rfl rfl hl.1 rfl (lv_room (Nat.le_of_ble_eq_true rfl)) dL_law_552 ⟨(by show _ ≤ 600000; omega), (by show _ ≤ 7302250; omega)⟩) hS (fun q _ h => hFm q h) hFm (fun r2 u t H1 locs ht hvm h hB hz1 hk1 hS => ?_)
  obtain ⟨hP1, hD1⟩ := hB
  rw [ht] at hP1
  obtain ⟨hP, hD⟩ := frame2r (wr := xcells cI cJ cZ h0 X2) (wc := mcells cI cJ cZ h1 qs M) (w1 := mcells cI cJ cZ h1 qs (M.1, M.2.1, M.2.2.1, M.2.2.2.1, M.2.2.2.2.1, M.2.2.2.2.2.1, M.2.2.2.2.2.2.1, M.2.2.2.2.2.2.2.1, M.2.2.2.2.2.2.2.2.1, M.2.2.2.2.2.2.2.2.2.1, M.2.2.2.2.2.2.2.2.2.2.1, M.2.2.2.2.2.2.2.2.2.2.2.1, M.2.2.2.2.2.2.2.2.2.2.2.2.1, M.2.2.2.2.2.2.2.2.2.2.2.2.2.1, M.2.2.2.2.2.2.2.2.2.2.2.2.2.2.1, M.2.2.2.2.2.2.2.2.2.2.2.2.2.2.2.1, M.2.2.2.2.2.2.2.2.2.2.2.2.2.2.2.2.1, M.2.2.2.2.2.2.2.2.2.2.2.2.2.2.2.2.2.1, M.2.2.2.2.2.2.2.2.2.2.2.2.2.2.2.2.2.2)) hP hD hk1 hFm hP1 hD1
  generalize H1 = H at hP hS ⊢
  obtain ⟨hre, hI⟩ := h
  refine W.lcmp hx hb dL_law_555 ?_
  refine lv_if_eq (tgt := 1181) hx hb dL_law_556 (by decide) (fun c9 => ?_) (fun c9 => absurd hre (lc_neq c9))
  refine W.widen (k := 10 + cc_ (xc_ X2)) (n := 2034266 + cs_ (xc_ X2)) (by omega) (by omega) ?_
  exact hnx X2 (M.1, M.2.1, M.2.2.1, M.2.2.2.1, M.2.2.2.2.1, M.2.2.2.2.2.1, M.2.2.2.2.2.2.1, M.2.2.2.2.2.2.2.1, M.2.2.2.2.2.2.2.2.1, M.2.2.2.2.2.2.2.2.2.1, M.2.2.2.2.2.2.2.2.2.2.1, M.2.2.2.2.2.2.2.2.2.2.2.1, M.2.2.2.2.2.2.2.2.2.2.2.2.1, M.2.2.2.2.2.2.2.2.2.2.2.2.2.1, M.2.2.2.2.2.2.2.2.2.2.2.2.2.2.1, M.2.2.2.2.2.2.2.2.2.2.2.2.2.2.2.1, M.2.2.2.2.2.2.2.2.2.2.2.2.2.2.2.2.1, M.2.2.2.2.2.2.2.2.2.2.2.2.2.2.2.2.2.1, M.2.2.2.2.2.2.2.2.2.2.2.2.2.2.2.2.2.2) hI H locs hP hD hS ls hl
set_option maxHeartbeats 4000000 in
set_option maxRecDepth 100000 in
theorem lcase_parted {p : Program} {l : Launch} {e : Env} {s : State} {m : MethodId} {below : List Frame} {meth : Method} {c : Code} {dC : Nat → ClassId} {dI : Nat → Nat → Nat} {cI cJ cZ : ClassId} {b h0 h1 : Nat} {qs : AM_} {Inv : XC_ → MC_ → Prop} {L : Nat} {xs : Nat → Int32} (C0 : lw_At p s m meth c b L xs) (hK : va_K (dC, dI) vwCl (tys_ cI cJ cZ) s) (hN : nw_ s) {i : Int32} (hi1 : vp_in (i + (1 : Int32)) L) (hi2 : vp_in (i + (2 : Int32)) L) (hi3 : vp_in (i + (3 : Int32)) L) (hi4 : vp_in (i + (4 : Int32)) L) (hst : st_parted Inv) (hnx : law_at p l e s m below meth c dC dI cI cJ cZ b h0 h1 qs Inv 1181 i) : law_at p l e s m below meth c dC dI cI cJ cZ b h0 h1 qs Inv 561 i := by
  obtain ⟨hx, hb, hr, hml, hown, hts, hX, hbl, hlocks, hgv⟩ := C0
  replace hts := fun w h => hts w (wsL_law_in w h)
  have hA : ∀ q : Nat, s.heap.size ≤ q → (fun q : Nat => s.heap.size ≤ q) q := fun _ h => h
  have hbA : ¬ (fun q : Nat => s.heap.size ≤ q) b := Nat.not_le.mpr hbl
  have hown : s.vm.findClass RL = some m.cls := hown
  intro X M hI H locs hP hD hS ls hl
  refine lv_aload_n hx hb dL_law_561 rfl (lv_at hl 1 rfl) ?_
  refine lv_aload_n hx hb dL_law_562 rfl (lv_at hl 0 rfl) ?_
  refine lv_iload_n hx hb dL_law_563 rfl (lv_at hl 3 rfl) ?_
  refine lv_iconst (v := (1 : Int32)) hx hb dL_law_564 (by decide) ?_
  refine lv_iadd hx hb dL_law_565 ?_
  refine va_sld hx hb hX hbl hbA hS hi1 dL_law_566 ?_
  obtain ⟨mc, ms, hmc, hms, h⟩ := hst (xc_ X) M (xs (i + (1 : Int32)).toNatClampNeg) hI
  have hPx := P_left hP
  have hDx := D_left hD
  have hFx := F_left hD hS hA
  have b1 := cc__le (xc_ X)
  have b2 := cs__le (xc_ X)
  refine va_calll (va_runV (As := [.int (xs (i + (1 : Int32)).toNatClampNeg)]) (rest := []) ⟨hx, hb, hml, hown, hts⟩ (cx_parted l dC dI cI cJ cZ _ h0 mc ms X (xs (i + (1 : Int32)).toNatClampNeg) _ h) (cwV 1 hts gL_law_X8_parted rfl rfl rfl (by decide +kernel) ⟨Nat.le_of_ble_eq_true rfl, Nat.le_of_ble_eq_true rfl⟩) ⟨pre_fb, va_recv hK hPx (ci := 7) (q0 := 0) rfl rfl, pre_of hPx hDx hK hN⟩ rfl rfl hl.1 rfl (lv_room (Nat.le_of_ble_eq_true rfl)) dL_law_567 ⟨(by show _ ≤ 600000; omega), (by show _ ≤ 7302250; omega)⟩) hS (fun q _ h => hFx q h) hFx (fun r X2 t H1 locs ht hvm h hB hz1 hk1 hS => ?_)
  obtain ⟨hP1, hD1⟩ := hB
  rw [ht] at hP1
  obtain ⟨hP, hD⟩ := frame2 hP hD hk1 hFx hP1 hD1
  generalize H1 = H at hP hS ⊢
  obtain ⟨hc1, hc2, h⟩ := h
  refine W.widen (k := 10 + cc_ (xc_ X2)) (n := 2034266 + cs_ (xc_ X2)) (by omega) (by omega) ?_
  refine lv_aload_n hx hb dL_law_570 rfl (lv_at hl 2 rfl) ?_
  refine lv_aload_n hx hb dL_law_571 rfl (lv_at hl 0 rfl) ?_
  refine lv_iload_n hx hb dL_law_572 rfl (lv_at hl 3 rfl) ?_
  refine lv_iconst (v := (1 : Int32)) hx hb dL_law_573 (by decide) ?_
  refine lv_iadd hx hb dL_law_574 ?_
  refine va_sld hx hb hX hbl hbA hS hi1 dL_law_575 ?_
  have hPm : va_P (dC, dI) vwCl [(h1, .inr (8, [.int M.1, .ref qs.1, .ref qs.2.1, .int M.2.2.2.1, .long M.2.2.2.2.1, .int M.2.2.2.2.2.1, .ref qs.2.2.1, .ref qs.2.2.2.1, .ref qs.2.2.2.2.1, .int M.2.2.2.2.2.2.2.2.2.1, .long M.2.2.2.2.2.2.2.2.2.2.1, .int M.2.2.2.2.2.2.2.2.2.2.2.1, .ref qs.2.2.2.2.2.1, .ref qs.2.2.2.2.2.2.1, .int M.2.2.2.2.2.2.2.2.2.2.2.2.2.2.1, .ref qs.2.2.2.2.2.2.2, .long M.2.2.2.2.2.2.2.2.2.2.2.2.2.2.2.2.1, .long M.2.2.2.2.2.2.2.2.2.2.2.2.2.2.2.2.2.1, .int M.2.2.2.2.2.2.2.2.2.2.2.2.2.2.2.2.2.2])), (qs.1, .inl (cI, 9592, .inl (M.2.1))), (qs.2.1, .inl (cZ, 2000001, .inl (M.2.2.1))), (qs.2.2.1, .inl (cJ, 5000, .inr (.inl (M.2.2.2.2.2.2.1)))), (qs.2.2.2.1, .inl (cJ, 5000, .inr (.inl (M.2.2.2.2.2.2.2.1)))), (qs.2.2.2.2.1, .inl (cZ, 5000, .inl (M.2.2.2.2.2.2.2.2.1))), (qs.2.2.2.2.2.1, .inl (cJ, 16, .inr (.inl (M.2.2.2.2.2.2.2.2.2.2.2.2.1)))), (qs.2.2.2.2.2.2.1, .inl (cI, 16, .inl (M.2.2.2.2.2.2.2.2.2.2.2.2.2.1))), (qs.2.2.2.2.2.2.2, .inl (cJ, 9616, .inr (.inl (M.2.2.2.2.2.2.2.2.2.2.2.2.2.2.2.1))))] H := P_right hP
  have hDm : va_D (fun q : Nat => s.heap.size ≤ q) [(h1, .inr (8, [.int M.1, .ref qs.1, .ref qs.2.1, .int M.2.2.2.1, .long M.2.2.2.2.1, .int M.2.2.2.2.2.1, .ref qs.2.2.1, .ref qs.2.2.2.1, .ref qs.2.2.2.2.1, .int M.2.2.2.2.2.2.2.2.2.1, .long M.2.2.2.2.2.2.2.2.2.2.1, .int M.2.2.2.2.2.2.2.2.2.2.2.1, .ref qs.2.2.2.2.2.1, .ref qs.2.2.2.2.2.2.1, .int M.2.2.2.2.2.2.2.2.2.2.2.2.2.2.1, .ref qs.2.2.2.2.2.2.2, .long M.2.2.2.2.2.2.2.2.2.2.2.2.2.2.2.2.1, .long M.2.2.2.2.2.2.2.2.2.2.2.2.2.2.2.2.2.1, .int M.2.2.2.2.2.2.2.2.2.2.2.2.2.2.2.2.2.2])), (qs.1, .inl (cI, 9592, .inl (M.2.1))), (qs.2.1, .inl (cZ, 2000001, .inl (M.2.2.1))), (qs.2.2.1, .inl (cJ, 5000, .inr (.inl (M.2.2.2.2.2.2.1)))), (qs.2.2.2.1, .inl (cJ, 5000, .inr (.inl (M.2.2.2.2.2.2.2.1)))), (qs.2.2.2.2.1, .inl (cZ, 5000, .inl (M.2.2.2.2.2.2.2.2.1))), (qs.2.2.2.2.2.1, .inl (cJ, 16, .inr (.inl (M.2.2.2.2.2.2.2.2.2.2.2.2.1)))), (qs.2.2.2.2.2.2.1, .inl (cI, 16, .inl (M.2.2.2.2.2.2.2.2.2.2.2.2.2.1))), (qs.2.2.2.2.2.2.2, .inl (cJ, 9616, .inr (.inl (M.2.2.2.2.2.2.2.2.2.2.2.2.2.2.2.1))))] := D_right hD
  have hFm : ∀ q, va_A [(h1, .inr (8, [.int M.1, .ref qs.1, .ref qs.2.1, .int M.2.2.2.1, .long M.2.2.2.2.1, .int M.2.2.2.2.2.1, .ref qs.2.2.1, .ref qs.2.2.2.1, .ref qs.2.2.2.2.1, .int M.2.2.2.2.2.2.2.2.2.1, .long M.2.2.2.2.2.2.2.2.2.2.1, .int M.2.2.2.2.2.2.2.2.2.2.2.1, .ref qs.2.2.2.2.2.1, .ref qs.2.2.2.2.2.2.1, .int M.2.2.2.2.2.2.2.2.2.2.2.2.2.2.1, .ref qs.2.2.2.2.2.2.2, .long M.2.2.2.2.2.2.2.2.2.2.2.2.2.2.2.2.1, .long M.2.2.2.2.2.2.2.2.2.2.2.2.2.2.2.2.2.1, .int M.2.2.2.2.2.2.2.2.2.2.2.2.2.2.2.2.2.2])), (qs.1, .inl (cI, 9592, .inl (M.2.1))), (qs.2.1, .inl (cZ, 2000001, .inl (M.2.2.1))), (qs.2.2.1, .inl (cJ, 5000, .inr (.inl (M.2.2.2.2.2.2.1)))), (qs.2.2.2.1, .inl (cJ, 5000, .inr (.inl (M.2.2.2.2.2.2.2.1)))), (qs.2.2.2.2.1, .inl (cZ, 5000, .inl (M.2.2.2.2.2.2.2.2.1))), (qs.2.2.2.2.2.1, .inl (cJ, 16, .inr (.inl (M.2.2.2.2.2.2.2.2.2.2.2.2.1)))), (qs.2.2.2.2.2.2.1, .inl (cI, 16, .inl (M.2.2.2.2.2.2.2.2.2.2.2.2.2.1))), (qs.2.2.2.2.2.2.2, .inl (cJ, 9616, .inr (.inl (M.2.2.2.2.2.2.2.2.2.2.2.2.2.2.2.1))))] H.size q → (fun q : Nat => s.heap.size ≤ q) q := F_right hD hS hA
  have b3 := cc__le (xc_ X2)
  have b4 := cs__le (xc_ X2)
  refine va_calll (va_runV (As := [.int (xs (i + (1 : Int32)).toNatClampNeg)]) (rest := [.long r]) ⟨hx, hb, hml, hown, hts⟩ (c_X9_parted l dC dI cI cJ cZ _ h1 M.1 M.2.1 qs.1 M.2.2.1 qs.2.1 M.2.2.2.1 M.2.2.2.2.1 M.2.2.2.2.2.1 M.2.2.2.2.2.2.1 qs.2.2.1 M.2.2.2.2.2.2.2.1 qs.2.2.2.1 M.2.2.2.2.2.2.2.2.1 qs.2.2.2.2.1 M.2.2.2.2.2.2.2.2.2.1 M.2.2.2.2.2.2.2.2.2.2.1 M.2.2.2.2.2.2.2.2.2.2.2.1 M.2.2.2.2.2.2.2.2.2.2.2.2.1 qs.2.2.2.2.2.1 M.2.2.2.2.2.2.2.2.2.2.2.2.2.1 qs.2.2.2.2.2.2.1 M.2.2.2.2.2.2.2.2.2.2.2.2.2.2.1 M.2.2.2.2.2.2.2.2.2.2.2.2.2.2.2.1 qs.2.2.2.2.2.2.2 M.2.2.2.2.2.2.2.2.2.2.2.2.2.2.2.2.1 M.2.2.2.2.2.2.2.2.2.2.2.2.2.2.2.2.2.1 M.2.2.2.2.2.2.2.2.2.2.2.2.2.2.2.2.2.2 (xs (i + (1 : Int32)).toNatClampNeg) _ h) (cwV 1 hts gL_law_X9_parted rfl rfl rfl (by decide +kernel) ⟨Nat.le_of_ble_eq_true rfl, Nat.le_of_ble_eq_true rfl⟩) ⟨pre_fb, va_recv hK hPm (ci := 8) (q0 := 0) rfl rfl, pre_of hPm hDm hK hN⟩ rfl rfl hl.1 rfl (lv_room (Nat.le_of_ble_eq_true rfl)) dL_law_576 ⟨(by show _ ≤ 600000; omega), (by show _ ≤ 7302250; omega)⟩) hS (fun q _ h => hFm q h) hFm (fun r2 u t H1 locs ht hvm h hB hz1 hk1 hS => ?_)
  obtain ⟨hP1, hD1⟩ := hB
  rw [ht] at hP1
  obtain ⟨hP, hD⟩ := frame2r (wr := xcells cI cJ cZ h0 X2) (wc := mcells cI cJ cZ h1 qs M) (w1 := mcells cI cJ cZ h1 qs (M.1, M.2.1, M.2.2.1, M.2.2.2.1, M.2.2.2.2.1, M.2.2.2.2.2.1, M.2.2.2.2.2.2.1, M.2.2.2.2.2.2.2.1, M.2.2.2.2.2.2.2.2.1, M.2.2.2.2.2.2.2.2.2.1, M.2.2.2.2.2.2.2.2.2.2.1, M.2.2.2.2.2.2.2.2.2.2.2.1, M.2.2.2.2.2.2.2.2.2.2.2.2.1, M.2.2.2.2.2.2.2.2.2.2.2.2.2.1, M.2.2.2.2.2.2.2.2.2.2.2.2.2.2.1, M.2.2.2.2.2.2.2.2.2.2.2.2.2.2.2.1, M.2.2.2.2.2.2.2.2.2.2.2.2.2.2.2.2.1, M.2.2.2.2.2.2.2.2.2.2.2.2.2.2.2.2.2.1, M.2.2.2.2.2.2.2.2.2.2.2.2.2.2.2.2.2.2)) hP hD hk1 hFm hP1 hD1
  generalize H1 = H at hP hS ⊢
  obtain ⟨hre, hI⟩ := h
  refine W.lcmp hx hb dL_law_579 ?_
  refine lv_if_eq (tgt := 1181) hx hb dL_law_580 (by decide) (fun c9 => ?_) (fun c9 => absurd hre (lc_neq c9))
  refine W.widen (k := 10 + cc_ (xc_ X2)) (n := 2034266 + cs_ (xc_ X2)) (by omega) (by omega) ?_
  exact hnx X2 (M.1, M.2.1, M.2.2.1, M.2.2.2.1, M.2.2.2.2.1, M.2.2.2.2.2.1, M.2.2.2.2.2.2.1, M.2.2.2.2.2.2.2.1, M.2.2.2.2.2.2.2.2.1, M.2.2.2.2.2.2.2.2.2.1, M.2.2.2.2.2.2.2.2.2.2.1, M.2.2.2.2.2.2.2.2.2.2.2.1, M.2.2.2.2.2.2.2.2.2.2.2.2.1, M.2.2.2.2.2.2.2.2.2.2.2.2.2.1, M.2.2.2.2.2.2.2.2.2.2.2.2.2.2.1, M.2.2.2.2.2.2.2.2.2.2.2.2.2.2.2.1, M.2.2.2.2.2.2.2.2.2.2.2.2.2.2.2.2.1, M.2.2.2.2.2.2.2.2.2.2.2.2.2.2.2.2.2.1, M.2.2.2.2.2.2.2.2.2.2.2.2.2.2.2.2.2.2) hI H locs hP hD hS ls hl
set_option maxHeartbeats 4000000 in
set_option maxRecDepth 100000 in
theorem lcase_without {p : Program} {l : Launch} {e : Env} {s : State} {m : MethodId} {below : List Frame} {meth : Method} {c : Code} {dC : Nat → ClassId} {dI : Nat → Nat → Nat} {cI cJ cZ : ClassId} {b h0 h1 : Nat} {qs : AM_} {Inv : XC_ → MC_ → Prop} {L : Nat} {xs : Nat → Int32} (C0 : lw_At p s m meth c b L xs) (hK : va_K (dC, dI) vwCl (tys_ cI cJ cZ) s) (hN : nw_ s) {i : Int32} (hi1 : vp_in (i + (1 : Int32)) L) (hi2 : vp_in (i + (2 : Int32)) L) (hi3 : vp_in (i + (3 : Int32)) L) (hi4 : vp_in (i + (4 : Int32)) L) (hst : st_without Inv) (hnx : law_at p l e s m below meth c dC dI cI cJ cZ b h0 h1 qs Inv 1181 i) : law_at p l e s m below meth c dC dI cI cJ cZ b h0 h1 qs Inv 585 i := by
  obtain ⟨hx, hb, hr, hml, hown, hts, hX, hbl, hlocks, hgv⟩ := C0
  replace hts := fun w h => hts w (wsL_law_in w h)
  have hA : ∀ q : Nat, s.heap.size ≤ q → (fun q : Nat => s.heap.size ≤ q) q := fun _ h => h
  have hbA : ¬ (fun q : Nat => s.heap.size ≤ q) b := Nat.not_le.mpr hbl
  have hown : s.vm.findClass RL = some m.cls := hown
  intro X M hI H locs hP hD hS ls hl
  refine lv_aload_n hx hb dL_law_585 rfl (lv_at hl 1 rfl) ?_
  refine lv_aload_n hx hb dL_law_586 rfl (lv_at hl 0 rfl) ?_
  refine lv_iload_n hx hb dL_law_587 rfl (lv_at hl 3 rfl) ?_
  refine lv_iconst (v := (1 : Int32)) hx hb dL_law_588 (by decide) ?_
  refine lv_iadd hx hb dL_law_589 ?_
  refine va_sld hx hb hX hbl hbA hS hi1 dL_law_590 ?_
  refine lv_i2l hx hb dL_law_591 rfl ?_
  refine lv_bipush (v := (32 : Int32)) hx hb dL_law_592 (by decide) ?_
  refine lv_lshl hx hb dL_law_594 rfl ?_
  refine lv_aload_n hx hb dL_law_595 rfl (lv_at hl 0 rfl) ?_
  refine lv_iload_n hx hb dL_law_596 rfl (lv_at hl 3 rfl) ?_
  refine lv_iconst (v := (2 : Int32)) hx hb dL_law_597 (by decide) ?_
  refine lv_iadd hx hb dL_law_598 ?_
  refine va_sld hx hb hX hbl hbA hS hi2 dL_law_599 ?_
  refine lv_i2l hx hb dL_law_600 rfl ?_
  refine lv_ldc2 hx hb hown (hts (.constantLong RL 13 (4294967295)) (by decide +kernel)) dL_law_601 ?_
  refine lv_land hx hb dL_law_604 ?_
  refine lv_lor hx hb dL_law_605 ?_
  obtain ⟨mc, ms, hmc, hms, h⟩ := hst (xc_ X) M (((xs (i + (1 : Int32)).toNatClampNeg).toInt64 <<< ((32 : Int32).toInt64 &&& 63)) ||| ((xs (i + (2 : Int32)).toNatClampNeg).toInt64 &&& (4294967295 : Int64))) hI
  have hPx := P_left hP
  have hDx := D_left hD
  have hFx := F_left hD hS hA
  have b1 := cc__le (xc_ X)
  have b2 := cs__le (xc_ X)
  refine va_calll (va_runV (As := [.long (((xs (i + (1 : Int32)).toNatClampNeg).toInt64 <<< ((32 : Int32).toInt64 &&& 63)) ||| ((xs (i + (2 : Int32)).toNatClampNeg).toInt64 &&& (4294967295 : Int64)))]) (rest := []) ⟨hx, hb, hml, hown, hts⟩ (cx_without l dC dI cI cJ cZ _ h0 mc ms X (((xs (i + (1 : Int32)).toNatClampNeg).toInt64 <<< ((32 : Int32).toInt64 &&& 63)) ||| ((xs (i + (2 : Int32)).toNatClampNeg).toInt64 &&& (4294967295 : Int64))) _ h) (cwV 1 hts gL_law_X8_without rfl rfl rfl (by decide +kernel) ⟨Nat.le_of_ble_eq_true rfl, Nat.le_of_ble_eq_true rfl⟩) ⟨pre_fb, va_recv hK hPx (ci := 7) (q0 := 0) rfl rfl, pre_of hPx hDx hK hN⟩ rfl rfl hl.1 rfl (lv_room (Nat.le_of_ble_eq_true rfl)) dL_law_606 ⟨(by show _ ≤ 600000; omega), (by show _ ≤ 7302250; omega)⟩) hS (fun q _ h => hFx q h) hFx (fun r X2 t H1 locs ht hvm h hB hz1 hk1 hS => ?_)
  obtain ⟨hP1, hD1⟩ := hB
  rw [ht] at hP1
  obtain ⟨hP, hD⟩ := frame2 hP hD hk1 hFx hP1 hD1
  generalize H1 = H at hP hS ⊢
  obtain ⟨hc1, hc2, h⟩ := h
  refine W.widen (k := 10 + cc_ (xc_ X2)) (n := 2034266 + cs_ (xc_ X2)) (by omega) (by omega) ?_
  refine lv_aload_n hx hb dL_law_609 rfl (lv_at hl 2 rfl) ?_
  refine lv_aload_n hx hb dL_law_610 rfl (lv_at hl 0 rfl) ?_
  refine lv_iload_n hx hb dL_law_611 rfl (lv_at hl 3 rfl) ?_
  refine lv_iconst (v := (1 : Int32)) hx hb dL_law_612 (by decide) ?_
  refine lv_iadd hx hb dL_law_613 ?_
  refine va_sld hx hb hX hbl hbA hS hi1 dL_law_614 ?_
  refine lv_i2l hx hb dL_law_615 rfl ?_
  refine lv_bipush (v := (32 : Int32)) hx hb dL_law_616 (by decide) ?_
  refine lv_lshl hx hb dL_law_618 rfl ?_
  refine lv_aload_n hx hb dL_law_619 rfl (lv_at hl 0 rfl) ?_
  refine lv_iload_n hx hb dL_law_620 rfl (lv_at hl 3 rfl) ?_
  refine lv_iconst (v := (2 : Int32)) hx hb dL_law_621 (by decide) ?_
  refine lv_iadd hx hb dL_law_622 ?_
  refine va_sld hx hb hX hbl hbA hS hi2 dL_law_623 ?_
  refine lv_i2l hx hb dL_law_624 rfl ?_
  refine lv_ldc2 hx hb hown (hts (.constantLong RL 13 (4294967295)) (by decide +kernel)) dL_law_625 ?_
  refine lv_land hx hb dL_law_628 ?_
  refine lv_lor hx hb dL_law_629 ?_
  have hPm : va_P (dC, dI) vwCl [(h1, .inr (8, [.int M.1, .ref qs.1, .ref qs.2.1, .int M.2.2.2.1, .long M.2.2.2.2.1, .int M.2.2.2.2.2.1, .ref qs.2.2.1, .ref qs.2.2.2.1, .ref qs.2.2.2.2.1, .int M.2.2.2.2.2.2.2.2.2.1, .long M.2.2.2.2.2.2.2.2.2.2.1, .int M.2.2.2.2.2.2.2.2.2.2.2.1, .ref qs.2.2.2.2.2.1, .ref qs.2.2.2.2.2.2.1, .int M.2.2.2.2.2.2.2.2.2.2.2.2.2.2.1, .ref qs.2.2.2.2.2.2.2, .long M.2.2.2.2.2.2.2.2.2.2.2.2.2.2.2.2.1, .long M.2.2.2.2.2.2.2.2.2.2.2.2.2.2.2.2.2.1, .int M.2.2.2.2.2.2.2.2.2.2.2.2.2.2.2.2.2.2])), (qs.1, .inl (cI, 9592, .inl (M.2.1))), (qs.2.1, .inl (cZ, 2000001, .inl (M.2.2.1))), (qs.2.2.1, .inl (cJ, 5000, .inr (.inl (M.2.2.2.2.2.2.1)))), (qs.2.2.2.1, .inl (cJ, 5000, .inr (.inl (M.2.2.2.2.2.2.2.1)))), (qs.2.2.2.2.1, .inl (cZ, 5000, .inl (M.2.2.2.2.2.2.2.2.1))), (qs.2.2.2.2.2.1, .inl (cJ, 16, .inr (.inl (M.2.2.2.2.2.2.2.2.2.2.2.2.1)))), (qs.2.2.2.2.2.2.1, .inl (cI, 16, .inl (M.2.2.2.2.2.2.2.2.2.2.2.2.2.1))), (qs.2.2.2.2.2.2.2, .inl (cJ, 9616, .inr (.inl (M.2.2.2.2.2.2.2.2.2.2.2.2.2.2.2.1))))] H := P_right hP
  have hDm : va_D (fun q : Nat => s.heap.size ≤ q) [(h1, .inr (8, [.int M.1, .ref qs.1, .ref qs.2.1, .int M.2.2.2.1, .long M.2.2.2.2.1, .int M.2.2.2.2.2.1, .ref qs.2.2.1, .ref qs.2.2.2.1, .ref qs.2.2.2.2.1, .int M.2.2.2.2.2.2.2.2.2.1, .long M.2.2.2.2.2.2.2.2.2.2.1, .int M.2.2.2.2.2.2.2.2.2.2.2.1, .ref qs.2.2.2.2.2.1, .ref qs.2.2.2.2.2.2.1, .int M.2.2.2.2.2.2.2.2.2.2.2.2.2.2.1, .ref qs.2.2.2.2.2.2.2, .long M.2.2.2.2.2.2.2.2.2.2.2.2.2.2.2.2.1, .long M.2.2.2.2.2.2.2.2.2.2.2.2.2.2.2.2.2.1, .int M.2.2.2.2.2.2.2.2.2.2.2.2.2.2.2.2.2.2])), (qs.1, .inl (cI, 9592, .inl (M.2.1))), (qs.2.1, .inl (cZ, 2000001, .inl (M.2.2.1))), (qs.2.2.1, .inl (cJ, 5000, .inr (.inl (M.2.2.2.2.2.2.1)))), (qs.2.2.2.1, .inl (cJ, 5000, .inr (.inl (M.2.2.2.2.2.2.2.1)))), (qs.2.2.2.2.1, .inl (cZ, 5000, .inl (M.2.2.2.2.2.2.2.2.1))), (qs.2.2.2.2.2.1, .inl (cJ, 16, .inr (.inl (M.2.2.2.2.2.2.2.2.2.2.2.2.1)))), (qs.2.2.2.2.2.2.1, .inl (cI, 16, .inl (M.2.2.2.2.2.2.2.2.2.2.2.2.2.1))), (qs.2.2.2.2.2.2.2, .inl (cJ, 9616, .inr (.inl (M.2.2.2.2.2.2.2.2.2.2.2.2.2.2.2.1))))] := D_right hD
  have hFm : ∀ q, va_A [(h1, .inr (8, [.int M.1, .ref qs.1, .ref qs.2.1, .int M.2.2.2.1, .long M.2.2.2.2.1, .int M.2.2.2.2.2.1, .ref qs.2.2.1, .ref qs.2.2.2.1, .ref qs.2.2.2.2.1, .int M.2.2.2.2.2.2.2.2.2.1, .long M.2.2.2.2.2.2.2.2.2.2.1, .int M.2.2.2.2.2.2.2.2.2.2.2.1, .ref qs.2.2.2.2.2.1, .ref qs.2.2.2.2.2.2.1, .int M.2.2.2.2.2.2.2.2.2.2.2.2.2.2.1, .ref qs.2.2.2.2.2.2.2, .long M.2.2.2.2.2.2.2.2.2.2.2.2.2.2.2.2.1, .long M.2.2.2.2.2.2.2.2.2.2.2.2.2.2.2.2.2.1, .int M.2.2.2.2.2.2.2.2.2.2.2.2.2.2.2.2.2.2])), (qs.1, .inl (cI, 9592, .inl (M.2.1))), (qs.2.1, .inl (cZ, 2000001, .inl (M.2.2.1))), (qs.2.2.1, .inl (cJ, 5000, .inr (.inl (M.2.2.2.2.2.2.1)))), (qs.2.2.2.1, .inl (cJ, 5000, .inr (.inl (M.2.2.2.2.2.2.2.1)))), (qs.2.2.2.2.1, .inl (cZ, 5000, .inl (M.2.2.2.2.2.2.2.2.1))), (qs.2.2.2.2.2.1, .inl (cJ, 16, .inr (.inl (M.2.2.2.2.2.2.2.2.2.2.2.2.1)))), (qs.2.2.2.2.2.2.1, .inl (cI, 16, .inl (M.2.2.2.2.2.2.2.2.2.2.2.2.2.1))), (qs.2.2.2.2.2.2.2, .inl (cJ, 9616, .inr (.inl (M.2.2.2.2.2.2.2.2.2.2.2.2.2.2.2.1))))] H.size q → (fun q : Nat => s.heap.size ≤ q) q := F_right hD hS hA
  have b3 := cc__le (xc_ X2)
  have b4 := cs__le (xc_ X2)
  refine va_calll (va_runV (As := [.long (((xs (i + (1 : Int32)).toNatClampNeg).toInt64 <<< ((32 : Int32).toInt64 &&& 63)) ||| ((xs (i + (2 : Int32)).toNatClampNeg).toInt64 &&& (4294967295 : Int64)))]) (rest := [.long r]) ⟨hx, hb, hml, hown, hts⟩ (c_X9_without l dC dI cI cJ cZ _ h1 M.1 M.2.1 qs.1 M.2.2.1 qs.2.1 M.2.2.2.1 M.2.2.2.2.1 M.2.2.2.2.2.1 M.2.2.2.2.2.2.1 qs.2.2.1 M.2.2.2.2.2.2.2.1 qs.2.2.2.1 M.2.2.2.2.2.2.2.2.1 qs.2.2.2.2.1 M.2.2.2.2.2.2.2.2.2.1 M.2.2.2.2.2.2.2.2.2.2.1 M.2.2.2.2.2.2.2.2.2.2.2.1 M.2.2.2.2.2.2.2.2.2.2.2.2.1 qs.2.2.2.2.2.1 M.2.2.2.2.2.2.2.2.2.2.2.2.2.1 qs.2.2.2.2.2.2.1 M.2.2.2.2.2.2.2.2.2.2.2.2.2.2.1 M.2.2.2.2.2.2.2.2.2.2.2.2.2.2.2.1 qs.2.2.2.2.2.2.2 M.2.2.2.2.2.2.2.2.2.2.2.2.2.2.2.2.1 M.2.2.2.2.2.2.2.2.2.2.2.2.2.2.2.2.2.1 M.2.2.2.2.2.2.2.2.2.2.2.2.2.2.2.2.2.2 (((xs (i + (1 : Int32)).toNatClampNeg).toInt64 <<< ((32 : Int32).toInt64 &&& 63)) ||| ((xs (i + (2 : Int32)).toNatClampNeg).toInt64 &&& (4294967295 : Int64))) _ h) (cwV 1 hts gL_law_X9_without rfl rfl rfl (by decide +kernel) ⟨Nat.le_of_ble_eq_true rfl, Nat.le_of_ble_eq_true rfl⟩) ⟨pre_fb, va_recv hK hPm (ci := 8) (q0 := 0) rfl rfl, pre_of hPm hDm hK hN⟩ rfl rfl hl.1 rfl (lv_room (Nat.le_of_ble_eq_true rfl)) dL_law_630 ⟨(by show _ ≤ 600000; omega), (by show _ ≤ 7302250; omega)⟩) hS (fun q _ h => hFm q h) hFm (fun r2 u t H1 locs ht hvm h hB hz1 hk1 hS => ?_)
  obtain ⟨hP1, hD1⟩ := hB
  rw [ht] at hP1
  obtain ⟨hP, hD⟩ := frame2r (wr := xcells cI cJ cZ h0 X2) (wc := mcells cI cJ cZ h1 qs M) (w1 := mcells cI cJ cZ h1 qs (M.1, M.2.1, M.2.2.1, M.2.2.2.1, M.2.2.2.2.1, M.2.2.2.2.2.1, M.2.2.2.2.2.2.1, M.2.2.2.2.2.2.2.1, M.2.2.2.2.2.2.2.2.1, M.2.2.2.2.2.2.2.2.2.1, M.2.2.2.2.2.2.2.2.2.2.1, M.2.2.2.2.2.2.2.2.2.2.2.1, M.2.2.2.2.2.2.2.2.2.2.2.2.1, M.2.2.2.2.2.2.2.2.2.2.2.2.2.1, M.2.2.2.2.2.2.2.2.2.2.2.2.2.2.1, M.2.2.2.2.2.2.2.2.2.2.2.2.2.2.2.1, M.2.2.2.2.2.2.2.2.2.2.2.2.2.2.2.2.1, M.2.2.2.2.2.2.2.2.2.2.2.2.2.2.2.2.2.1, M.2.2.2.2.2.2.2.2.2.2.2.2.2.2.2.2.2.2)) hP hD hk1 hFm hP1 hD1
  generalize H1 = H at hP hS ⊢
  obtain ⟨hre, hI⟩ := h
  refine W.lcmp hx hb dL_law_633 ?_
  refine lv_if_eq (tgt := 1181) hx hb dL_law_634 (by decide) (fun c9 => ?_) (fun c9 => absurd hre (lc_neq c9))
  refine W.widen (k := 10 + cc_ (xc_ X2)) (n := 2034266 + cs_ (xc_ X2)) (by omega) (by omega) ?_
  exact hnx X2 (M.1, M.2.1, M.2.2.1, M.2.2.2.1, M.2.2.2.2.1, M.2.2.2.2.2.1, M.2.2.2.2.2.2.1, M.2.2.2.2.2.2.2.1, M.2.2.2.2.2.2.2.2.1, M.2.2.2.2.2.2.2.2.2.1, M.2.2.2.2.2.2.2.2.2.2.1, M.2.2.2.2.2.2.2.2.2.2.2.1, M.2.2.2.2.2.2.2.2.2.2.2.2.1, M.2.2.2.2.2.2.2.2.2.2.2.2.2.1, M.2.2.2.2.2.2.2.2.2.2.2.2.2.2.1, M.2.2.2.2.2.2.2.2.2.2.2.2.2.2.2.1, M.2.2.2.2.2.2.2.2.2.2.2.2.2.2.2.2.1, M.2.2.2.2.2.2.2.2.2.2.2.2.2.2.2.2.2.1, M.2.2.2.2.2.2.2.2.2.2.2.2.2.2.2.2.2.2) hI H locs hP hD hS ls hl
set_option maxHeartbeats 4000000 in
set_option maxRecDepth 100000 in
theorem lcase_count {p : Program} {l : Launch} {e : Env} {s : State} {m : MethodId} {below : List Frame} {meth : Method} {c : Code} {dC : Nat → ClassId} {dI : Nat → Nat → Nat} {cI cJ cZ : ClassId} {b h0 h1 : Nat} {qs : AM_} {Inv : XC_ → MC_ → Prop} {L : Nat} {xs : Nat → Int32} (C0 : lw_At p s m meth c b L xs) (hK : va_K (dC, dI) vwCl (tys_ cI cJ cZ) s) (hN : nw_ s) {i : Int32} (hi1 : vp_in (i + (1 : Int32)) L) (hi2 : vp_in (i + (2 : Int32)) L) (hi3 : vp_in (i + (3 : Int32)) L) (hi4 : vp_in (i + (4 : Int32)) L) (hst : st_count Inv) (hnx : law_at p l e s m below meth c dC dI cI cJ cZ b h0 h1 qs Inv 1181 i) : law_at p l e s m below meth c dC dI cI cJ cZ b h0 h1 qs Inv 639 i := by
  obtain ⟨hx, hb, hr, hml, hown, hts, hX, hbl, hlocks, hgv⟩ := C0
  replace hts := fun w h => hts w (wsL_law_in w h)
  have hA : ∀ q : Nat, s.heap.size ≤ q → (fun q : Nat => s.heap.size ≤ q) q := fun _ h => h
  have hbA : ¬ (fun q : Nat => s.heap.size ≤ q) b := Nat.not_le.mpr hbl
  have hown : s.vm.findClass RL = some m.cls := hown
  intro X M hI H locs hP hD hS ls hl
  refine lv_aload_n hx hb dL_law_639 rfl (lv_at hl 1 rfl) ?_
  refine lv_aload_n hx hb dL_law_640 rfl (lv_at hl 0 rfl) ?_
  refine lv_iload_n hx hb dL_law_641 rfl (lv_at hl 3 rfl) ?_
  refine lv_iconst (v := (1 : Int32)) hx hb dL_law_642 (by decide) ?_
  refine lv_iadd hx hb dL_law_643 ?_
  refine va_sld hx hb hX hbl hbA hS hi1 dL_law_644 ?_
  obtain ⟨mc, ms, hmc, hms, h⟩ := hst (xc_ X) M (xs (i + (1 : Int32)).toNatClampNeg) hI
  have hPx := P_left hP
  have hDx := D_left hD
  have hFx := F_left hD hS hA
  have b1 := cc__le (xc_ X)
  have b2 := cs__le (xc_ X)
  refine va_calli (va_runV (As := [.int (xs (i + (1 : Int32)).toNatClampNeg)]) (rest := []) ⟨hx, hb, hml, hown, hts⟩ (cx_count l dC dI cI cJ cZ _ h0 mc ms X (xs (i + (1 : Int32)).toNatClampNeg) _ h) (cwV 1 hts gL_law_X8_count rfl rfl rfl (by decide +kernel) ⟨Nat.le_of_ble_eq_true rfl, Nat.le_of_ble_eq_true rfl⟩) ⟨pre_fb, va_recv hK hPx (ci := 7) (q0 := 0) rfl rfl, pre_of hPx hDx hK hN⟩ rfl rfl hl.1 rfl (lv_room (Nat.le_of_ble_eq_true rfl)) dL_law_645 ⟨(by show _ ≤ 600000; omega), (by show _ ≤ 7302250; omega)⟩) hS (fun q _ h => hFx q h) hFx (fun r X2 t H1 locs ht hvm h hB hz1 hk1 hS => ?_)
  obtain ⟨hP1, hD1⟩ := hB
  rw [ht] at hP1
  obtain ⟨hP, hD⟩ := frame2 hP hD hk1 hFx hP1 hD1
  generalize H1 = H at hP hS ⊢
  obtain ⟨hc1, hc2, h⟩ := h
  refine W.widen (k := 10 + cc_ (xc_ X2)) (n := 2034266 + cs_ (xc_ X2)) (by omega) (by omega) ?_
  refine lv_aload_n hx hb dL_law_648 rfl (lv_at hl 2 rfl) ?_
  refine lv_aload_n hx hb dL_law_649 rfl (lv_at hl 0 rfl) ?_
  refine lv_iload_n hx hb dL_law_650 rfl (lv_at hl 3 rfl) ?_
  refine lv_iconst (v := (1 : Int32)) hx hb dL_law_651 (by decide) ?_
  refine lv_iadd hx hb dL_law_652 ?_
  refine va_sld hx hb hX hbl hbA hS hi1 dL_law_653 ?_
  have hPm : va_P (dC, dI) vwCl [(h1, .inr (8, [.int M.1, .ref qs.1, .ref qs.2.1, .int M.2.2.2.1, .long M.2.2.2.2.1, .int M.2.2.2.2.2.1, .ref qs.2.2.1, .ref qs.2.2.2.1, .ref qs.2.2.2.2.1, .int M.2.2.2.2.2.2.2.2.2.1, .long M.2.2.2.2.2.2.2.2.2.2.1, .int M.2.2.2.2.2.2.2.2.2.2.2.1, .ref qs.2.2.2.2.2.1, .ref qs.2.2.2.2.2.2.1, .int M.2.2.2.2.2.2.2.2.2.2.2.2.2.2.1, .ref qs.2.2.2.2.2.2.2, .long M.2.2.2.2.2.2.2.2.2.2.2.2.2.2.2.2.1, .long M.2.2.2.2.2.2.2.2.2.2.2.2.2.2.2.2.2.1, .int M.2.2.2.2.2.2.2.2.2.2.2.2.2.2.2.2.2.2])), (qs.1, .inl (cI, 9592, .inl (M.2.1))), (qs.2.1, .inl (cZ, 2000001, .inl (M.2.2.1))), (qs.2.2.1, .inl (cJ, 5000, .inr (.inl (M.2.2.2.2.2.2.1)))), (qs.2.2.2.1, .inl (cJ, 5000, .inr (.inl (M.2.2.2.2.2.2.2.1)))), (qs.2.2.2.2.1, .inl (cZ, 5000, .inl (M.2.2.2.2.2.2.2.2.1))), (qs.2.2.2.2.2.1, .inl (cJ, 16, .inr (.inl (M.2.2.2.2.2.2.2.2.2.2.2.2.1)))), (qs.2.2.2.2.2.2.1, .inl (cI, 16, .inl (M.2.2.2.2.2.2.2.2.2.2.2.2.2.1))), (qs.2.2.2.2.2.2.2, .inl (cJ, 9616, .inr (.inl (M.2.2.2.2.2.2.2.2.2.2.2.2.2.2.2.1))))] H := P_right hP
  have hDm : va_D (fun q : Nat => s.heap.size ≤ q) [(h1, .inr (8, [.int M.1, .ref qs.1, .ref qs.2.1, .int M.2.2.2.1, .long M.2.2.2.2.1, .int M.2.2.2.2.2.1, .ref qs.2.2.1, .ref qs.2.2.2.1, .ref qs.2.2.2.2.1, .int M.2.2.2.2.2.2.2.2.2.1, .long M.2.2.2.2.2.2.2.2.2.2.1, .int M.2.2.2.2.2.2.2.2.2.2.2.1, .ref qs.2.2.2.2.2.1, .ref qs.2.2.2.2.2.2.1, .int M.2.2.2.2.2.2.2.2.2.2.2.2.2.2.1, .ref qs.2.2.2.2.2.2.2, .long M.2.2.2.2.2.2.2.2.2.2.2.2.2.2.2.2.1, .long M.2.2.2.2.2.2.2.2.2.2.2.2.2.2.2.2.2.1, .int M.2.2.2.2.2.2.2.2.2.2.2.2.2.2.2.2.2.2])), (qs.1, .inl (cI, 9592, .inl (M.2.1))), (qs.2.1, .inl (cZ, 2000001, .inl (M.2.2.1))), (qs.2.2.1, .inl (cJ, 5000, .inr (.inl (M.2.2.2.2.2.2.1)))), (qs.2.2.2.1, .inl (cJ, 5000, .inr (.inl (M.2.2.2.2.2.2.2.1)))), (qs.2.2.2.2.1, .inl (cZ, 5000, .inl (M.2.2.2.2.2.2.2.2.1))), (qs.2.2.2.2.2.1, .inl (cJ, 16, .inr (.inl (M.2.2.2.2.2.2.2.2.2.2.2.2.1)))), (qs.2.2.2.2.2.2.1, .inl (cI, 16, .inl (M.2.2.2.2.2.2.2.2.2.2.2.2.2.1))), (qs.2.2.2.2.2.2.2, .inl (cJ, 9616, .inr (.inl (M.2.2.2.2.2.2.2.2.2.2.2.2.2.2.2.1))))] := D_right hD
  have hFm : ∀ q, va_A [(h1, .inr (8, [.int M.1, .ref qs.1, .ref qs.2.1, .int M.2.2.2.1, .long M.2.2.2.2.1, .int M.2.2.2.2.2.1, .ref qs.2.2.1, .ref qs.2.2.2.1, .ref qs.2.2.2.2.1, .int M.2.2.2.2.2.2.2.2.2.1, .long M.2.2.2.2.2.2.2.2.2.2.1, .int M.2.2.2.2.2.2.2.2.2.2.2.1, .ref qs.2.2.2.2.2.1, .ref qs.2.2.2.2.2.2.1, .int M.2.2.2.2.2.2.2.2.2.2.2.2.2.2.1, .ref qs.2.2.2.2.2.2.2, .long M.2.2.2.2.2.2.2.2.2.2.2.2.2.2.2.2.1, .long M.2.2.2.2.2.2.2.2.2.2.2.2.2.2.2.2.2.1, .int M.2.2.2.2.2.2.2.2.2.2.2.2.2.2.2.2.2.2])), (qs.1, .inl (cI, 9592, .inl (M.2.1))), (qs.2.1, .inl (cZ, 2000001, .inl (M.2.2.1))), (qs.2.2.1, .inl (cJ, 5000, .inr (.inl (M.2.2.2.2.2.2.1)))), (qs.2.2.2.1, .inl (cJ, 5000, .inr (.inl (M.2.2.2.2.2.2.2.1)))), (qs.2.2.2.2.1, .inl (cZ, 5000, .inl (M.2.2.2.2.2.2.2.2.1))), (qs.2.2.2.2.2.1, .inl (cJ, 16, .inr (.inl (M.2.2.2.2.2.2.2.2.2.2.2.2.1)))), (qs.2.2.2.2.2.2.1, .inl (cI, 16, .inl (M.2.2.2.2.2.2.2.2.2.2.2.2.2.1))), (qs.2.2.2.2.2.2.2, .inl (cJ, 9616, .inr (.inl (M.2.2.2.2.2.2.2.2.2.2.2.2.2.2.2.1))))] H.size q → (fun q : Nat => s.heap.size ≤ q) q := F_right hD hS hA
  have b3 := cc__le (xc_ X2)
  have b4 := cs__le (xc_ X2)
  refine va_calli (va_runV (As := [.int (xs (i + (1 : Int32)).toNatClampNeg)]) (rest := [.int r]) ⟨hx, hb, hml, hown, hts⟩ (c_X9_count l dC dI cI cJ cZ _ h1 M.1 M.2.1 qs.1 M.2.2.1 qs.2.1 M.2.2.2.1 M.2.2.2.2.1 M.2.2.2.2.2.1 M.2.2.2.2.2.2.1 qs.2.2.1 M.2.2.2.2.2.2.2.1 qs.2.2.2.1 M.2.2.2.2.2.2.2.2.1 qs.2.2.2.2.1 M.2.2.2.2.2.2.2.2.2.1 M.2.2.2.2.2.2.2.2.2.2.1 M.2.2.2.2.2.2.2.2.2.2.2.1 M.2.2.2.2.2.2.2.2.2.2.2.2.1 qs.2.2.2.2.2.1 M.2.2.2.2.2.2.2.2.2.2.2.2.2.1 qs.2.2.2.2.2.2.1 M.2.2.2.2.2.2.2.2.2.2.2.2.2.2.1 M.2.2.2.2.2.2.2.2.2.2.2.2.2.2.2.1 qs.2.2.2.2.2.2.2 M.2.2.2.2.2.2.2.2.2.2.2.2.2.2.2.2.1 M.2.2.2.2.2.2.2.2.2.2.2.2.2.2.2.2.2.1 M.2.2.2.2.2.2.2.2.2.2.2.2.2.2.2.2.2.2 (xs (i + (1 : Int32)).toNatClampNeg) _ h) (cwV 1 hts gL_law_X9_count rfl rfl rfl (by decide +kernel) ⟨Nat.le_of_ble_eq_true rfl, Nat.le_of_ble_eq_true rfl⟩) ⟨pre_fb, va_recv hK hPm (ci := 8) (q0 := 0) rfl rfl, pre_of hPm hDm hK hN⟩ rfl rfl hl.1 rfl (lv_room (Nat.le_of_ble_eq_true rfl)) dL_law_654 ⟨(by show _ ≤ 600000; omega), (by show _ ≤ 7302250; omega)⟩) hS (fun q _ h => hFm q h) hFm (fun r2 u t H1 locs ht hvm h hB hz1 hk1 hS => ?_)
  obtain ⟨hP1, hD1⟩ := hB
  rw [ht] at hP1
  obtain ⟨hP, hD⟩ := frame2r (wr := xcells cI cJ cZ h0 X2) (wc := mcells cI cJ cZ h1 qs M) (w1 := mcells cI cJ cZ h1 qs (M.1, M.2.1, M.2.2.1, M.2.2.2.1, M.2.2.2.2.1, M.2.2.2.2.2.1, M.2.2.2.2.2.2.1, M.2.2.2.2.2.2.2.1, M.2.2.2.2.2.2.2.2.1, M.2.2.2.2.2.2.2.2.2.1, M.2.2.2.2.2.2.2.2.2.2.1, M.2.2.2.2.2.2.2.2.2.2.2.1, M.2.2.2.2.2.2.2.2.2.2.2.2.1, M.2.2.2.2.2.2.2.2.2.2.2.2.2.1, M.2.2.2.2.2.2.2.2.2.2.2.2.2.2.1, M.2.2.2.2.2.2.2.2.2.2.2.2.2.2.2.1, M.2.2.2.2.2.2.2.2.2.2.2.2.2.2.2.2.1, M.2.2.2.2.2.2.2.2.2.2.2.2.2.2.2.2.2.1, M.2.2.2.2.2.2.2.2.2.2.2.2.2.2.2.2.2.2)) hP hD hk1 hFm hP1 hD1
  generalize H1 = H at hP hS ⊢
  obtain ⟨hre, hI⟩ := h
  refine lv_icmp_eq (tgt := 1181) hx hb dL_law_657 (by decide) (fun c9 => ?_) (fun c9 => absurd hre c9)
  refine W.widen (k := 10 + cc_ (xc_ X2)) (n := 2034266 + cs_ (xc_ X2)) (by omega) (by omega) ?_
  exact hnx X2 (M.1, M.2.1, M.2.2.1, M.2.2.2.1, M.2.2.2.2.1, M.2.2.2.2.2.1, M.2.2.2.2.2.2.1, M.2.2.2.2.2.2.2.1, M.2.2.2.2.2.2.2.2.1, M.2.2.2.2.2.2.2.2.2.1, M.2.2.2.2.2.2.2.2.2.2.1, M.2.2.2.2.2.2.2.2.2.2.2.1, M.2.2.2.2.2.2.2.2.2.2.2.2.1, M.2.2.2.2.2.2.2.2.2.2.2.2.2.1, M.2.2.2.2.2.2.2.2.2.2.2.2.2.2.1, M.2.2.2.2.2.2.2.2.2.2.2.2.2.2.2.1, M.2.2.2.2.2.2.2.2.2.2.2.2.2.2.2.2.1, M.2.2.2.2.2.2.2.2.2.2.2.2.2.2.2.2.2.1, M.2.2.2.2.2.2.2.2.2.2.2.2.2.2.2.2.2.2) hI H locs hP hD hS ls hl
set_option maxHeartbeats 4000000 in
set_option maxRecDepth 100000 in
theorem lcase_sum {p : Program} {l : Launch} {e : Env} {s : State} {m : MethodId} {below : List Frame} {meth : Method} {c : Code} {dC : Nat → ClassId} {dI : Nat → Nat → Nat} {cI cJ cZ : ClassId} {b h0 h1 : Nat} {qs : AM_} {Inv : XC_ → MC_ → Prop} {L : Nat} {xs : Nat → Int32} (C0 : lw_At p s m meth c b L xs) (hK : va_K (dC, dI) vwCl (tys_ cI cJ cZ) s) (hN : nw_ s) {i : Int32} (hi1 : vp_in (i + (1 : Int32)) L) (hi2 : vp_in (i + (2 : Int32)) L) (hi3 : vp_in (i + (3 : Int32)) L) (hi4 : vp_in (i + (4 : Int32)) L) (hst : st_sum Inv) (hnx : law_at p l e s m below meth c dC dI cI cJ cZ b h0 h1 qs Inv 1181 i) : law_at p l e s m below meth c dC dI cI cJ cZ b h0 h1 qs Inv 662 i := by
  obtain ⟨hx, hb, hr, hml, hown, hts, hX, hbl, hlocks, hgv⟩ := C0
  replace hts := fun w h => hts w (wsL_law_in w h)
  have hA : ∀ q : Nat, s.heap.size ≤ q → (fun q : Nat => s.heap.size ≤ q) q := fun _ h => h
  have hbA : ¬ (fun q : Nat => s.heap.size ≤ q) b := Nat.not_le.mpr hbl
  have hown : s.vm.findClass RL = some m.cls := hown
  intro X M hI H locs hP hD hS ls hl
  refine lv_aload_n hx hb dL_law_662 rfl (lv_at hl 1 rfl) ?_
  refine lv_aload_n hx hb dL_law_663 rfl (lv_at hl 0 rfl) ?_
  refine lv_iload_n hx hb dL_law_664 rfl (lv_at hl 3 rfl) ?_
  refine lv_iconst (v := (1 : Int32)) hx hb dL_law_665 (by decide) ?_
  refine lv_iadd hx hb dL_law_666 ?_
  refine va_sld hx hb hX hbl hbA hS hi1 dL_law_667 ?_
  obtain ⟨mc, ms, hmc, hms, h⟩ := hst (xc_ X) M (xs (i + (1 : Int32)).toNatClampNeg) hI
  have hPx := P_left hP
  have hDx := D_left hD
  have hFx := F_left hD hS hA
  have b1 := cc__le (xc_ X)
  have b2 := cs__le (xc_ X)
  refine va_calll (va_runV (As := [.int (xs (i + (1 : Int32)).toNatClampNeg)]) (rest := []) ⟨hx, hb, hml, hown, hts⟩ (cx_sum l dC dI cI cJ cZ _ h0 mc ms X (xs (i + (1 : Int32)).toNatClampNeg) _ h) (cwV 1 hts gL_law_X8_sum rfl rfl rfl (by decide +kernel) ⟨Nat.le_of_ble_eq_true rfl, Nat.le_of_ble_eq_true rfl⟩) ⟨pre_fb, va_recv hK hPx (ci := 7) (q0 := 0) rfl rfl, pre_of hPx hDx hK hN⟩ rfl rfl hl.1 rfl (lv_room (Nat.le_of_ble_eq_true rfl)) dL_law_668 ⟨(by show _ ≤ 600000; omega), (by show _ ≤ 7302250; omega)⟩) hS (fun q _ h => hFx q h) hFx (fun r X2 t H1 locs ht hvm h hB hz1 hk1 hS => ?_)
  obtain ⟨hP1, hD1⟩ := hB
  rw [ht] at hP1
  obtain ⟨hP, hD⟩ := frame2 hP hD hk1 hFx hP1 hD1
  generalize H1 = H at hP hS ⊢
  obtain ⟨hc1, hc2, h⟩ := h
  refine W.widen (k := 10 + cc_ (xc_ X2)) (n := 2034266 + cs_ (xc_ X2)) (by omega) (by omega) ?_
  refine lv_aload_n hx hb dL_law_671 rfl (lv_at hl 2 rfl) ?_
  refine lv_aload_n hx hb dL_law_672 rfl (lv_at hl 0 rfl) ?_
  refine lv_iload_n hx hb dL_law_673 rfl (lv_at hl 3 rfl) ?_
  refine lv_iconst (v := (1 : Int32)) hx hb dL_law_674 (by decide) ?_
  refine lv_iadd hx hb dL_law_675 ?_
  refine va_sld hx hb hX hbl hbA hS hi1 dL_law_676 ?_
  have hPm : va_P (dC, dI) vwCl [(h1, .inr (8, [.int M.1, .ref qs.1, .ref qs.2.1, .int M.2.2.2.1, .long M.2.2.2.2.1, .int M.2.2.2.2.2.1, .ref qs.2.2.1, .ref qs.2.2.2.1, .ref qs.2.2.2.2.1, .int M.2.2.2.2.2.2.2.2.2.1, .long M.2.2.2.2.2.2.2.2.2.2.1, .int M.2.2.2.2.2.2.2.2.2.2.2.1, .ref qs.2.2.2.2.2.1, .ref qs.2.2.2.2.2.2.1, .int M.2.2.2.2.2.2.2.2.2.2.2.2.2.2.1, .ref qs.2.2.2.2.2.2.2, .long M.2.2.2.2.2.2.2.2.2.2.2.2.2.2.2.2.1, .long M.2.2.2.2.2.2.2.2.2.2.2.2.2.2.2.2.2.1, .int M.2.2.2.2.2.2.2.2.2.2.2.2.2.2.2.2.2.2])), (qs.1, .inl (cI, 9592, .inl (M.2.1))), (qs.2.1, .inl (cZ, 2000001, .inl (M.2.2.1))), (qs.2.2.1, .inl (cJ, 5000, .inr (.inl (M.2.2.2.2.2.2.1)))), (qs.2.2.2.1, .inl (cJ, 5000, .inr (.inl (M.2.2.2.2.2.2.2.1)))), (qs.2.2.2.2.1, .inl (cZ, 5000, .inl (M.2.2.2.2.2.2.2.2.1))), (qs.2.2.2.2.2.1, .inl (cJ, 16, .inr (.inl (M.2.2.2.2.2.2.2.2.2.2.2.2.1)))), (qs.2.2.2.2.2.2.1, .inl (cI, 16, .inl (M.2.2.2.2.2.2.2.2.2.2.2.2.2.1))), (qs.2.2.2.2.2.2.2, .inl (cJ, 9616, .inr (.inl (M.2.2.2.2.2.2.2.2.2.2.2.2.2.2.2.1))))] H := P_right hP
  have hDm : va_D (fun q : Nat => s.heap.size ≤ q) [(h1, .inr (8, [.int M.1, .ref qs.1, .ref qs.2.1, .int M.2.2.2.1, .long M.2.2.2.2.1, .int M.2.2.2.2.2.1, .ref qs.2.2.1, .ref qs.2.2.2.1, .ref qs.2.2.2.2.1, .int M.2.2.2.2.2.2.2.2.2.1, .long M.2.2.2.2.2.2.2.2.2.2.1, .int M.2.2.2.2.2.2.2.2.2.2.2.1, .ref qs.2.2.2.2.2.1, .ref qs.2.2.2.2.2.2.1, .int M.2.2.2.2.2.2.2.2.2.2.2.2.2.2.1, .ref qs.2.2.2.2.2.2.2, .long M.2.2.2.2.2.2.2.2.2.2.2.2.2.2.2.2.1, .long M.2.2.2.2.2.2.2.2.2.2.2.2.2.2.2.2.2.1, .int M.2.2.2.2.2.2.2.2.2.2.2.2.2.2.2.2.2.2])), (qs.1, .inl (cI, 9592, .inl (M.2.1))), (qs.2.1, .inl (cZ, 2000001, .inl (M.2.2.1))), (qs.2.2.1, .inl (cJ, 5000, .inr (.inl (M.2.2.2.2.2.2.1)))), (qs.2.2.2.1, .inl (cJ, 5000, .inr (.inl (M.2.2.2.2.2.2.2.1)))), (qs.2.2.2.2.1, .inl (cZ, 5000, .inl (M.2.2.2.2.2.2.2.2.1))), (qs.2.2.2.2.2.1, .inl (cJ, 16, .inr (.inl (M.2.2.2.2.2.2.2.2.2.2.2.2.1)))), (qs.2.2.2.2.2.2.1, .inl (cI, 16, .inl (M.2.2.2.2.2.2.2.2.2.2.2.2.2.1))), (qs.2.2.2.2.2.2.2, .inl (cJ, 9616, .inr (.inl (M.2.2.2.2.2.2.2.2.2.2.2.2.2.2.2.1))))] := D_right hD
  have hFm : ∀ q, va_A [(h1, .inr (8, [.int M.1, .ref qs.1, .ref qs.2.1, .int M.2.2.2.1, .long M.2.2.2.2.1, .int M.2.2.2.2.2.1, .ref qs.2.2.1, .ref qs.2.2.2.1, .ref qs.2.2.2.2.1, .int M.2.2.2.2.2.2.2.2.2.1, .long M.2.2.2.2.2.2.2.2.2.2.1, .int M.2.2.2.2.2.2.2.2.2.2.2.1, .ref qs.2.2.2.2.2.1, .ref qs.2.2.2.2.2.2.1, .int M.2.2.2.2.2.2.2.2.2.2.2.2.2.2.1, .ref qs.2.2.2.2.2.2.2, .long M.2.2.2.2.2.2.2.2.2.2.2.2.2.2.2.2.1, .long M.2.2.2.2.2.2.2.2.2.2.2.2.2.2.2.2.2.1, .int M.2.2.2.2.2.2.2.2.2.2.2.2.2.2.2.2.2.2])), (qs.1, .inl (cI, 9592, .inl (M.2.1))), (qs.2.1, .inl (cZ, 2000001, .inl (M.2.2.1))), (qs.2.2.1, .inl (cJ, 5000, .inr (.inl (M.2.2.2.2.2.2.1)))), (qs.2.2.2.1, .inl (cJ, 5000, .inr (.inl (M.2.2.2.2.2.2.2.1)))), (qs.2.2.2.2.1, .inl (cZ, 5000, .inl (M.2.2.2.2.2.2.2.2.1))), (qs.2.2.2.2.2.1, .inl (cJ, 16, .inr (.inl (M.2.2.2.2.2.2.2.2.2.2.2.2.1)))), (qs.2.2.2.2.2.2.1, .inl (cI, 16, .inl (M.2.2.2.2.2.2.2.2.2.2.2.2.2.1))), (qs.2.2.2.2.2.2.2, .inl (cJ, 9616, .inr (.inl (M.2.2.2.2.2.2.2.2.2.2.2.2.2.2.2.1))))] H.size q → (fun q : Nat => s.heap.size ≤ q) q := F_right hD hS hA
  have b3 := cc__le (xc_ X2)
  have b4 := cs__le (xc_ X2)
  refine va_calll (va_runV (As := [.int (xs (i + (1 : Int32)).toNatClampNeg)]) (rest := [.long r]) ⟨hx, hb, hml, hown, hts⟩ (c_X9_sum l dC dI cI cJ cZ _ h1 M.1 M.2.1 qs.1 M.2.2.1 qs.2.1 M.2.2.2.1 M.2.2.2.2.1 M.2.2.2.2.2.1 M.2.2.2.2.2.2.1 qs.2.2.1 M.2.2.2.2.2.2.2.1 qs.2.2.2.1 M.2.2.2.2.2.2.2.2.1 qs.2.2.2.2.1 M.2.2.2.2.2.2.2.2.2.1 M.2.2.2.2.2.2.2.2.2.2.1 M.2.2.2.2.2.2.2.2.2.2.2.1 M.2.2.2.2.2.2.2.2.2.2.2.2.1 qs.2.2.2.2.2.1 M.2.2.2.2.2.2.2.2.2.2.2.2.2.1 qs.2.2.2.2.2.2.1 M.2.2.2.2.2.2.2.2.2.2.2.2.2.2.1 M.2.2.2.2.2.2.2.2.2.2.2.2.2.2.2.1 qs.2.2.2.2.2.2.2 M.2.2.2.2.2.2.2.2.2.2.2.2.2.2.2.2.1 M.2.2.2.2.2.2.2.2.2.2.2.2.2.2.2.2.2.1 M.2.2.2.2.2.2.2.2.2.2.2.2.2.2.2.2.2.2 (xs (i + (1 : Int32)).toNatClampNeg) _ h) (cwV 1 hts gL_law_X9_sum rfl rfl rfl (by decide +kernel) ⟨Nat.le_of_ble_eq_true rfl, Nat.le_of_ble_eq_true rfl⟩) ⟨pre_fb, va_recv hK hPm (ci := 8) (q0 := 0) rfl rfl, pre_of hPm hDm hK hN⟩ rfl rfl hl.1 rfl (lv_room (Nat.le_of_ble_eq_true rfl)) dL_law_677 ⟨(by show _ ≤ 600000; omega), (by show _ ≤ 7302250; omega)⟩) hS (fun q _ h => hFm q h) hFm (fun r2 u t H1 locs ht hvm h hB hz1 hk1 hS => ?_)
  obtain ⟨hP1, hD1⟩ := hB
  rw [ht] at hP1
  obtain ⟨hP, hD⟩ := frame2r (wr := xcells cI cJ cZ h0 X2) (wc := mcells cI cJ cZ h1 qs M) (w1 := mcells cI cJ cZ h1 qs (M.1, M.2.1, M.2.2.1, M.2.2.2.1, M.2.2.2.2.1, M.2.2.2.2.2.1, M.2.2.2.2.2.2.1, M.2.2.2.2.2.2.2.1, M.2.2.2.2.2.2.2.2.1, M.2.2.2.2.2.2.2.2.2.1, M.2.2.2.2.2.2.2.2.2.2.1, M.2.2.2.2.2.2.2.2.2.2.2.1, M.2.2.2.2.2.2.2.2.2.2.2.2.1, M.2.2.2.2.2.2.2.2.2.2.2.2.2.1, M.2.2.2.2.2.2.2.2.2.2.2.2.2.2.1, M.2.2.2.2.2.2.2.2.2.2.2.2.2.2.2.1, M.2.2.2.2.2.2.2.2.2.2.2.2.2.2.2.2.1, M.2.2.2.2.2.2.2.2.2.2.2.2.2.2.2.2.2.1, M.2.2.2.2.2.2.2.2.2.2.2.2.2.2.2.2.2.2)) hP hD hk1 hFm hP1 hD1
  generalize H1 = H at hP hS ⊢
  obtain ⟨hre, hI⟩ := h
  refine W.lcmp hx hb dL_law_680 ?_
  refine lv_if_eq (tgt := 1181) hx hb dL_law_681 (by decide) (fun c9 => ?_) (fun c9 => absurd hre (lc_neq c9))
  refine W.widen (k := 10 + cc_ (xc_ X2)) (n := 2034266 + cs_ (xc_ X2)) (by omega) (by omega) ?_
  exact hnx X2 (M.1, M.2.1, M.2.2.1, M.2.2.2.1, M.2.2.2.2.1, M.2.2.2.2.2.1, M.2.2.2.2.2.2.1, M.2.2.2.2.2.2.2.1, M.2.2.2.2.2.2.2.2.1, M.2.2.2.2.2.2.2.2.2.1, M.2.2.2.2.2.2.2.2.2.2.1, M.2.2.2.2.2.2.2.2.2.2.2.1, M.2.2.2.2.2.2.2.2.2.2.2.2.1, M.2.2.2.2.2.2.2.2.2.2.2.2.2.1, M.2.2.2.2.2.2.2.2.2.2.2.2.2.2.1, M.2.2.2.2.2.2.2.2.2.2.2.2.2.2.2.1, M.2.2.2.2.2.2.2.2.2.2.2.2.2.2.2.2.1, M.2.2.2.2.2.2.2.2.2.2.2.2.2.2.2.2.2.1, M.2.2.2.2.2.2.2.2.2.2.2.2.2.2.2.2.2.2) hI H locs hP hD hS ls hl
set_option maxHeartbeats 4000000 in
set_option maxRecDepth 100000 in
theorem lcase_among {p : Program} {l : Launch} {e : Env} {s : State} {m : MethodId} {below : List Frame} {meth : Method} {c : Code} {dC : Nat → ClassId} {dI : Nat → Nat → Nat} {cI cJ cZ : ClassId} {b h0 h1 : Nat} {qs : AM_} {Inv : XC_ → MC_ → Prop} {L : Nat} {xs : Nat → Int32} (C0 : lw_At p s m meth c b L xs) (hK : va_K (dC, dI) vwCl (tys_ cI cJ cZ) s) (hN : nw_ s) {i : Int32} (hi1 : vp_in (i + (1 : Int32)) L) (hi2 : vp_in (i + (2 : Int32)) L) (hi3 : vp_in (i + (3 : Int32)) L) (hi4 : vp_in (i + (4 : Int32)) L) (hst : st_among Inv) (hnx : law_at p l e s m below meth c dC dI cI cJ cZ b h0 h1 qs Inv 1181 i) : law_at p l e s m below meth c dC dI cI cJ cZ b h0 h1 qs Inv 686 i := by
  obtain ⟨hx, hb, hr, hml, hown, hts, hX, hbl, hlocks, hgv⟩ := C0
  replace hts := fun w h => hts w (wsL_law_in w h)
  have hA : ∀ q : Nat, s.heap.size ≤ q → (fun q : Nat => s.heap.size ≤ q) q := fun _ h => h
  have hbA : ¬ (fun q : Nat => s.heap.size ≤ q) b := Nat.not_le.mpr hbl
  have hown : s.vm.findClass RL = some m.cls := hown
  intro X M hI H locs hP hD hS ls hl
  refine lv_aload_n hx hb dL_law_686 rfl (lv_at hl 1 rfl) ?_
  refine lv_aload_n hx hb dL_law_687 rfl (lv_at hl 0 rfl) ?_
  refine lv_iload_n hx hb dL_law_688 rfl (lv_at hl 3 rfl) ?_
  refine lv_iconst (v := (1 : Int32)) hx hb dL_law_689 (by decide) ?_
  refine lv_iadd hx hb dL_law_690 ?_
  refine va_sld hx hb hX hbl hbA hS hi1 dL_law_691 ?_
  refine lv_aload_n hx hb dL_law_692 rfl (lv_at hl 0 rfl) ?_
  refine lv_iload_n hx hb dL_law_693 rfl (lv_at hl 3 rfl) ?_
  refine lv_iconst (v := (2 : Int32)) hx hb dL_law_694 (by decide) ?_
  refine lv_iadd hx hb dL_law_695 ?_
  refine va_sld hx hb hX hbl hbA hS hi2 dL_law_696 ?_
  refine lv_aload_n hx hb dL_law_697 rfl (lv_at hl 0 rfl) ?_
  refine lv_iload_n hx hb dL_law_698 rfl (lv_at hl 3 rfl) ?_
  refine lv_iconst (v := (3 : Int32)) hx hb dL_law_699 (by decide) ?_
  refine lv_iadd hx hb dL_law_700 ?_
  refine va_sld hx hb hX hbl hbA hS hi3 dL_law_701 ?_
  obtain ⟨mc, ms, hmc, hms, h⟩ := hst (xc_ X) M (xs (i + (1 : Int32)).toNatClampNeg) (xs (i + (2 : Int32)).toNatClampNeg) (xs (i + (3 : Int32)).toNatClampNeg) hI
  have hPx := P_left hP
  have hDx := D_left hD
  have hFx := F_left hD hS hA
  have b1 := cc__le (xc_ X)
  have b2 := cs__le (xc_ X)
  refine va_calli (va_runV (As := [.int (xs (i + (1 : Int32)).toNatClampNeg), .int (xs (i + (2 : Int32)).toNatClampNeg), .int (xs (i + (3 : Int32)).toNatClampNeg)]) (rest := []) ⟨hx, hb, hml, hown, hts⟩ (cx_among l dC dI cI cJ cZ _ h0 mc ms X (xs (i + (1 : Int32)).toNatClampNeg) (xs (i + (2 : Int32)).toNatClampNeg) (xs (i + (3 : Int32)).toNatClampNeg) _ h) (cwV 3 hts gL_law_X8_among rfl rfl rfl (by decide +kernel) ⟨Nat.le_of_ble_eq_true rfl, Nat.le_of_ble_eq_true rfl⟩) ⟨pre_fb, va_recv hK hPx (ci := 7) (q0 := 0) rfl rfl, pre_of hPx hDx hK hN⟩ rfl rfl hl.1 rfl (lv_room (Nat.le_of_ble_eq_true rfl)) dL_law_702 ⟨(by show _ ≤ 600000; omega), (by show _ ≤ 7302250; omega)⟩) hS (fun q _ h => hFx q h) hFx (fun r X2 t H1 locs ht hvm h hB hz1 hk1 hS => ?_)
  obtain ⟨hP1, hD1⟩ := hB
  rw [ht] at hP1
  obtain ⟨hP, hD⟩ := frame2 hP hD hk1 hFx hP1 hD1
  generalize H1 = H at hP hS ⊢
  obtain ⟨hc1, hc2, h⟩ := h
  refine W.widen (k := 10 + cc_ (xc_ X2)) (n := 2034266 + cs_ (xc_ X2)) (by omega) (by omega) ?_
  refine lv_aload_n hx hb dL_law_705 rfl (lv_at hl 2 rfl) ?_
  refine lv_aload_n hx hb dL_law_706 rfl (lv_at hl 0 rfl) ?_
  refine lv_iload_n hx hb dL_law_707 rfl (lv_at hl 3 rfl) ?_
  refine lv_iconst (v := (1 : Int32)) hx hb dL_law_708 (by decide) ?_
  refine lv_iadd hx hb dL_law_709 ?_
  refine va_sld hx hb hX hbl hbA hS hi1 dL_law_710 ?_
  refine lv_aload_n hx hb dL_law_711 rfl (lv_at hl 0 rfl) ?_
  refine lv_iload_n hx hb dL_law_712 rfl (lv_at hl 3 rfl) ?_
  refine lv_iconst (v := (2 : Int32)) hx hb dL_law_713 (by decide) ?_
  refine lv_iadd hx hb dL_law_714 ?_
  refine va_sld hx hb hX hbl hbA hS hi2 dL_law_715 ?_
  refine lv_aload_n hx hb dL_law_716 rfl (lv_at hl 0 rfl) ?_
  refine lv_iload_n hx hb dL_law_717 rfl (lv_at hl 3 rfl) ?_
  refine lv_iconst (v := (3 : Int32)) hx hb dL_law_718 (by decide) ?_
  refine lv_iadd hx hb dL_law_719 ?_
  refine va_sld hx hb hX hbl hbA hS hi3 dL_law_720 ?_
  have hPm : va_P (dC, dI) vwCl [(h1, .inr (8, [.int M.1, .ref qs.1, .ref qs.2.1, .int M.2.2.2.1, .long M.2.2.2.2.1, .int M.2.2.2.2.2.1, .ref qs.2.2.1, .ref qs.2.2.2.1, .ref qs.2.2.2.2.1, .int M.2.2.2.2.2.2.2.2.2.1, .long M.2.2.2.2.2.2.2.2.2.2.1, .int M.2.2.2.2.2.2.2.2.2.2.2.1, .ref qs.2.2.2.2.2.1, .ref qs.2.2.2.2.2.2.1, .int M.2.2.2.2.2.2.2.2.2.2.2.2.2.2.1, .ref qs.2.2.2.2.2.2.2, .long M.2.2.2.2.2.2.2.2.2.2.2.2.2.2.2.2.1, .long M.2.2.2.2.2.2.2.2.2.2.2.2.2.2.2.2.2.1, .int M.2.2.2.2.2.2.2.2.2.2.2.2.2.2.2.2.2.2])), (qs.1, .inl (cI, 9592, .inl (M.2.1))), (qs.2.1, .inl (cZ, 2000001, .inl (M.2.2.1))), (qs.2.2.1, .inl (cJ, 5000, .inr (.inl (M.2.2.2.2.2.2.1)))), (qs.2.2.2.1, .inl (cJ, 5000, .inr (.inl (M.2.2.2.2.2.2.2.1)))), (qs.2.2.2.2.1, .inl (cZ, 5000, .inl (M.2.2.2.2.2.2.2.2.1))), (qs.2.2.2.2.2.1, .inl (cJ, 16, .inr (.inl (M.2.2.2.2.2.2.2.2.2.2.2.2.1)))), (qs.2.2.2.2.2.2.1, .inl (cI, 16, .inl (M.2.2.2.2.2.2.2.2.2.2.2.2.2.1))), (qs.2.2.2.2.2.2.2, .inl (cJ, 9616, .inr (.inl (M.2.2.2.2.2.2.2.2.2.2.2.2.2.2.2.1))))] H := P_right hP
  have hDm : va_D (fun q : Nat => s.heap.size ≤ q) [(h1, .inr (8, [.int M.1, .ref qs.1, .ref qs.2.1, .int M.2.2.2.1, .long M.2.2.2.2.1, .int M.2.2.2.2.2.1, .ref qs.2.2.1, .ref qs.2.2.2.1, .ref qs.2.2.2.2.1, .int M.2.2.2.2.2.2.2.2.2.1, .long M.2.2.2.2.2.2.2.2.2.2.1, .int M.2.2.2.2.2.2.2.2.2.2.2.1, .ref qs.2.2.2.2.2.1, .ref qs.2.2.2.2.2.2.1, .int M.2.2.2.2.2.2.2.2.2.2.2.2.2.2.1, .ref qs.2.2.2.2.2.2.2, .long M.2.2.2.2.2.2.2.2.2.2.2.2.2.2.2.2.1, .long M.2.2.2.2.2.2.2.2.2.2.2.2.2.2.2.2.2.1, .int M.2.2.2.2.2.2.2.2.2.2.2.2.2.2.2.2.2.2])), (qs.1, .inl (cI, 9592, .inl (M.2.1))), (qs.2.1, .inl (cZ, 2000001, .inl (M.2.2.1))), (qs.2.2.1, .inl (cJ, 5000, .inr (.inl (M.2.2.2.2.2.2.1)))), (qs.2.2.2.1, .inl (cJ, 5000, .inr (.inl (M.2.2.2.2.2.2.2.1)))), (qs.2.2.2.2.1, .inl (cZ, 5000, .inl (M.2.2.2.2.2.2.2.2.1))), (qs.2.2.2.2.2.1, .inl (cJ, 16, .inr (.inl (M.2.2.2.2.2.2.2.2.2.2.2.2.1)))), (qs.2.2.2.2.2.2.1, .inl (cI, 16, .inl (M.2.2.2.2.2.2.2.2.2.2.2.2.2.1))), (qs.2.2.2.2.2.2.2, .inl (cJ, 9616, .inr (.inl (M.2.2.2.2.2.2.2.2.2.2.2.2.2.2.2.1))))] := D_right hD
  have hFm : ∀ q, va_A [(h1, .inr (8, [.int M.1, .ref qs.1, .ref qs.2.1, .int M.2.2.2.1, .long M.2.2.2.2.1, .int M.2.2.2.2.2.1, .ref qs.2.2.1, .ref qs.2.2.2.1, .ref qs.2.2.2.2.1, .int M.2.2.2.2.2.2.2.2.2.1, .long M.2.2.2.2.2.2.2.2.2.2.1, .int M.2.2.2.2.2.2.2.2.2.2.2.1, .ref qs.2.2.2.2.2.1, .ref qs.2.2.2.2.2.2.1, .int M.2.2.2.2.2.2.2.2.2.2.2.2.2.2.1, .ref qs.2.2.2.2.2.2.2, .long M.2.2.2.2.2.2.2.2.2.2.2.2.2.2.2.2.1, .long M.2.2.2.2.2.2.2.2.2.2.2.2.2.2.2.2.2.1, .int M.2.2.2.2.2.2.2.2.2.2.2.2.2.2.2.2.2.2])), (qs.1, .inl (cI, 9592, .inl (M.2.1))), (qs.2.1, .inl (cZ, 2000001, .inl (M.2.2.1))), (qs.2.2.1, .inl (cJ, 5000, .inr (.inl (M.2.2.2.2.2.2.1)))), (qs.2.2.2.1, .inl (cJ, 5000, .inr (.inl (M.2.2.2.2.2.2.2.1)))), (qs.2.2.2.2.1, .inl (cZ, 5000, .inl (M.2.2.2.2.2.2.2.2.1))), (qs.2.2.2.2.2.1, .inl (cJ, 16, .inr (.inl (M.2.2.2.2.2.2.2.2.2.2.2.2.1)))), (qs.2.2.2.2.2.2.1, .inl (cI, 16, .inl (M.2.2.2.2.2.2.2.2.2.2.2.2.2.1))), (qs.2.2.2.2.2.2.2, .inl (cJ, 9616, .inr (.inl (M.2.2.2.2.2.2.2.2.2.2.2.2.2.2.2.1))))] H.size q → (fun q : Nat => s.heap.size ≤ q) q := F_right hD hS hA
  have b3 := cc__le (xc_ X2)
  have b4 := cs__le (xc_ X2)
  refine va_calli (va_runV (As := [.int (xs (i + (1 : Int32)).toNatClampNeg), .int (xs (i + (2 : Int32)).toNatClampNeg), .int (xs (i + (3 : Int32)).toNatClampNeg)]) (rest := [.int r]) ⟨hx, hb, hml, hown, hts⟩ (c_X9_among l dC dI cI cJ cZ _ h1 M.1 M.2.1 qs.1 M.2.2.1 qs.2.1 M.2.2.2.1 M.2.2.2.2.1 M.2.2.2.2.2.1 M.2.2.2.2.2.2.1 qs.2.2.1 M.2.2.2.2.2.2.2.1 qs.2.2.2.1 M.2.2.2.2.2.2.2.2.1 qs.2.2.2.2.1 M.2.2.2.2.2.2.2.2.2.1 M.2.2.2.2.2.2.2.2.2.2.1 M.2.2.2.2.2.2.2.2.2.2.2.1 M.2.2.2.2.2.2.2.2.2.2.2.2.1 qs.2.2.2.2.2.1 M.2.2.2.2.2.2.2.2.2.2.2.2.2.1 qs.2.2.2.2.2.2.1 M.2.2.2.2.2.2.2.2.2.2.2.2.2.2.1 M.2.2.2.2.2.2.2.2.2.2.2.2.2.2.2.1 qs.2.2.2.2.2.2.2 M.2.2.2.2.2.2.2.2.2.2.2.2.2.2.2.2.1 M.2.2.2.2.2.2.2.2.2.2.2.2.2.2.2.2.2.1 M.2.2.2.2.2.2.2.2.2.2.2.2.2.2.2.2.2.2 (xs (i + (1 : Int32)).toNatClampNeg) (xs (i + (2 : Int32)).toNatClampNeg) (xs (i + (3 : Int32)).toNatClampNeg) _ h) (cwV 3 hts gL_law_X9_among rfl rfl rfl (by decide +kernel) ⟨Nat.le_of_ble_eq_true rfl, Nat.le_of_ble_eq_true rfl⟩) ⟨pre_fb, va_recv hK hPm (ci := 8) (q0 := 0) rfl rfl, pre_of hPm hDm hK hN⟩ rfl rfl hl.1 rfl (lv_room (Nat.le_of_ble_eq_true rfl)) dL_law_721 ⟨(by show _ ≤ 600000; omega), (by show _ ≤ 7302250; omega)⟩) hS (fun q _ h => hFm q h) hFm (fun r2 u t H1 locs ht hvm h hB hz1 hk1 hS => ?_)
  obtain ⟨hP1, hD1⟩ := hB
  rw [ht] at hP1
  obtain ⟨hP, hD⟩ := frame2r (wr := xcells cI cJ cZ h0 X2) (wc := mcells cI cJ cZ h1 qs M) (w1 := mcells cI cJ cZ h1 qs (M.1, M.2.1, M.2.2.1, M.2.2.2.1, M.2.2.2.2.1, M.2.2.2.2.2.1, M.2.2.2.2.2.2.1, M.2.2.2.2.2.2.2.1, M.2.2.2.2.2.2.2.2.1, M.2.2.2.2.2.2.2.2.2.1, M.2.2.2.2.2.2.2.2.2.2.1, M.2.2.2.2.2.2.2.2.2.2.2.1, M.2.2.2.2.2.2.2.2.2.2.2.2.1, M.2.2.2.2.2.2.2.2.2.2.2.2.2.1, M.2.2.2.2.2.2.2.2.2.2.2.2.2.2.1, M.2.2.2.2.2.2.2.2.2.2.2.2.2.2.2.1, M.2.2.2.2.2.2.2.2.2.2.2.2.2.2.2.2.1, M.2.2.2.2.2.2.2.2.2.2.2.2.2.2.2.2.2.1, M.2.2.2.2.2.2.2.2.2.2.2.2.2.2.2.2.2.2)) hP hD hk1 hFm hP1 hD1
  generalize H1 = H at hP hS ⊢
  obtain ⟨hre, hI⟩ := h
  refine lv_icmp_eq (tgt := 1181) hx hb dL_law_724 (by decide) (fun c9 => ?_) (fun c9 => absurd hre c9)
  refine W.widen (k := 10 + cc_ (xc_ X2)) (n := 2034266 + cs_ (xc_ X2)) (by omega) (by omega) ?_
  exact hnx X2 (M.1, M.2.1, M.2.2.1, M.2.2.2.1, M.2.2.2.2.1, M.2.2.2.2.2.1, M.2.2.2.2.2.2.1, M.2.2.2.2.2.2.2.1, M.2.2.2.2.2.2.2.2.1, M.2.2.2.2.2.2.2.2.2.1, M.2.2.2.2.2.2.2.2.2.2.1, M.2.2.2.2.2.2.2.2.2.2.2.1, M.2.2.2.2.2.2.2.2.2.2.2.2.1, M.2.2.2.2.2.2.2.2.2.2.2.2.2.1, M.2.2.2.2.2.2.2.2.2.2.2.2.2.2.1, M.2.2.2.2.2.2.2.2.2.2.2.2.2.2.2.1, M.2.2.2.2.2.2.2.2.2.2.2.2.2.2.2.2.1, M.2.2.2.2.2.2.2.2.2.2.2.2.2.2.2.2.2.1, M.2.2.2.2.2.2.2.2.2.2.2.2.2.2.2.2.2.2) hI H locs hP hD hS ls hl
set_option maxHeartbeats 4000000 in
set_option maxRecDepth 100000 in
theorem lcase_floors {p : Program} {l : Launch} {e : Env} {s : State} {m : MethodId} {below : List Frame} {meth : Method} {c : Code} {dC : Nat → ClassId} {dI : Nat → Nat → Nat} {cI cJ cZ : ClassId} {b h0 h1 : Nat} {qs : AM_} {Inv : XC_ → MC_ → Prop} {L : Nat} {xs : Nat → Int32} (C0 : lw_At p s m meth c b L xs) (hK : va_K (dC, dI) vwCl (tys_ cI cJ cZ) s) (hN : nw_ s) {i : Int32} (hi1 : vp_in (i + (1 : Int32)) L) (hi2 : vp_in (i + (2 : Int32)) L) (hi3 : vp_in (i + (3 : Int32)) L) (hi4 : vp_in (i + (4 : Int32)) L) (hst : st_floors Inv) (hnx : law_at p l e s m below meth c dC dI cI cJ cZ b h0 h1 qs Inv 1181 i) : law_at p l e s m below meth c dC dI cI cJ cZ b h0 h1 qs Inv 729 i := by
  obtain ⟨hx, hb, hr, hml, hown, hts, hX, hbl, hlocks, hgv⟩ := C0
  replace hts := fun w h => hts w (wsL_law_in w h)
  have hA : ∀ q : Nat, s.heap.size ≤ q → (fun q : Nat => s.heap.size ≤ q) q := fun _ h => h
  have hbA : ¬ (fun q : Nat => s.heap.size ≤ q) b := Nat.not_le.mpr hbl
  have hown : s.vm.findClass RL = some m.cls := hown
  intro X M hI H locs hP hD hS ls hl
  refine lv_aload_n hx hb dL_law_729 rfl (lv_at hl 1 rfl) ?_
  refine lv_aload_n hx hb dL_law_730 rfl (lv_at hl 0 rfl) ?_
  refine lv_iload_n hx hb dL_law_731 rfl (lv_at hl 3 rfl) ?_
  refine lv_iconst (v := (1 : Int32)) hx hb dL_law_732 (by decide) ?_
  refine lv_iadd hx hb dL_law_733 ?_
  refine va_sld hx hb hX hbl hbA hS hi1 dL_law_734 ?_
  refine lv_aload_n hx hb dL_law_735 rfl (lv_at hl 0 rfl) ?_
  refine lv_iload_n hx hb dL_law_736 rfl (lv_at hl 3 rfl) ?_
  refine lv_iconst (v := (2 : Int32)) hx hb dL_law_737 (by decide) ?_
  refine lv_iadd hx hb dL_law_738 ?_
  refine va_sld hx hb hX hbl hbA hS hi2 dL_law_739 ?_
  refine lv_aload_n hx hb dL_law_740 rfl (lv_at hl 0 rfl) ?_
  refine lv_iload_n hx hb dL_law_741 rfl (lv_at hl 3 rfl) ?_
  refine lv_iconst (v := (3 : Int32)) hx hb dL_law_742 (by decide) ?_
  refine lv_iadd hx hb dL_law_743 ?_
  refine va_sld hx hb hX hbl hbA hS hi3 dL_law_744 ?_
  refine lv_aload_n hx hb dL_law_745 rfl (lv_at hl 0 rfl) ?_
  refine lv_iload_n hx hb dL_law_746 rfl (lv_at hl 3 rfl) ?_
  refine lv_iconst (v := (4 : Int32)) hx hb dL_law_747 (by decide) ?_
  refine lv_iadd hx hb dL_law_748 ?_
  refine va_sld hx hb hX hbl hbA hS hi4 dL_law_749 ?_
  obtain ⟨mc, ms, hmc, hms, h⟩ := hst (xc_ X) M (xs (i + (1 : Int32)).toNatClampNeg) (xs (i + (2 : Int32)).toNatClampNeg) (xs (i + (3 : Int32)).toNatClampNeg) (xs (i + (4 : Int32)).toNatClampNeg) hI
  have hPx := P_left hP
  have hDx := D_left hD
  have hFx := F_left hD hS hA
  have b1 := cc__le (xc_ X)
  have b2 := cs__le (xc_ X)
  refine va_calll (va_runV (As := [.int (xs (i + (1 : Int32)).toNatClampNeg), .int (xs (i + (2 : Int32)).toNatClampNeg), .int (xs (i + (3 : Int32)).toNatClampNeg), .int (xs (i + (4 : Int32)).toNatClampNeg)]) (rest := []) ⟨hx, hb, hml, hown, hts⟩ (cx_floors l dC dI cI cJ cZ _ h0 mc ms X (xs (i + (1 : Int32)).toNatClampNeg) (xs (i + (2 : Int32)).toNatClampNeg) (xs (i + (3 : Int32)).toNatClampNeg) (xs (i + (4 : Int32)).toNatClampNeg) _ h) (cwV 4 hts gL_law_X8_floors rfl rfl rfl (by decide +kernel) ⟨Nat.le_of_ble_eq_true rfl, Nat.le_of_ble_eq_true rfl⟩) ⟨pre_fb, va_recv hK hPx (ci := 7) (q0 := 0) rfl rfl, pre_of hPx hDx hK hN⟩ rfl rfl hl.1 rfl (lv_room (Nat.le_of_ble_eq_true rfl)) dL_law_750 ⟨(by show _ ≤ 600000; omega), (by show _ ≤ 7302250; omega)⟩) hS (fun q _ h => hFx q h) hFx (fun r X2 t H1 locs ht hvm h hB hz1 hk1 hS => ?_)
  obtain ⟨hP1, hD1⟩ := hB
  rw [ht] at hP1
  obtain ⟨hP, hD⟩ := frame2 hP hD hk1 hFx hP1 hD1
  generalize H1 = H at hP hS ⊢
  obtain ⟨hc1, hc2, h⟩ := h
  refine W.widen (k := 10 + cc_ (xc_ X2)) (n := 2034266 + cs_ (xc_ X2)) (by omega) (by omega) ?_
  refine lv_aload_n hx hb dL_law_753 rfl (lv_at hl 2 rfl) ?_
  refine lv_aload_n hx hb dL_law_754 rfl (lv_at hl 0 rfl) ?_
  refine lv_iload_n hx hb dL_law_755 rfl (lv_at hl 3 rfl) ?_
  refine lv_iconst (v := (1 : Int32)) hx hb dL_law_756 (by decide) ?_
  refine lv_iadd hx hb dL_law_757 ?_
  refine va_sld hx hb hX hbl hbA hS hi1 dL_law_758 ?_
  refine lv_aload_n hx hb dL_law_759 rfl (lv_at hl 0 rfl) ?_
  refine lv_iload_n hx hb dL_law_760 rfl (lv_at hl 3 rfl) ?_
  refine lv_iconst (v := (2 : Int32)) hx hb dL_law_761 (by decide) ?_
  refine lv_iadd hx hb dL_law_762 ?_
  refine va_sld hx hb hX hbl hbA hS hi2 dL_law_763 ?_
  refine lv_aload_n hx hb dL_law_764 rfl (lv_at hl 0 rfl) ?_
  refine lv_iload_n hx hb dL_law_765 rfl (lv_at hl 3 rfl) ?_
  refine lv_iconst (v := (3 : Int32)) hx hb dL_law_766 (by decide) ?_
  refine lv_iadd hx hb dL_law_767 ?_
  refine va_sld hx hb hX hbl hbA hS hi3 dL_law_768 ?_
  refine lv_aload_n hx hb dL_law_769 rfl (lv_at hl 0 rfl) ?_
  refine lv_iload_n hx hb dL_law_770 rfl (lv_at hl 3 rfl) ?_
  refine lv_iconst (v := (4 : Int32)) hx hb dL_law_771 (by decide) ?_
  refine lv_iadd hx hb dL_law_772 ?_
  refine va_sld hx hb hX hbl hbA hS hi4 dL_law_773 ?_
  have hPm : va_P (dC, dI) vwCl [(h1, .inr (8, [.int M.1, .ref qs.1, .ref qs.2.1, .int M.2.2.2.1, .long M.2.2.2.2.1, .int M.2.2.2.2.2.1, .ref qs.2.2.1, .ref qs.2.2.2.1, .ref qs.2.2.2.2.1, .int M.2.2.2.2.2.2.2.2.2.1, .long M.2.2.2.2.2.2.2.2.2.2.1, .int M.2.2.2.2.2.2.2.2.2.2.2.1, .ref qs.2.2.2.2.2.1, .ref qs.2.2.2.2.2.2.1, .int M.2.2.2.2.2.2.2.2.2.2.2.2.2.2.1, .ref qs.2.2.2.2.2.2.2, .long M.2.2.2.2.2.2.2.2.2.2.2.2.2.2.2.2.1, .long M.2.2.2.2.2.2.2.2.2.2.2.2.2.2.2.2.2.1, .int M.2.2.2.2.2.2.2.2.2.2.2.2.2.2.2.2.2.2])), (qs.1, .inl (cI, 9592, .inl (M.2.1))), (qs.2.1, .inl (cZ, 2000001, .inl (M.2.2.1))), (qs.2.2.1, .inl (cJ, 5000, .inr (.inl (M.2.2.2.2.2.2.1)))), (qs.2.2.2.1, .inl (cJ, 5000, .inr (.inl (M.2.2.2.2.2.2.2.1)))), (qs.2.2.2.2.1, .inl (cZ, 5000, .inl (M.2.2.2.2.2.2.2.2.1))), (qs.2.2.2.2.2.1, .inl (cJ, 16, .inr (.inl (M.2.2.2.2.2.2.2.2.2.2.2.2.1)))), (qs.2.2.2.2.2.2.1, .inl (cI, 16, .inl (M.2.2.2.2.2.2.2.2.2.2.2.2.2.1))), (qs.2.2.2.2.2.2.2, .inl (cJ, 9616, .inr (.inl (M.2.2.2.2.2.2.2.2.2.2.2.2.2.2.2.1))))] H := P_right hP
  have hDm : va_D (fun q : Nat => s.heap.size ≤ q) [(h1, .inr (8, [.int M.1, .ref qs.1, .ref qs.2.1, .int M.2.2.2.1, .long M.2.2.2.2.1, .int M.2.2.2.2.2.1, .ref qs.2.2.1, .ref qs.2.2.2.1, .ref qs.2.2.2.2.1, .int M.2.2.2.2.2.2.2.2.2.1, .long M.2.2.2.2.2.2.2.2.2.2.1, .int M.2.2.2.2.2.2.2.2.2.2.2.1, .ref qs.2.2.2.2.2.1, .ref qs.2.2.2.2.2.2.1, .int M.2.2.2.2.2.2.2.2.2.2.2.2.2.2.1, .ref qs.2.2.2.2.2.2.2, .long M.2.2.2.2.2.2.2.2.2.2.2.2.2.2.2.2.1, .long M.2.2.2.2.2.2.2.2.2.2.2.2.2.2.2.2.2.1, .int M.2.2.2.2.2.2.2.2.2.2.2.2.2.2.2.2.2.2])), (qs.1, .inl (cI, 9592, .inl (M.2.1))), (qs.2.1, .inl (cZ, 2000001, .inl (M.2.2.1))), (qs.2.2.1, .inl (cJ, 5000, .inr (.inl (M.2.2.2.2.2.2.1)))), (qs.2.2.2.1, .inl (cJ, 5000, .inr (.inl (M.2.2.2.2.2.2.2.1)))), (qs.2.2.2.2.1, .inl (cZ, 5000, .inl (M.2.2.2.2.2.2.2.2.1))), (qs.2.2.2.2.2.1, .inl (cJ, 16, .inr (.inl (M.2.2.2.2.2.2.2.2.2.2.2.2.1)))), (qs.2.2.2.2.2.2.1, .inl (cI, 16, .inl (M.2.2.2.2.2.2.2.2.2.2.2.2.2.1))), (qs.2.2.2.2.2.2.2, .inl (cJ, 9616, .inr (.inl (M.2.2.2.2.2.2.2.2.2.2.2.2.2.2.2.1))))] := D_right hD
  have hFm : ∀ q, va_A [(h1, .inr (8, [.int M.1, .ref qs.1, .ref qs.2.1, .int M.2.2.2.1, .long M.2.2.2.2.1, .int M.2.2.2.2.2.1, .ref qs.2.2.1, .ref qs.2.2.2.1, .ref qs.2.2.2.2.1, .int M.2.2.2.2.2.2.2.2.2.1, .long M.2.2.2.2.2.2.2.2.2.2.1, .int M.2.2.2.2.2.2.2.2.2.2.2.1, .ref qs.2.2.2.2.2.1, .ref qs.2.2.2.2.2.2.1, .int M.2.2.2.2.2.2.2.2.2.2.2.2.2.2.1, .ref qs.2.2.2.2.2.2.2, .long M.2.2.2.2.2.2.2.2.2.2.2.2.2.2.2.2.1, .long M.2.2.2.2.2.2.2.2.2.2.2.2.2.2.2.2.2.1, .int M.2.2.2.2.2.2.2.2.2.2.2.2.2.2.2.2.2.2])), (qs.1, .inl (cI, 9592, .inl (M.2.1))), (qs.2.1, .inl (cZ, 2000001, .inl (M.2.2.1))), (qs.2.2.1, .inl (cJ, 5000, .inr (.inl (M.2.2.2.2.2.2.1)))), (qs.2.2.2.1, .inl (cJ, 5000, .inr (.inl (M.2.2.2.2.2.2.2.1)))), (qs.2.2.2.2.1, .inl (cZ, 5000, .inl (M.2.2.2.2.2.2.2.2.1))), (qs.2.2.2.2.2.1, .inl (cJ, 16, .inr (.inl (M.2.2.2.2.2.2.2.2.2.2.2.2.1)))), (qs.2.2.2.2.2.2.1, .inl (cI, 16, .inl (M.2.2.2.2.2.2.2.2.2.2.2.2.2.1))), (qs.2.2.2.2.2.2.2, .inl (cJ, 9616, .inr (.inl (M.2.2.2.2.2.2.2.2.2.2.2.2.2.2.2.1))))] H.size q → (fun q : Nat => s.heap.size ≤ q) q := F_right hD hS hA
  have b3 := cc__le (xc_ X2)
  have b4 := cs__le (xc_ X2)
  refine va_calll (va_runV (As := [.int (xs (i + (1 : Int32)).toNatClampNeg), .int (xs (i + (2 : Int32)).toNatClampNeg), .int (xs (i + (3 : Int32)).toNatClampNeg), .int (xs (i + (4 : Int32)).toNatClampNeg)]) (rest := [.long r]) ⟨hx, hb, hml, hown, hts⟩ (c_X9_floors l dC dI cI cJ cZ _ h1 M.1 M.2.1 qs.1 M.2.2.1 qs.2.1 M.2.2.2.1 M.2.2.2.2.1 M.2.2.2.2.2.1 M.2.2.2.2.2.2.1 qs.2.2.1 M.2.2.2.2.2.2.2.1 qs.2.2.2.1 M.2.2.2.2.2.2.2.2.1 qs.2.2.2.2.1 M.2.2.2.2.2.2.2.2.2.1 M.2.2.2.2.2.2.2.2.2.2.1 M.2.2.2.2.2.2.2.2.2.2.2.1 M.2.2.2.2.2.2.2.2.2.2.2.2.1 qs.2.2.2.2.2.1 M.2.2.2.2.2.2.2.2.2.2.2.2.2.1 qs.2.2.2.2.2.2.1 M.2.2.2.2.2.2.2.2.2.2.2.2.2.2.1 M.2.2.2.2.2.2.2.2.2.2.2.2.2.2.2.1 qs.2.2.2.2.2.2.2 M.2.2.2.2.2.2.2.2.2.2.2.2.2.2.2.2.1 M.2.2.2.2.2.2.2.2.2.2.2.2.2.2.2.2.2.1 M.2.2.2.2.2.2.2.2.2.2.2.2.2.2.2.2.2.2 (xs (i + (1 : Int32)).toNatClampNeg) (xs (i + (2 : Int32)).toNatClampNeg) (xs (i + (3 : Int32)).toNatClampNeg) (xs (i + (4 : Int32)).toNatClampNeg) _ h) (cwV 4 hts gL_law_X9_floors rfl rfl rfl (by decide +kernel) ⟨Nat.le_of_ble_eq_true rfl, Nat.le_of_ble_eq_true rfl⟩) ⟨pre_fb, va_recv hK hPm (ci := 8) (q0 := 0) rfl rfl, pre_of hPm hDm hK hN⟩ rfl rfl hl.1 rfl (lv_room (Nat.le_of_ble_eq_true rfl)) dL_law_774 ⟨(by show _ ≤ 600000; omega), (by show _ ≤ 7302250; omega)⟩) hS (fun q _ h => hFm q h) hFm (fun r2 u t H1 locs ht hvm h hB hz1 hk1 hS => ?_)
  obtain ⟨hP1, hD1⟩ := hB
  rw [ht] at hP1
  obtain ⟨hP, hD⟩ := frame2r (wr := xcells cI cJ cZ h0 X2) (wc := mcells cI cJ cZ h1 qs M) (w1 := mcells cI cJ cZ h1 qs (M.1, M.2.1, M.2.2.1, M.2.2.2.1, M.2.2.2.2.1, M.2.2.2.2.2.1, M.2.2.2.2.2.2.1, M.2.2.2.2.2.2.2.1, M.2.2.2.2.2.2.2.2.1, M.2.2.2.2.2.2.2.2.2.1, M.2.2.2.2.2.2.2.2.2.2.1, M.2.2.2.2.2.2.2.2.2.2.2.1, M.2.2.2.2.2.2.2.2.2.2.2.2.1, M.2.2.2.2.2.2.2.2.2.2.2.2.2.1, M.2.2.2.2.2.2.2.2.2.2.2.2.2.2.1, M.2.2.2.2.2.2.2.2.2.2.2.2.2.2.2.1, M.2.2.2.2.2.2.2.2.2.2.2.2.2.2.2.2.1, M.2.2.2.2.2.2.2.2.2.2.2.2.2.2.2.2.2.1, M.2.2.2.2.2.2.2.2.2.2.2.2.2.2.2.2.2.2)) hP hD hk1 hFm hP1 hD1
  generalize H1 = H at hP hS ⊢
  obtain ⟨hre, hI⟩ := h
  refine W.lcmp hx hb dL_law_777 ?_
  refine lv_if_eq (tgt := 1181) hx hb dL_law_778 (by decide) (fun c9 => ?_) (fun c9 => absurd hre (lc_neq c9))
  refine W.widen (k := 10 + cc_ (xc_ X2)) (n := 2034266 + cs_ (xc_ X2)) (by omega) (by omega) ?_
  exact hnx X2 (M.1, M.2.1, M.2.2.1, M.2.2.2.1, M.2.2.2.2.1, M.2.2.2.2.2.1, M.2.2.2.2.2.2.1, M.2.2.2.2.2.2.2.1, M.2.2.2.2.2.2.2.2.1, M.2.2.2.2.2.2.2.2.2.1, M.2.2.2.2.2.2.2.2.2.2.1, M.2.2.2.2.2.2.2.2.2.2.2.1, M.2.2.2.2.2.2.2.2.2.2.2.2.1, M.2.2.2.2.2.2.2.2.2.2.2.2.2.1, M.2.2.2.2.2.2.2.2.2.2.2.2.2.2.1, M.2.2.2.2.2.2.2.2.2.2.2.2.2.2.2.1, M.2.2.2.2.2.2.2.2.2.2.2.2.2.2.2.2.1, M.2.2.2.2.2.2.2.2.2.2.2.2.2.2.2.2.2.1, M.2.2.2.2.2.2.2.2.2.2.2.2.2.2.2.2.2.2) hI H locs hP hD hS ls hl
set_option maxHeartbeats 4000000 in
set_option maxRecDepth 100000 in
theorem lcase_points {p : Program} {l : Launch} {e : Env} {s : State} {m : MethodId} {below : List Frame} {meth : Method} {c : Code} {dC : Nat → ClassId} {dI : Nat → Nat → Nat} {cI cJ cZ : ClassId} {b h0 h1 : Nat} {qs : AM_} {Inv : XC_ → MC_ → Prop} {L : Nat} {xs : Nat → Int32} (C0 : lw_At p s m meth c b L xs) (hK : va_K (dC, dI) vwCl (tys_ cI cJ cZ) s) (hN : nw_ s) {i : Int32} (hi1 : vp_in (i + (1 : Int32)) L) (hi2 : vp_in (i + (2 : Int32)) L) (hi3 : vp_in (i + (3 : Int32)) L) (hi4 : vp_in (i + (4 : Int32)) L) (hst : st_points Inv) (hnx : law_at p l e s m below meth c dC dI cI cJ cZ b h0 h1 qs Inv 1181 i) : law_at p l e s m below meth c dC dI cI cJ cZ b h0 h1 qs Inv 783 i := by
  obtain ⟨hx, hb, hr, hml, hown, hts, hX, hbl, hlocks, hgv⟩ := C0
  replace hts := fun w h => hts w (wsL_law_in w h)
  have hA : ∀ q : Nat, s.heap.size ≤ q → (fun q : Nat => s.heap.size ≤ q) q := fun _ h => h
  have hbA : ¬ (fun q : Nat => s.heap.size ≤ q) b := Nat.not_le.mpr hbl
  have hown : s.vm.findClass RL = some m.cls := hown
  intro X M hI H locs hP hD hS ls hl
  refine lv_aload_n hx hb dL_law_783 rfl (lv_at hl 1 rfl) ?_
  refine lv_aload_n hx hb dL_law_784 rfl (lv_at hl 0 rfl) ?_
  refine lv_iload_n hx hb dL_law_785 rfl (lv_at hl 3 rfl) ?_
  refine lv_iconst (v := (1 : Int32)) hx hb dL_law_786 (by decide) ?_
  refine lv_iadd hx hb dL_law_787 ?_
  refine va_sld hx hb hX hbl hbA hS hi1 dL_law_788 ?_
  refine lv_i2l hx hb dL_law_789 rfl ?_
  refine lv_bipush (v := (32 : Int32)) hx hb dL_law_790 (by decide) ?_
  refine lv_lshl hx hb dL_law_792 rfl ?_
  refine lv_aload_n hx hb dL_law_793 rfl (lv_at hl 0 rfl) ?_
  refine lv_iload_n hx hb dL_law_794 rfl (lv_at hl 3 rfl) ?_
  refine lv_iconst (v := (2 : Int32)) hx hb dL_law_795 (by decide) ?_
  refine lv_iadd hx hb dL_law_796 ?_
  refine va_sld hx hb hX hbl hbA hS hi2 dL_law_797 ?_
  refine lv_i2l hx hb dL_law_798 rfl ?_
  refine lv_ldc2 hx hb hown (hts (.constantLong RL 13 (4294967295)) (by decide +kernel)) dL_law_799 ?_
  refine lv_land hx hb dL_law_802 ?_
  refine lv_lor hx hb dL_law_803 ?_
  obtain ⟨mc, ms, hmc, hms, h⟩ := hst (xc_ X) M (((xs (i + (1 : Int32)).toNatClampNeg).toInt64 <<< ((32 : Int32).toInt64 &&& 63)) ||| ((xs (i + (2 : Int32)).toNatClampNeg).toInt64 &&& (4294967295 : Int64))) hI
  have hPx := P_left hP
  have hDx := D_left hD
  have hFx := F_left hD hS hA
  have b1 := cc__le (xc_ X)
  have b2 := cs__le (xc_ X)
  refine va_calll (va_runV (As := [.long (((xs (i + (1 : Int32)).toNatClampNeg).toInt64 <<< ((32 : Int32).toInt64 &&& 63)) ||| ((xs (i + (2 : Int32)).toNatClampNeg).toInt64 &&& (4294967295 : Int64)))]) (rest := []) ⟨hx, hb, hml, hown, hts⟩ (cx_points l dC dI cI cJ cZ _ h0 mc ms X (((xs (i + (1 : Int32)).toNatClampNeg).toInt64 <<< ((32 : Int32).toInt64 &&& 63)) ||| ((xs (i + (2 : Int32)).toNatClampNeg).toInt64 &&& (4294967295 : Int64))) _ h) (cwV 1 hts gL_law_X8_points rfl rfl rfl (by decide +kernel) ⟨Nat.le_of_ble_eq_true rfl, Nat.le_of_ble_eq_true rfl⟩) ⟨pre_fb, va_recv hK hPx (ci := 7) (q0 := 0) rfl rfl, pre_of hPx hDx hK hN⟩ rfl rfl hl.1 rfl (lv_room (Nat.le_of_ble_eq_true rfl)) dL_law_804 ⟨(by show _ ≤ 600000; omega), (by show _ ≤ 7302250; omega)⟩) hS (fun q _ h => hFx q h) hFx (fun r X2 t H1 locs ht hvm h hB hz1 hk1 hS => ?_)
  obtain ⟨hP1, hD1⟩ := hB
  rw [ht] at hP1
  obtain ⟨hP, hD⟩ := frame2 hP hD hk1 hFx hP1 hD1
  generalize H1 = H at hP hS ⊢
  obtain ⟨hc1, hc2, h⟩ := h
  refine W.widen (k := 10 + cc_ (xc_ X2)) (n := 2034266 + cs_ (xc_ X2)) (by omega) (by omega) ?_
  refine lv_aload_n hx hb dL_law_807 rfl (lv_at hl 2 rfl) ?_
  refine lv_aload_n hx hb dL_law_808 rfl (lv_at hl 0 rfl) ?_
  refine lv_iload_n hx hb dL_law_809 rfl (lv_at hl 3 rfl) ?_
  refine lv_iconst (v := (1 : Int32)) hx hb dL_law_810 (by decide) ?_
  refine lv_iadd hx hb dL_law_811 ?_
  refine va_sld hx hb hX hbl hbA hS hi1 dL_law_812 ?_
  refine lv_i2l hx hb dL_law_813 rfl ?_
  refine lv_bipush (v := (32 : Int32)) hx hb dL_law_814 (by decide) ?_
  refine lv_lshl hx hb dL_law_816 rfl ?_
  refine lv_aload_n hx hb dL_law_817 rfl (lv_at hl 0 rfl) ?_
  refine lv_iload_n hx hb dL_law_818 rfl (lv_at hl 3 rfl) ?_
  refine lv_iconst (v := (2 : Int32)) hx hb dL_law_819 (by decide) ?_
  refine lv_iadd hx hb dL_law_820 ?_
  refine va_sld hx hb hX hbl hbA hS hi2 dL_law_821 ?_
  refine lv_i2l hx hb dL_law_822 rfl ?_
  refine lv_ldc2 hx hb hown (hts (.constantLong RL 13 (4294967295)) (by decide +kernel)) dL_law_823 ?_
  refine lv_land hx hb dL_law_826 ?_
  refine lv_lor hx hb dL_law_827 ?_
  have hPm : va_P (dC, dI) vwCl [(h1, .inr (8, [.int M.1, .ref qs.1, .ref qs.2.1, .int M.2.2.2.1, .long M.2.2.2.2.1, .int M.2.2.2.2.2.1, .ref qs.2.2.1, .ref qs.2.2.2.1, .ref qs.2.2.2.2.1, .int M.2.2.2.2.2.2.2.2.2.1, .long M.2.2.2.2.2.2.2.2.2.2.1, .int M.2.2.2.2.2.2.2.2.2.2.2.1, .ref qs.2.2.2.2.2.1, .ref qs.2.2.2.2.2.2.1, .int M.2.2.2.2.2.2.2.2.2.2.2.2.2.2.1, .ref qs.2.2.2.2.2.2.2, .long M.2.2.2.2.2.2.2.2.2.2.2.2.2.2.2.2.1, .long M.2.2.2.2.2.2.2.2.2.2.2.2.2.2.2.2.2.1, .int M.2.2.2.2.2.2.2.2.2.2.2.2.2.2.2.2.2.2])), (qs.1, .inl (cI, 9592, .inl (M.2.1))), (qs.2.1, .inl (cZ, 2000001, .inl (M.2.2.1))), (qs.2.2.1, .inl (cJ, 5000, .inr (.inl (M.2.2.2.2.2.2.1)))), (qs.2.2.2.1, .inl (cJ, 5000, .inr (.inl (M.2.2.2.2.2.2.2.1)))), (qs.2.2.2.2.1, .inl (cZ, 5000, .inl (M.2.2.2.2.2.2.2.2.1))), (qs.2.2.2.2.2.1, .inl (cJ, 16, .inr (.inl (M.2.2.2.2.2.2.2.2.2.2.2.2.1)))), (qs.2.2.2.2.2.2.1, .inl (cI, 16, .inl (M.2.2.2.2.2.2.2.2.2.2.2.2.2.1))), (qs.2.2.2.2.2.2.2, .inl (cJ, 9616, .inr (.inl (M.2.2.2.2.2.2.2.2.2.2.2.2.2.2.2.1))))] H := P_right hP
  have hDm : va_D (fun q : Nat => s.heap.size ≤ q) [(h1, .inr (8, [.int M.1, .ref qs.1, .ref qs.2.1, .int M.2.2.2.1, .long M.2.2.2.2.1, .int M.2.2.2.2.2.1, .ref qs.2.2.1, .ref qs.2.2.2.1, .ref qs.2.2.2.2.1, .int M.2.2.2.2.2.2.2.2.2.1, .long M.2.2.2.2.2.2.2.2.2.2.1, .int M.2.2.2.2.2.2.2.2.2.2.2.1, .ref qs.2.2.2.2.2.1, .ref qs.2.2.2.2.2.2.1, .int M.2.2.2.2.2.2.2.2.2.2.2.2.2.2.1, .ref qs.2.2.2.2.2.2.2, .long M.2.2.2.2.2.2.2.2.2.2.2.2.2.2.2.2.1, .long M.2.2.2.2.2.2.2.2.2.2.2.2.2.2.2.2.2.1, .int M.2.2.2.2.2.2.2.2.2.2.2.2.2.2.2.2.2.2])), (qs.1, .inl (cI, 9592, .inl (M.2.1))), (qs.2.1, .inl (cZ, 2000001, .inl (M.2.2.1))), (qs.2.2.1, .inl (cJ, 5000, .inr (.inl (M.2.2.2.2.2.2.1)))), (qs.2.2.2.1, .inl (cJ, 5000, .inr (.inl (M.2.2.2.2.2.2.2.1)))), (qs.2.2.2.2.1, .inl (cZ, 5000, .inl (M.2.2.2.2.2.2.2.2.1))), (qs.2.2.2.2.2.1, .inl (cJ, 16, .inr (.inl (M.2.2.2.2.2.2.2.2.2.2.2.2.1)))), (qs.2.2.2.2.2.2.1, .inl (cI, 16, .inl (M.2.2.2.2.2.2.2.2.2.2.2.2.2.1))), (qs.2.2.2.2.2.2.2, .inl (cJ, 9616, .inr (.inl (M.2.2.2.2.2.2.2.2.2.2.2.2.2.2.2.1))))] := D_right hD
  have hFm : ∀ q, va_A [(h1, .inr (8, [.int M.1, .ref qs.1, .ref qs.2.1, .int M.2.2.2.1, .long M.2.2.2.2.1, .int M.2.2.2.2.2.1, .ref qs.2.2.1, .ref qs.2.2.2.1, .ref qs.2.2.2.2.1, .int M.2.2.2.2.2.2.2.2.2.1, .long M.2.2.2.2.2.2.2.2.2.2.1, .int M.2.2.2.2.2.2.2.2.2.2.2.1, .ref qs.2.2.2.2.2.1, .ref qs.2.2.2.2.2.2.1, .int M.2.2.2.2.2.2.2.2.2.2.2.2.2.2.1, .ref qs.2.2.2.2.2.2.2, .long M.2.2.2.2.2.2.2.2.2.2.2.2.2.2.2.2.1, .long M.2.2.2.2.2.2.2.2.2.2.2.2.2.2.2.2.2.1, .int M.2.2.2.2.2.2.2.2.2.2.2.2.2.2.2.2.2.2])), (qs.1, .inl (cI, 9592, .inl (M.2.1))), (qs.2.1, .inl (cZ, 2000001, .inl (M.2.2.1))), (qs.2.2.1, .inl (cJ, 5000, .inr (.inl (M.2.2.2.2.2.2.1)))), (qs.2.2.2.1, .inl (cJ, 5000, .inr (.inl (M.2.2.2.2.2.2.2.1)))), (qs.2.2.2.2.1, .inl (cZ, 5000, .inl (M.2.2.2.2.2.2.2.2.1))), (qs.2.2.2.2.2.1, .inl (cJ, 16, .inr (.inl (M.2.2.2.2.2.2.2.2.2.2.2.2.1)))), (qs.2.2.2.2.2.2.1, .inl (cI, 16, .inl (M.2.2.2.2.2.2.2.2.2.2.2.2.2.1))), (qs.2.2.2.2.2.2.2, .inl (cJ, 9616, .inr (.inl (M.2.2.2.2.2.2.2.2.2.2.2.2.2.2.2.1))))] H.size q → (fun q : Nat => s.heap.size ≤ q) q := F_right hD hS hA
  have b3 := cc__le (xc_ X2)
  have b4 := cs__le (xc_ X2)
  refine va_calll (va_runV (As := [.long (((xs (i + (1 : Int32)).toNatClampNeg).toInt64 <<< ((32 : Int32).toInt64 &&& 63)) ||| ((xs (i + (2 : Int32)).toNatClampNeg).toInt64 &&& (4294967295 : Int64)))]) (rest := [.long r]) ⟨hx, hb, hml, hown, hts⟩ (c_X9_points l dC dI cI cJ cZ _ h1 M.1 M.2.1 qs.1 M.2.2.1 qs.2.1 M.2.2.2.1 M.2.2.2.2.1 M.2.2.2.2.2.1 M.2.2.2.2.2.2.1 qs.2.2.1 M.2.2.2.2.2.2.2.1 qs.2.2.2.1 M.2.2.2.2.2.2.2.2.1 qs.2.2.2.2.1 M.2.2.2.2.2.2.2.2.2.1 M.2.2.2.2.2.2.2.2.2.2.1 M.2.2.2.2.2.2.2.2.2.2.2.1 M.2.2.2.2.2.2.2.2.2.2.2.2.1 qs.2.2.2.2.2.1 M.2.2.2.2.2.2.2.2.2.2.2.2.2.1 qs.2.2.2.2.2.2.1 M.2.2.2.2.2.2.2.2.2.2.2.2.2.2.1 M.2.2.2.2.2.2.2.2.2.2.2.2.2.2.2.1 qs.2.2.2.2.2.2.2 M.2.2.2.2.2.2.2.2.2.2.2.2.2.2.2.2.1 M.2.2.2.2.2.2.2.2.2.2.2.2.2.2.2.2.2.1 M.2.2.2.2.2.2.2.2.2.2.2.2.2.2.2.2.2.2 (((xs (i + (1 : Int32)).toNatClampNeg).toInt64 <<< ((32 : Int32).toInt64 &&& 63)) ||| ((xs (i + (2 : Int32)).toNatClampNeg).toInt64 &&& (4294967295 : Int64))) _ h) (cwV 1 hts gL_law_X9_points rfl rfl rfl (by decide +kernel) ⟨Nat.le_of_ble_eq_true rfl, Nat.le_of_ble_eq_true rfl⟩) ⟨pre_fb, va_recv hK hPm (ci := 8) (q0 := 0) rfl rfl, pre_of hPm hDm hK hN⟩ rfl rfl hl.1 rfl (lv_room (Nat.le_of_ble_eq_true rfl)) dL_law_828 ⟨(by show _ ≤ 600000; omega), (by show _ ≤ 7302250; omega)⟩) hS (fun q _ h => hFm q h) hFm (fun r2 u t H1 locs ht hvm h hB hz1 hk1 hS => ?_)
  obtain ⟨hP1, hD1⟩ := hB
  rw [ht] at hP1
  obtain ⟨hP, hD⟩ := frame2r (wr := xcells cI cJ cZ h0 X2) (wc := mcells cI cJ cZ h1 qs M) (w1 := mcells cI cJ cZ h1 qs (M.1, M.2.1, M.2.2.1, M.2.2.2.1, M.2.2.2.2.1, M.2.2.2.2.2.1, M.2.2.2.2.2.2.1, M.2.2.2.2.2.2.2.1, M.2.2.2.2.2.2.2.2.1, M.2.2.2.2.2.2.2.2.2.1, M.2.2.2.2.2.2.2.2.2.2.1, M.2.2.2.2.2.2.2.2.2.2.2.1, M.2.2.2.2.2.2.2.2.2.2.2.2.1, M.2.2.2.2.2.2.2.2.2.2.2.2.2.1, M.2.2.2.2.2.2.2.2.2.2.2.2.2.2.1, M.2.2.2.2.2.2.2.2.2.2.2.2.2.2.2.1, M.2.2.2.2.2.2.2.2.2.2.2.2.2.2.2.2.1, M.2.2.2.2.2.2.2.2.2.2.2.2.2.2.2.2.2.1, M.2.2.2.2.2.2.2.2.2.2.2.2.2.2.2.2.2.2)) hP hD hk1 hFm hP1 hD1
  generalize H1 = H at hP hS ⊢
  obtain ⟨hre, hI⟩ := h
  refine W.lcmp hx hb dL_law_831 ?_
  refine lv_if_eq (tgt := 1181) hx hb dL_law_832 (by decide) (fun c9 => ?_) (fun c9 => absurd hre (lc_neq c9))
  refine W.widen (k := 10 + cc_ (xc_ X2)) (n := 2034266 + cs_ (xc_ X2)) (by omega) (by omega) ?_
  exact hnx X2 (M.1, M.2.1, M.2.2.1, M.2.2.2.1, M.2.2.2.2.1, M.2.2.2.2.2.1, M.2.2.2.2.2.2.1, M.2.2.2.2.2.2.2.1, M.2.2.2.2.2.2.2.2.1, M.2.2.2.2.2.2.2.2.2.1, M.2.2.2.2.2.2.2.2.2.2.1, M.2.2.2.2.2.2.2.2.2.2.2.1, M.2.2.2.2.2.2.2.2.2.2.2.2.1, M.2.2.2.2.2.2.2.2.2.2.2.2.2.1, M.2.2.2.2.2.2.2.2.2.2.2.2.2.2.1, M.2.2.2.2.2.2.2.2.2.2.2.2.2.2.2.1, M.2.2.2.2.2.2.2.2.2.2.2.2.2.2.2.2.1, M.2.2.2.2.2.2.2.2.2.2.2.2.2.2.2.2.2.1, M.2.2.2.2.2.2.2.2.2.2.2.2.2.2.2.2.2.2) hI H locs hP hD hS ls hl
set_option maxHeartbeats 4000000 in
set_option maxRecDepth 100000 in
theorem lcase_rule {p : Program} {l : Launch} {e : Env} {s : State} {m : MethodId} {below : List Frame} {meth : Method} {c : Code} {dC : Nat → ClassId} {dI : Nat → Nat → Nat} {cI cJ cZ : ClassId} {b h0 h1 : Nat} {qs : AM_} {Inv : XC_ → MC_ → Prop} {L : Nat} {xs : Nat → Int32} (C0 : lw_At p s m meth c b L xs) (hK : va_K (dC, dI) vwCl (tys_ cI cJ cZ) s) (hN : nw_ s) {i : Int32} (hi1 : vp_in (i + (1 : Int32)) L) (hi2 : vp_in (i + (2 : Int32)) L) (hi3 : vp_in (i + (3 : Int32)) L) (hi4 : vp_in (i + (4 : Int32)) L) (hst : st_rule Inv) (hnx : law_at p l e s m below meth c dC dI cI cJ cZ b h0 h1 qs Inv 1181 i) : law_at p l e s m below meth c dC dI cI cJ cZ b h0 h1 qs Inv 837 i := by
  obtain ⟨hx, hb, hr, hml, hown, hts, hX, hbl, hlocks, hgv⟩ := C0
  replace hts := fun w h => hts w (wsL_law_in w h)
  have hA : ∀ q : Nat, s.heap.size ≤ q → (fun q : Nat => s.heap.size ≤ q) q := fun _ h => h
  have hbA : ¬ (fun q : Nat => s.heap.size ≤ q) b := Nat.not_le.mpr hbl
  have hown : s.vm.findClass RL = some m.cls := hown
  intro X M hI H locs hP hD hS ls hl
  refine lv_aload_n hx hb dL_law_837 rfl (lv_at hl 1 rfl) ?_
  refine lv_aload_n hx hb dL_law_838 rfl (lv_at hl 0 rfl) ?_
  refine lv_iload_n hx hb dL_law_839 rfl (lv_at hl 3 rfl) ?_
  refine lv_iconst (v := (1 : Int32)) hx hb dL_law_840 (by decide) ?_
  refine lv_iadd hx hb dL_law_841 ?_
  refine va_sld hx hb hX hbl hbA hS hi1 dL_law_842 ?_
  obtain ⟨mc, ms, hmc, hms, h⟩ := hst (xc_ X) M (xs (i + (1 : Int32)).toNatClampNeg) hI
  have hPx := P_left hP
  have hDx := D_left hD
  have hFx := F_left hD hS hA
  have b1 := cc__le (xc_ X)
  have b2 := cs__le (xc_ X)
  refine va_calli (va_runV (As := [.int (xs (i + (1 : Int32)).toNatClampNeg)]) (rest := []) ⟨hx, hb, hml, hown, hts⟩ (cx_rule l dC dI cI cJ cZ _ h0 mc ms X (xs (i + (1 : Int32)).toNatClampNeg) _ h) (cwV 1 hts gL_law_X8_rule rfl rfl rfl (by decide +kernel) ⟨Nat.le_of_ble_eq_true rfl, Nat.le_of_ble_eq_true rfl⟩) ⟨pre_fb, va_recv hK hPx (ci := 7) (q0 := 0) rfl rfl, pre_of hPx hDx hK hN⟩ rfl rfl hl.1 rfl (lv_room (Nat.le_of_ble_eq_true rfl)) dL_law_843 ⟨(by show _ ≤ 600000; omega), (by show _ ≤ 7302250; omega)⟩) hS (fun q _ h => hFx q h) hFx (fun r X2 t H1 locs ht hvm h hB hz1 hk1 hS => ?_)
  obtain ⟨hP1, hD1⟩ := hB
  rw [ht] at hP1
  obtain ⟨hP, hD⟩ := frame2 hP hD hk1 hFx hP1 hD1
  generalize H1 = H at hP hS ⊢
  obtain ⟨hc1, hc2, h⟩ := h
  refine W.widen (k := 10 + cc_ (xc_ X2)) (n := 2034266 + cs_ (xc_ X2)) (by omega) (by omega) ?_
  refine lv_aload_n hx hb dL_law_846 rfl (lv_at hl 2 rfl) ?_
  refine lv_aload_n hx hb dL_law_847 rfl (lv_at hl 0 rfl) ?_
  refine lv_iload_n hx hb dL_law_848 rfl (lv_at hl 3 rfl) ?_
  refine lv_iconst (v := (1 : Int32)) hx hb dL_law_849 (by decide) ?_
  refine lv_iadd hx hb dL_law_850 ?_
  refine va_sld hx hb hX hbl hbA hS hi1 dL_law_851 ?_
  have hPm : va_P (dC, dI) vwCl [(h1, .inr (8, [.int M.1, .ref qs.1, .ref qs.2.1, .int M.2.2.2.1, .long M.2.2.2.2.1, .int M.2.2.2.2.2.1, .ref qs.2.2.1, .ref qs.2.2.2.1, .ref qs.2.2.2.2.1, .int M.2.2.2.2.2.2.2.2.2.1, .long M.2.2.2.2.2.2.2.2.2.2.1, .int M.2.2.2.2.2.2.2.2.2.2.2.1, .ref qs.2.2.2.2.2.1, .ref qs.2.2.2.2.2.2.1, .int M.2.2.2.2.2.2.2.2.2.2.2.2.2.2.1, .ref qs.2.2.2.2.2.2.2, .long M.2.2.2.2.2.2.2.2.2.2.2.2.2.2.2.2.1, .long M.2.2.2.2.2.2.2.2.2.2.2.2.2.2.2.2.2.1, .int M.2.2.2.2.2.2.2.2.2.2.2.2.2.2.2.2.2.2])), (qs.1, .inl (cI, 9592, .inl (M.2.1))), (qs.2.1, .inl (cZ, 2000001, .inl (M.2.2.1))), (qs.2.2.1, .inl (cJ, 5000, .inr (.inl (M.2.2.2.2.2.2.1)))), (qs.2.2.2.1, .inl (cJ, 5000, .inr (.inl (M.2.2.2.2.2.2.2.1)))), (qs.2.2.2.2.1, .inl (cZ, 5000, .inl (M.2.2.2.2.2.2.2.2.1))), (qs.2.2.2.2.2.1, .inl (cJ, 16, .inr (.inl (M.2.2.2.2.2.2.2.2.2.2.2.2.1)))), (qs.2.2.2.2.2.2.1, .inl (cI, 16, .inl (M.2.2.2.2.2.2.2.2.2.2.2.2.2.1))), (qs.2.2.2.2.2.2.2, .inl (cJ, 9616, .inr (.inl (M.2.2.2.2.2.2.2.2.2.2.2.2.2.2.2.1))))] H := P_right hP
  have hDm : va_D (fun q : Nat => s.heap.size ≤ q) [(h1, .inr (8, [.int M.1, .ref qs.1, .ref qs.2.1, .int M.2.2.2.1, .long M.2.2.2.2.1, .int M.2.2.2.2.2.1, .ref qs.2.2.1, .ref qs.2.2.2.1, .ref qs.2.2.2.2.1, .int M.2.2.2.2.2.2.2.2.2.1, .long M.2.2.2.2.2.2.2.2.2.2.1, .int M.2.2.2.2.2.2.2.2.2.2.2.1, .ref qs.2.2.2.2.2.1, .ref qs.2.2.2.2.2.2.1, .int M.2.2.2.2.2.2.2.2.2.2.2.2.2.2.1, .ref qs.2.2.2.2.2.2.2, .long M.2.2.2.2.2.2.2.2.2.2.2.2.2.2.2.2.1, .long M.2.2.2.2.2.2.2.2.2.2.2.2.2.2.2.2.2.1, .int M.2.2.2.2.2.2.2.2.2.2.2.2.2.2.2.2.2.2])), (qs.1, .inl (cI, 9592, .inl (M.2.1))), (qs.2.1, .inl (cZ, 2000001, .inl (M.2.2.1))), (qs.2.2.1, .inl (cJ, 5000, .inr (.inl (M.2.2.2.2.2.2.1)))), (qs.2.2.2.1, .inl (cJ, 5000, .inr (.inl (M.2.2.2.2.2.2.2.1)))), (qs.2.2.2.2.1, .inl (cZ, 5000, .inl (M.2.2.2.2.2.2.2.2.1))), (qs.2.2.2.2.2.1, .inl (cJ, 16, .inr (.inl (M.2.2.2.2.2.2.2.2.2.2.2.2.1)))), (qs.2.2.2.2.2.2.1, .inl (cI, 16, .inl (M.2.2.2.2.2.2.2.2.2.2.2.2.2.1))), (qs.2.2.2.2.2.2.2, .inl (cJ, 9616, .inr (.inl (M.2.2.2.2.2.2.2.2.2.2.2.2.2.2.2.1))))] := D_right hD
  have hFm : ∀ q, va_A [(h1, .inr (8, [.int M.1, .ref qs.1, .ref qs.2.1, .int M.2.2.2.1, .long M.2.2.2.2.1, .int M.2.2.2.2.2.1, .ref qs.2.2.1, .ref qs.2.2.2.1, .ref qs.2.2.2.2.1, .int M.2.2.2.2.2.2.2.2.2.1, .long M.2.2.2.2.2.2.2.2.2.2.1, .int M.2.2.2.2.2.2.2.2.2.2.2.1, .ref qs.2.2.2.2.2.1, .ref qs.2.2.2.2.2.2.1, .int M.2.2.2.2.2.2.2.2.2.2.2.2.2.2.1, .ref qs.2.2.2.2.2.2.2, .long M.2.2.2.2.2.2.2.2.2.2.2.2.2.2.2.2.1, .long M.2.2.2.2.2.2.2.2.2.2.2.2.2.2.2.2.2.1, .int M.2.2.2.2.2.2.2.2.2.2.2.2.2.2.2.2.2.2])), (qs.1, .inl (cI, 9592, .inl (M.2.1))), (qs.2.1, .inl (cZ, 2000001, .inl (M.2.2.1))), (qs.2.2.1, .inl (cJ, 5000, .inr (.inl (M.2.2.2.2.2.2.1)))), (qs.2.2.2.1, .inl (cJ, 5000, .inr (.inl (M.2.2.2.2.2.2.2.1)))), (qs.2.2.2.2.1, .inl (cZ, 5000, .inl (M.2.2.2.2.2.2.2.2.1))), (qs.2.2.2.2.2.1, .inl (cJ, 16, .inr (.inl (M.2.2.2.2.2.2.2.2.2.2.2.2.1)))), (qs.2.2.2.2.2.2.1, .inl (cI, 16, .inl (M.2.2.2.2.2.2.2.2.2.2.2.2.2.1))), (qs.2.2.2.2.2.2.2, .inl (cJ, 9616, .inr (.inl (M.2.2.2.2.2.2.2.2.2.2.2.2.2.2.2.1))))] H.size q → (fun q : Nat => s.heap.size ≤ q) q := F_right hD hS hA
  have b3 := cc__le (xc_ X2)
  have b4 := cs__le (xc_ X2)
  refine va_calli (va_runV (As := [.int (xs (i + (1 : Int32)).toNatClampNeg)]) (rest := [.int r]) ⟨hx, hb, hml, hown, hts⟩ (c_X9_rule l dC dI cI cJ cZ _ h1 M.1 M.2.1 qs.1 M.2.2.1 qs.2.1 M.2.2.2.1 M.2.2.2.2.1 M.2.2.2.2.2.1 M.2.2.2.2.2.2.1 qs.2.2.1 M.2.2.2.2.2.2.2.1 qs.2.2.2.1 M.2.2.2.2.2.2.2.2.1 qs.2.2.2.2.1 M.2.2.2.2.2.2.2.2.2.1 M.2.2.2.2.2.2.2.2.2.2.1 M.2.2.2.2.2.2.2.2.2.2.2.1 M.2.2.2.2.2.2.2.2.2.2.2.2.1 qs.2.2.2.2.2.1 M.2.2.2.2.2.2.2.2.2.2.2.2.2.1 qs.2.2.2.2.2.2.1 M.2.2.2.2.2.2.2.2.2.2.2.2.2.2.1 M.2.2.2.2.2.2.2.2.2.2.2.2.2.2.2.1 qs.2.2.2.2.2.2.2 M.2.2.2.2.2.2.2.2.2.2.2.2.2.2.2.2.1 M.2.2.2.2.2.2.2.2.2.2.2.2.2.2.2.2.2.1 M.2.2.2.2.2.2.2.2.2.2.2.2.2.2.2.2.2.2 (xs (i + (1 : Int32)).toNatClampNeg) _ h) (cwV 1 hts gL_law_X9_rule rfl rfl rfl (by decide +kernel) ⟨Nat.le_of_ble_eq_true rfl, Nat.le_of_ble_eq_true rfl⟩) ⟨pre_fb, va_recv hK hPm (ci := 8) (q0 := 0) rfl rfl, pre_of hPm hDm hK hN⟩ rfl rfl hl.1 rfl (lv_room (Nat.le_of_ble_eq_true rfl)) dL_law_852 ⟨(by show _ ≤ 600000; omega), (by show _ ≤ 7302250; omega)⟩) hS (fun q _ h => hFm q h) hFm (fun r2 u t H1 locs ht hvm h hB hz1 hk1 hS => ?_)
  obtain ⟨o0, o1⟩ := u
  obtain ⟨hP1, hD1⟩ := hB
  rw [ht] at hP1
  obtain ⟨hP, hD⟩ := frame2r (wr := xcells cI cJ cZ h0 X2) (wc := mcells cI cJ cZ h1 qs M) (w1 := mcells cI cJ cZ h1 qs (M.1, M.2.1, M.2.2.1, M.2.2.2.1, M.2.2.2.2.1, M.2.2.2.2.2.1, M.2.2.2.2.2.2.1, M.2.2.2.2.2.2.2.1, M.2.2.2.2.2.2.2.2.1, M.2.2.2.2.2.2.2.2.2.1, M.2.2.2.2.2.2.2.2.2.2.1, M.2.2.2.2.2.2.2.2.2.2.2.1, M.2.2.2.2.2.2.2.2.2.2.2.2.1, M.2.2.2.2.2.2.2.2.2.2.2.2.2.1, o0, o1, M.2.2.2.2.2.2.2.2.2.2.2.2.2.2.2.2.1, M.2.2.2.2.2.2.2.2.2.2.2.2.2.2.2.2.2.1, M.2.2.2.2.2.2.2.2.2.2.2.2.2.2.2.2.2.2)) hP hD hk1 hFm hP1 hD1
  generalize H1 = H at hP hS ⊢
  obtain ⟨hre, hI⟩ := h
  refine lv_icmp_eq (tgt := 1181) hx hb dL_law_855 (by decide) (fun c9 => ?_) (fun c9 => absurd hre c9)
  refine W.widen (k := 10 + cc_ (xc_ X2)) (n := 2034266 + cs_ (xc_ X2)) (by omega) (by omega) ?_
  exact hnx X2 (M.1, M.2.1, M.2.2.1, M.2.2.2.1, M.2.2.2.2.1, M.2.2.2.2.2.1, M.2.2.2.2.2.2.1, M.2.2.2.2.2.2.2.1, M.2.2.2.2.2.2.2.2.1, M.2.2.2.2.2.2.2.2.2.1, M.2.2.2.2.2.2.2.2.2.2.1, M.2.2.2.2.2.2.2.2.2.2.2.1, M.2.2.2.2.2.2.2.2.2.2.2.2.1, M.2.2.2.2.2.2.2.2.2.2.2.2.2.1, o0, o1, M.2.2.2.2.2.2.2.2.2.2.2.2.2.2.2.2.1, M.2.2.2.2.2.2.2.2.2.2.2.2.2.2.2.2.2.1, M.2.2.2.2.2.2.2.2.2.2.2.2.2.2.2.2.2.2) hI H locs hP hD hS ls hl
set_option maxHeartbeats 4000000 in
set_option maxRecDepth 100000 in
theorem lcase_sheet {p : Program} {l : Launch} {e : Env} {s : State} {m : MethodId} {below : List Frame} {meth : Method} {c : Code} {dC : Nat → ClassId} {dI : Nat → Nat → Nat} {cI cJ cZ : ClassId} {b h0 h1 : Nat} {qs : AM_} {Inv : XC_ → MC_ → Prop} {L : Nat} {xs : Nat → Int32} (C0 : lw_At p s m meth c b L xs) (hK : va_K (dC, dI) vwCl (tys_ cI cJ cZ) s) (hN : nw_ s) {i : Int32} (hi1 : vp_in (i + (1 : Int32)) L) (hi2 : vp_in (i + (2 : Int32)) L) (hi3 : vp_in (i + (3 : Int32)) L) (hi4 : vp_in (i + (4 : Int32)) L) (hst : st_sheet Inv) (hnx : law_at p l e s m below meth c dC dI cI cJ cZ b h0 h1 qs Inv 1181 i) : law_at p l e s m below meth c dC dI cI cJ cZ b h0 h1 qs Inv 860 i := by
  obtain ⟨hx, hb, hr, hml, hown, hts, hX, hbl, hlocks, hgv⟩ := C0
  replace hts := fun w h => hts w (wsL_law_in w h)
  have hA : ∀ q : Nat, s.heap.size ≤ q → (fun q : Nat => s.heap.size ≤ q) q := fun _ h => h
  have hbA : ¬ (fun q : Nat => s.heap.size ≤ q) b := Nat.not_le.mpr hbl
  have hown : s.vm.findClass RL = some m.cls := hown
  intro X M hI H locs hP hD hS ls hl
  refine lv_aload_n hx hb dL_law_860 rfl (lv_at hl 1 rfl) ?_
  obtain ⟨mc, ms, hmc, hms, h⟩ := hst (xc_ X) M  hI
  have hPx := P_left hP
  have hDx := D_left hD
  have hFx := F_left hD hS hA
  have b1 := cc__le (xc_ X)
  have b2 := cs__le (xc_ X)
  refine va_calli (va_runV (As := []) (rest := []) ⟨hx, hb, hml, hown, hts⟩ (cx_sheet l dC dI cI cJ cZ _ h0 mc ms X  _ h) (cwV 0 hts gL_law_X8_sheet rfl rfl rfl (by decide +kernel) ⟨Nat.le_of_ble_eq_true rfl, Nat.le_of_ble_eq_true rfl⟩) ⟨pre_fb, va_recv hK hPx (ci := 7) (q0 := 0) rfl rfl, pre_of hPx hDx hK hN⟩ rfl rfl hl.1 rfl (lv_room (Nat.le_of_ble_eq_true rfl)) dL_law_861 ⟨(by show _ ≤ 600000; omega), (by show _ ≤ 7302250; omega)⟩) hS (fun q _ h => hFx q h) hFx (fun r X2 t H1 locs ht hvm h hB hz1 hk1 hS => ?_)
  obtain ⟨hP1, hD1⟩ := hB
  rw [ht] at hP1
  obtain ⟨hP, hD⟩ := frame2 hP hD hk1 hFx hP1 hD1
  generalize H1 = H at hP hS ⊢
  obtain ⟨hc1, hc2, h⟩ := h
  refine W.widen (k := 10 + cc_ (xc_ X2)) (n := 2034266 + cs_ (xc_ X2)) (by omega) (by omega) ?_
  refine lv_aload_n hx hb dL_law_864 rfl (lv_at hl 2 rfl) ?_
  have hPm : va_P (dC, dI) vwCl [(h1, .inr (8, [.int M.1, .ref qs.1, .ref qs.2.1, .int M.2.2.2.1, .long M.2.2.2.2.1, .int M.2.2.2.2.2.1, .ref qs.2.2.1, .ref qs.2.2.2.1, .ref qs.2.2.2.2.1, .int M.2.2.2.2.2.2.2.2.2.1, .long M.2.2.2.2.2.2.2.2.2.2.1, .int M.2.2.2.2.2.2.2.2.2.2.2.1, .ref qs.2.2.2.2.2.1, .ref qs.2.2.2.2.2.2.1, .int M.2.2.2.2.2.2.2.2.2.2.2.2.2.2.1, .ref qs.2.2.2.2.2.2.2, .long M.2.2.2.2.2.2.2.2.2.2.2.2.2.2.2.2.1, .long M.2.2.2.2.2.2.2.2.2.2.2.2.2.2.2.2.2.1, .int M.2.2.2.2.2.2.2.2.2.2.2.2.2.2.2.2.2.2])), (qs.1, .inl (cI, 9592, .inl (M.2.1))), (qs.2.1, .inl (cZ, 2000001, .inl (M.2.2.1))), (qs.2.2.1, .inl (cJ, 5000, .inr (.inl (M.2.2.2.2.2.2.1)))), (qs.2.2.2.1, .inl (cJ, 5000, .inr (.inl (M.2.2.2.2.2.2.2.1)))), (qs.2.2.2.2.1, .inl (cZ, 5000, .inl (M.2.2.2.2.2.2.2.2.1))), (qs.2.2.2.2.2.1, .inl (cJ, 16, .inr (.inl (M.2.2.2.2.2.2.2.2.2.2.2.2.1)))), (qs.2.2.2.2.2.2.1, .inl (cI, 16, .inl (M.2.2.2.2.2.2.2.2.2.2.2.2.2.1))), (qs.2.2.2.2.2.2.2, .inl (cJ, 9616, .inr (.inl (M.2.2.2.2.2.2.2.2.2.2.2.2.2.2.2.1))))] H := P_right hP
  have hDm : va_D (fun q : Nat => s.heap.size ≤ q) [(h1, .inr (8, [.int M.1, .ref qs.1, .ref qs.2.1, .int M.2.2.2.1, .long M.2.2.2.2.1, .int M.2.2.2.2.2.1, .ref qs.2.2.1, .ref qs.2.2.2.1, .ref qs.2.2.2.2.1, .int M.2.2.2.2.2.2.2.2.2.1, .long M.2.2.2.2.2.2.2.2.2.2.1, .int M.2.2.2.2.2.2.2.2.2.2.2.1, .ref qs.2.2.2.2.2.1, .ref qs.2.2.2.2.2.2.1, .int M.2.2.2.2.2.2.2.2.2.2.2.2.2.2.1, .ref qs.2.2.2.2.2.2.2, .long M.2.2.2.2.2.2.2.2.2.2.2.2.2.2.2.2.1, .long M.2.2.2.2.2.2.2.2.2.2.2.2.2.2.2.2.2.1, .int M.2.2.2.2.2.2.2.2.2.2.2.2.2.2.2.2.2.2])), (qs.1, .inl (cI, 9592, .inl (M.2.1))), (qs.2.1, .inl (cZ, 2000001, .inl (M.2.2.1))), (qs.2.2.1, .inl (cJ, 5000, .inr (.inl (M.2.2.2.2.2.2.1)))), (qs.2.2.2.1, .inl (cJ, 5000, .inr (.inl (M.2.2.2.2.2.2.2.1)))), (qs.2.2.2.2.1, .inl (cZ, 5000, .inl (M.2.2.2.2.2.2.2.2.1))), (qs.2.2.2.2.2.1, .inl (cJ, 16, .inr (.inl (M.2.2.2.2.2.2.2.2.2.2.2.2.1)))), (qs.2.2.2.2.2.2.1, .inl (cI, 16, .inl (M.2.2.2.2.2.2.2.2.2.2.2.2.2.1))), (qs.2.2.2.2.2.2.2, .inl (cJ, 9616, .inr (.inl (M.2.2.2.2.2.2.2.2.2.2.2.2.2.2.2.1))))] := D_right hD
  have hFm : ∀ q, va_A [(h1, .inr (8, [.int M.1, .ref qs.1, .ref qs.2.1, .int M.2.2.2.1, .long M.2.2.2.2.1, .int M.2.2.2.2.2.1, .ref qs.2.2.1, .ref qs.2.2.2.1, .ref qs.2.2.2.2.1, .int M.2.2.2.2.2.2.2.2.2.1, .long M.2.2.2.2.2.2.2.2.2.2.1, .int M.2.2.2.2.2.2.2.2.2.2.2.1, .ref qs.2.2.2.2.2.1, .ref qs.2.2.2.2.2.2.1, .int M.2.2.2.2.2.2.2.2.2.2.2.2.2.2.1, .ref qs.2.2.2.2.2.2.2, .long M.2.2.2.2.2.2.2.2.2.2.2.2.2.2.2.2.1, .long M.2.2.2.2.2.2.2.2.2.2.2.2.2.2.2.2.2.1, .int M.2.2.2.2.2.2.2.2.2.2.2.2.2.2.2.2.2.2])), (qs.1, .inl (cI, 9592, .inl (M.2.1))), (qs.2.1, .inl (cZ, 2000001, .inl (M.2.2.1))), (qs.2.2.1, .inl (cJ, 5000, .inr (.inl (M.2.2.2.2.2.2.1)))), (qs.2.2.2.1, .inl (cJ, 5000, .inr (.inl (M.2.2.2.2.2.2.2.1)))), (qs.2.2.2.2.1, .inl (cZ, 5000, .inl (M.2.2.2.2.2.2.2.2.1))), (qs.2.2.2.2.2.1, .inl (cJ, 16, .inr (.inl (M.2.2.2.2.2.2.2.2.2.2.2.2.1)))), (qs.2.2.2.2.2.2.1, .inl (cI, 16, .inl (M.2.2.2.2.2.2.2.2.2.2.2.2.2.1))), (qs.2.2.2.2.2.2.2, .inl (cJ, 9616, .inr (.inl (M.2.2.2.2.2.2.2.2.2.2.2.2.2.2.2.1))))] H.size q → (fun q : Nat => s.heap.size ≤ q) q := F_right hD hS hA
  have b3 := cc__le (xc_ X2)
  have b4 := cs__le (xc_ X2)
  refine va_calli (va_runV (As := []) (rest := [.int r]) ⟨hx, hb, hml, hown, hts⟩ (c_X9_sheet l dC dI cI cJ cZ _ h1 M.1 M.2.1 qs.1 M.2.2.1 qs.2.1 M.2.2.2.1 M.2.2.2.2.1 M.2.2.2.2.2.1 M.2.2.2.2.2.2.1 qs.2.2.1 M.2.2.2.2.2.2.2.1 qs.2.2.2.1 M.2.2.2.2.2.2.2.2.1 qs.2.2.2.2.1 M.2.2.2.2.2.2.2.2.2.1 M.2.2.2.2.2.2.2.2.2.2.1 M.2.2.2.2.2.2.2.2.2.2.2.1 M.2.2.2.2.2.2.2.2.2.2.2.2.1 qs.2.2.2.2.2.1 M.2.2.2.2.2.2.2.2.2.2.2.2.2.1 qs.2.2.2.2.2.2.1 M.2.2.2.2.2.2.2.2.2.2.2.2.2.2.1 M.2.2.2.2.2.2.2.2.2.2.2.2.2.2.2.1 qs.2.2.2.2.2.2.2 M.2.2.2.2.2.2.2.2.2.2.2.2.2.2.2.2.1 M.2.2.2.2.2.2.2.2.2.2.2.2.2.2.2.2.2.1 M.2.2.2.2.2.2.2.2.2.2.2.2.2.2.2.2.2.2  _ h) (cwV 0 hts gL_law_X9_sheet rfl rfl rfl (by decide +kernel) ⟨Nat.le_of_ble_eq_true rfl, Nat.le_of_ble_eq_true rfl⟩) ⟨pre_fb, va_recv hK hPm (ci := 8) (q0 := 0) rfl rfl, pre_of hPm hDm hK hN⟩ rfl rfl hl.1 rfl (lv_room (Nat.le_of_ble_eq_true rfl)) dL_law_865 ⟨(by show _ ≤ 600000; omega), (by show _ ≤ 7302250; omega)⟩) hS (fun q _ h => hFm q h) hFm (fun r2 u t H1 locs ht hvm h hB hz1 hk1 hS => ?_)
  obtain ⟨o0, o1⟩ := u
  obtain ⟨hP1, hD1⟩ := hB
  rw [ht] at hP1
  obtain ⟨hP, hD⟩ := frame2r (wr := xcells cI cJ cZ h0 X2) (wc := mcells cI cJ cZ h1 qs M) (w1 := mcells cI cJ cZ h1 qs (M.1, M.2.1, M.2.2.1, M.2.2.2.1, M.2.2.2.2.1, M.2.2.2.2.2.1, M.2.2.2.2.2.2.1, M.2.2.2.2.2.2.2.1, M.2.2.2.2.2.2.2.2.1, M.2.2.2.2.2.2.2.2.2.1, M.2.2.2.2.2.2.2.2.2.2.1, M.2.2.2.2.2.2.2.2.2.2.2.1, M.2.2.2.2.2.2.2.2.2.2.2.2.1, M.2.2.2.2.2.2.2.2.2.2.2.2.2.1, o0, o1, M.2.2.2.2.2.2.2.2.2.2.2.2.2.2.2.2.1, M.2.2.2.2.2.2.2.2.2.2.2.2.2.2.2.2.2.1, M.2.2.2.2.2.2.2.2.2.2.2.2.2.2.2.2.2.2)) hP hD hk1 hFm hP1 hD1
  generalize H1 = H at hP hS ⊢
  obtain ⟨hre, hI⟩ := h
  refine lv_icmp_eq (tgt := 1181) hx hb dL_law_868 (by decide) (fun c9 => ?_) (fun c9 => absurd hre c9)
  refine W.widen (k := 10 + cc_ (xc_ X2)) (n := 2034266 + cs_ (xc_ X2)) (by omega) (by omega) ?_
  exact hnx X2 (M.1, M.2.1, M.2.2.1, M.2.2.2.1, M.2.2.2.2.1, M.2.2.2.2.2.1, M.2.2.2.2.2.2.1, M.2.2.2.2.2.2.2.1, M.2.2.2.2.2.2.2.2.1, M.2.2.2.2.2.2.2.2.2.1, M.2.2.2.2.2.2.2.2.2.2.1, M.2.2.2.2.2.2.2.2.2.2.2.1, M.2.2.2.2.2.2.2.2.2.2.2.2.1, M.2.2.2.2.2.2.2.2.2.2.2.2.2.1, o0, o1, M.2.2.2.2.2.2.2.2.2.2.2.2.2.2.2.2.1, M.2.2.2.2.2.2.2.2.2.2.2.2.2.2.2.2.2.1, M.2.2.2.2.2.2.2.2.2.2.2.2.2.2.2.2.2.2) hI H locs hP hD hS ls hl
set_option maxHeartbeats 4000000 in
set_option maxRecDepth 100000 in
theorem lcase_tell {p : Program} {l : Launch} {e : Env} {s : State} {m : MethodId} {below : List Frame} {meth : Method} {c : Code} {dC : Nat → ClassId} {dI : Nat → Nat → Nat} {cI cJ cZ : ClassId} {b h0 h1 : Nat} {qs : AM_} {Inv : XC_ → MC_ → Prop} {L : Nat} {xs : Nat → Int32} (C0 : lw_At p s m meth c b L xs) (hK : va_K (dC, dI) vwCl (tys_ cI cJ cZ) s) (hN : nw_ s) {i : Int32} (hi1 : vp_in (i + (1 : Int32)) L) (hi2 : vp_in (i + (2 : Int32)) L) (hi3 : vp_in (i + (3 : Int32)) L) (hi4 : vp_in (i + (4 : Int32)) L) (hst : st_tell Inv) (hnx : law_at p l e s m below meth c dC dI cI cJ cZ b h0 h1 qs Inv 1181 i) : law_at p l e s m below meth c dC dI cI cJ cZ b h0 h1 qs Inv 873 i := by
  obtain ⟨hx, hb, hr, hml, hown, hts, hX, hbl, hlocks, hgv⟩ := C0
  replace hts := fun w h => hts w (wsL_law_in w h)
  have hA : ∀ q : Nat, s.heap.size ≤ q → (fun q : Nat => s.heap.size ≤ q) q := fun _ h => h
  have hbA : ¬ (fun q : Nat => s.heap.size ≤ q) b := Nat.not_le.mpr hbl
  have hown : s.vm.findClass RL = some m.cls := hown
  intro X M hI H locs hP hD hS ls hl
  refine lv_aload_n hx hb dL_law_873 rfl (lv_at hl 1 rfl) ?_
  refine lv_aload_n hx hb dL_law_874 rfl (lv_at hl 0 rfl) ?_
  refine lv_iload_n hx hb dL_law_875 rfl (lv_at hl 3 rfl) ?_
  refine lv_iconst (v := (1 : Int32)) hx hb dL_law_876 (by decide) ?_
  refine lv_iadd hx hb dL_law_877 ?_
  refine va_sld hx hb hX hbl hbA hS hi1 dL_law_878 ?_
  refine lv_aload_n hx hb dL_law_879 rfl (lv_at hl 0 rfl) ?_
  refine lv_iload_n hx hb dL_law_880 rfl (lv_at hl 3 rfl) ?_
  refine lv_iconst (v := (2 : Int32)) hx hb dL_law_881 (by decide) ?_
  refine lv_iadd hx hb dL_law_882 ?_
  refine va_sld hx hb hX hbl hbA hS hi2 dL_law_883 ?_
  refine lv_aload_n hx hb dL_law_884 rfl (lv_at hl 0 rfl) ?_
  refine lv_iload_n hx hb dL_law_885 rfl (lv_at hl 3 rfl) ?_
  refine lv_iconst (v := (3 : Int32)) hx hb dL_law_886 (by decide) ?_
  refine lv_iadd hx hb dL_law_887 ?_
  refine va_sld hx hb hX hbl hbA hS hi3 dL_law_888 ?_
  refine lv_i2l hx hb dL_law_889 rfl ?_
  refine lv_bipush (v := (32 : Int32)) hx hb dL_law_890 (by decide) ?_
  refine lv_lshl hx hb dL_law_892 rfl ?_
  refine lv_aload_n hx hb dL_law_893 rfl (lv_at hl 0 rfl) ?_
  refine lv_iload_n hx hb dL_law_894 rfl (lv_at hl 3 rfl) ?_
  refine lv_iconst (v := (4 : Int32)) hx hb dL_law_895 (by decide) ?_
  refine lv_iadd hx hb dL_law_896 ?_
  refine va_sld hx hb hX hbl hbA hS hi4 dL_law_897 ?_
  refine lv_i2l hx hb dL_law_898 rfl ?_
  refine lv_ldc2 hx hb hown (hts (.constantLong RL 13 (4294967295)) (by decide +kernel)) dL_law_899 ?_
  refine lv_land hx hb dL_law_902 ?_
  refine lv_lor hx hb dL_law_903 ?_
  obtain ⟨mc, ms, hmc, hms, h⟩ := hst (xc_ X) M (xs (i + (1 : Int32)).toNatClampNeg) (xs (i + (2 : Int32)).toNatClampNeg) (((xs (i + (3 : Int32)).toNatClampNeg).toInt64 <<< ((32 : Int32).toInt64 &&& 63)) ||| ((xs (i + (4 : Int32)).toNatClampNeg).toInt64 &&& (4294967295 : Int64))) hI
  have hPx := P_left hP
  have hDx := D_left hD
  have hFx := F_left hD hS hA
  have b1 := cc__le (xc_ X)
  have b2 := cs__le (xc_ X)
  refine va_calli (va_runV (As := [.int (xs (i + (1 : Int32)).toNatClampNeg), .int (xs (i + (2 : Int32)).toNatClampNeg), .long (((xs (i + (3 : Int32)).toNatClampNeg).toInt64 <<< ((32 : Int32).toInt64 &&& 63)) ||| ((xs (i + (4 : Int32)).toNatClampNeg).toInt64 &&& (4294967295 : Int64)))]) (rest := []) ⟨hx, hb, hml, hown, hts⟩ (cx_tell l dC dI cI cJ cZ _ h0 mc ms X (xs (i + (1 : Int32)).toNatClampNeg) (xs (i + (2 : Int32)).toNatClampNeg) (((xs (i + (3 : Int32)).toNatClampNeg).toInt64 <<< ((32 : Int32).toInt64 &&& 63)) ||| ((xs (i + (4 : Int32)).toNatClampNeg).toInt64 &&& (4294967295 : Int64))) _ h) (cwV 3 hts gL_law_X8_tell rfl rfl rfl (by decide +kernel) ⟨Nat.le_of_ble_eq_true rfl, Nat.le_of_ble_eq_true rfl⟩) ⟨pre_fb, va_recv hK hPx (ci := 7) (q0 := 0) rfl rfl, pre_of hPx hDx hK hN⟩ rfl rfl hl.1 rfl (lv_room (Nat.le_of_ble_eq_true rfl)) dL_law_904 ⟨(by show _ ≤ 600000; omega), (by show _ ≤ 7302250; omega)⟩) hS (fun q _ h => hFx q h) hFx (fun r X2 t H1 locs ht hvm h hB hz1 hk1 hS => ?_)
  obtain ⟨hP1, hD1⟩ := hB
  rw [ht] at hP1
  obtain ⟨hP, hD⟩ := frame2 hP hD hk1 hFx hP1 hD1
  generalize H1 = H at hP hS ⊢
  obtain ⟨hc1, hc2, h⟩ := h
  refine W.widen (k := 10 + cc_ (xc_ X2)) (n := 2034266 + cs_ (xc_ X2)) (by omega) (by omega) ?_
  refine lv_aload_n hx hb dL_law_907 rfl (lv_at hl 2 rfl) ?_
  refine lv_aload_n hx hb dL_law_908 rfl (lv_at hl 0 rfl) ?_
  refine lv_iload_n hx hb dL_law_909 rfl (lv_at hl 3 rfl) ?_
  refine lv_iconst (v := (1 : Int32)) hx hb dL_law_910 (by decide) ?_
  refine lv_iadd hx hb dL_law_911 ?_
  refine va_sld hx hb hX hbl hbA hS hi1 dL_law_912 ?_
  refine lv_aload_n hx hb dL_law_913 rfl (lv_at hl 0 rfl) ?_
  refine lv_iload_n hx hb dL_law_914 rfl (lv_at hl 3 rfl) ?_
  refine lv_iconst (v := (2 : Int32)) hx hb dL_law_915 (by decide) ?_
  refine lv_iadd hx hb dL_law_916 ?_
  refine va_sld hx hb hX hbl hbA hS hi2 dL_law_917 ?_
  refine lv_aload_n hx hb dL_law_918 rfl (lv_at hl 0 rfl) ?_
  refine lv_iload_n hx hb dL_law_919 rfl (lv_at hl 3 rfl) ?_
  refine lv_iconst (v := (3 : Int32)) hx hb dL_law_920 (by decide) ?_
  refine lv_iadd hx hb dL_law_921 ?_
  refine va_sld hx hb hX hbl hbA hS hi3 dL_law_922 ?_
  refine lv_i2l hx hb dL_law_923 rfl ?_
  refine lv_bipush (v := (32 : Int32)) hx hb dL_law_924 (by decide) ?_
  refine lv_lshl hx hb dL_law_926 rfl ?_
  refine lv_aload_n hx hb dL_law_927 rfl (lv_at hl 0 rfl) ?_
  refine lv_iload_n hx hb dL_law_928 rfl (lv_at hl 3 rfl) ?_
  refine lv_iconst (v := (4 : Int32)) hx hb dL_law_929 (by decide) ?_
  refine lv_iadd hx hb dL_law_930 ?_
  refine va_sld hx hb hX hbl hbA hS hi4 dL_law_931 ?_
  refine lv_i2l hx hb dL_law_932 rfl ?_
  refine lv_ldc2 hx hb hown (hts (.constantLong RL 13 (4294967295)) (by decide +kernel)) dL_law_933 ?_
  refine lv_land hx hb dL_law_936 ?_
  refine lv_lor hx hb dL_law_937 ?_
  have hPm : va_P (dC, dI) vwCl [(h1, .inr (8, [.int M.1, .ref qs.1, .ref qs.2.1, .int M.2.2.2.1, .long M.2.2.2.2.1, .int M.2.2.2.2.2.1, .ref qs.2.2.1, .ref qs.2.2.2.1, .ref qs.2.2.2.2.1, .int M.2.2.2.2.2.2.2.2.2.1, .long M.2.2.2.2.2.2.2.2.2.2.1, .int M.2.2.2.2.2.2.2.2.2.2.2.1, .ref qs.2.2.2.2.2.1, .ref qs.2.2.2.2.2.2.1, .int M.2.2.2.2.2.2.2.2.2.2.2.2.2.2.1, .ref qs.2.2.2.2.2.2.2, .long M.2.2.2.2.2.2.2.2.2.2.2.2.2.2.2.2.1, .long M.2.2.2.2.2.2.2.2.2.2.2.2.2.2.2.2.2.1, .int M.2.2.2.2.2.2.2.2.2.2.2.2.2.2.2.2.2.2])), (qs.1, .inl (cI, 9592, .inl (M.2.1))), (qs.2.1, .inl (cZ, 2000001, .inl (M.2.2.1))), (qs.2.2.1, .inl (cJ, 5000, .inr (.inl (M.2.2.2.2.2.2.1)))), (qs.2.2.2.1, .inl (cJ, 5000, .inr (.inl (M.2.2.2.2.2.2.2.1)))), (qs.2.2.2.2.1, .inl (cZ, 5000, .inl (M.2.2.2.2.2.2.2.2.1))), (qs.2.2.2.2.2.1, .inl (cJ, 16, .inr (.inl (M.2.2.2.2.2.2.2.2.2.2.2.2.1)))), (qs.2.2.2.2.2.2.1, .inl (cI, 16, .inl (M.2.2.2.2.2.2.2.2.2.2.2.2.2.1))), (qs.2.2.2.2.2.2.2, .inl (cJ, 9616, .inr (.inl (M.2.2.2.2.2.2.2.2.2.2.2.2.2.2.2.1))))] H := P_right hP
  have hDm : va_D (fun q : Nat => s.heap.size ≤ q) [(h1, .inr (8, [.int M.1, .ref qs.1, .ref qs.2.1, .int M.2.2.2.1, .long M.2.2.2.2.1, .int M.2.2.2.2.2.1, .ref qs.2.2.1, .ref qs.2.2.2.1, .ref qs.2.2.2.2.1, .int M.2.2.2.2.2.2.2.2.2.1, .long M.2.2.2.2.2.2.2.2.2.2.1, .int M.2.2.2.2.2.2.2.2.2.2.2.1, .ref qs.2.2.2.2.2.1, .ref qs.2.2.2.2.2.2.1, .int M.2.2.2.2.2.2.2.2.2.2.2.2.2.2.1, .ref qs.2.2.2.2.2.2.2, .long M.2.2.2.2.2.2.2.2.2.2.2.2.2.2.2.2.1, .long M.2.2.2.2.2.2.2.2.2.2.2.2.2.2.2.2.2.1, .int M.2.2.2.2.2.2.2.2.2.2.2.2.2.2.2.2.2.2])), (qs.1, .inl (cI, 9592, .inl (M.2.1))), (qs.2.1, .inl (cZ, 2000001, .inl (M.2.2.1))), (qs.2.2.1, .inl (cJ, 5000, .inr (.inl (M.2.2.2.2.2.2.1)))), (qs.2.2.2.1, .inl (cJ, 5000, .inr (.inl (M.2.2.2.2.2.2.2.1)))), (qs.2.2.2.2.1, .inl (cZ, 5000, .inl (M.2.2.2.2.2.2.2.2.1))), (qs.2.2.2.2.2.1, .inl (cJ, 16, .inr (.inl (M.2.2.2.2.2.2.2.2.2.2.2.2.1)))), (qs.2.2.2.2.2.2.1, .inl (cI, 16, .inl (M.2.2.2.2.2.2.2.2.2.2.2.2.2.1))), (qs.2.2.2.2.2.2.2, .inl (cJ, 9616, .inr (.inl (M.2.2.2.2.2.2.2.2.2.2.2.2.2.2.2.1))))] := D_right hD
  have hFm : ∀ q, va_A [(h1, .inr (8, [.int M.1, .ref qs.1, .ref qs.2.1, .int M.2.2.2.1, .long M.2.2.2.2.1, .int M.2.2.2.2.2.1, .ref qs.2.2.1, .ref qs.2.2.2.1, .ref qs.2.2.2.2.1, .int M.2.2.2.2.2.2.2.2.2.1, .long M.2.2.2.2.2.2.2.2.2.2.1, .int M.2.2.2.2.2.2.2.2.2.2.2.1, .ref qs.2.2.2.2.2.1, .ref qs.2.2.2.2.2.2.1, .int M.2.2.2.2.2.2.2.2.2.2.2.2.2.2.1, .ref qs.2.2.2.2.2.2.2, .long M.2.2.2.2.2.2.2.2.2.2.2.2.2.2.2.2.1, .long M.2.2.2.2.2.2.2.2.2.2.2.2.2.2.2.2.2.1, .int M.2.2.2.2.2.2.2.2.2.2.2.2.2.2.2.2.2.2])), (qs.1, .inl (cI, 9592, .inl (M.2.1))), (qs.2.1, .inl (cZ, 2000001, .inl (M.2.2.1))), (qs.2.2.1, .inl (cJ, 5000, .inr (.inl (M.2.2.2.2.2.2.1)))), (qs.2.2.2.1, .inl (cJ, 5000, .inr (.inl (M.2.2.2.2.2.2.2.1)))), (qs.2.2.2.2.1, .inl (cZ, 5000, .inl (M.2.2.2.2.2.2.2.2.1))), (qs.2.2.2.2.2.1, .inl (cJ, 16, .inr (.inl (M.2.2.2.2.2.2.2.2.2.2.2.2.1)))), (qs.2.2.2.2.2.2.1, .inl (cI, 16, .inl (M.2.2.2.2.2.2.2.2.2.2.2.2.2.1))), (qs.2.2.2.2.2.2.2, .inl (cJ, 9616, .inr (.inl (M.2.2.2.2.2.2.2.2.2.2.2.2.2.2.2.1))))] H.size q → (fun q : Nat => s.heap.size ≤ q) q := F_right hD hS hA
  have b3 := cc__le (xc_ X2)
  have b4 := cs__le (xc_ X2)
  refine va_calli (va_runV (As := [.int (xs (i + (1 : Int32)).toNatClampNeg), .int (xs (i + (2 : Int32)).toNatClampNeg), .long (((xs (i + (3 : Int32)).toNatClampNeg).toInt64 <<< ((32 : Int32).toInt64 &&& 63)) ||| ((xs (i + (4 : Int32)).toNatClampNeg).toInt64 &&& (4294967295 : Int64)))]) (rest := [.int r]) ⟨hx, hb, hml, hown, hts⟩ (c_X9_tell l dC dI cI cJ cZ _ h1 M.1 M.2.1 qs.1 M.2.2.1 qs.2.1 M.2.2.2.1 M.2.2.2.2.1 M.2.2.2.2.2.1 M.2.2.2.2.2.2.1 qs.2.2.1 M.2.2.2.2.2.2.2.1 qs.2.2.2.1 M.2.2.2.2.2.2.2.2.1 qs.2.2.2.2.1 M.2.2.2.2.2.2.2.2.2.1 M.2.2.2.2.2.2.2.2.2.2.1 M.2.2.2.2.2.2.2.2.2.2.2.1 M.2.2.2.2.2.2.2.2.2.2.2.2.1 qs.2.2.2.2.2.1 M.2.2.2.2.2.2.2.2.2.2.2.2.2.1 qs.2.2.2.2.2.2.1 M.2.2.2.2.2.2.2.2.2.2.2.2.2.2.1 M.2.2.2.2.2.2.2.2.2.2.2.2.2.2.2.1 qs.2.2.2.2.2.2.2 M.2.2.2.2.2.2.2.2.2.2.2.2.2.2.2.2.1 M.2.2.2.2.2.2.2.2.2.2.2.2.2.2.2.2.2.1 M.2.2.2.2.2.2.2.2.2.2.2.2.2.2.2.2.2.2 (xs (i + (1 : Int32)).toNatClampNeg) (xs (i + (2 : Int32)).toNatClampNeg) (((xs (i + (3 : Int32)).toNatClampNeg).toInt64 <<< ((32 : Int32).toInt64 &&& 63)) ||| ((xs (i + (4 : Int32)).toNatClampNeg).toInt64 &&& (4294967295 : Int64))) _ h) (cwV 3 hts gL_law_X9_tell rfl rfl rfl (by decide +kernel) ⟨Nat.le_of_ble_eq_true rfl, Nat.le_of_ble_eq_true rfl⟩) ⟨pre_fb, va_recv hK hPm (ci := 8) (q0 := 0) rfl rfl, pre_of hPm hDm hK hN⟩ rfl rfl hl.1 rfl (lv_room (Nat.le_of_ble_eq_true rfl)) dL_law_938 ⟨(by show _ ≤ 600000; omega), (by show _ ≤ 7302250; omega)⟩) hS (fun q _ h => hFm q h) hFm (fun r2 u t H1 locs ht hvm h hB hz1 hk1 hS => ?_)
  obtain ⟨o0, rfl⟩ : ∃ z, z = u := ⟨_, rfl⟩
  obtain ⟨hP1, hD1⟩ := hB
  rw [ht] at hP1
  obtain ⟨hP, hD⟩ := frame2r (wr := xcells cI cJ cZ h0 X2) (wc := mcells cI cJ cZ h1 qs M) (w1 := mcells cI cJ cZ h1 qs (M.1, M.2.1, M.2.2.1, M.2.2.2.1, M.2.2.2.2.1, M.2.2.2.2.2.1, M.2.2.2.2.2.2.1, M.2.2.2.2.2.2.2.1, M.2.2.2.2.2.2.2.2.1, M.2.2.2.2.2.2.2.2.2.1, M.2.2.2.2.2.2.2.2.2.2.1, M.2.2.2.2.2.2.2.2.2.2.2.1, M.2.2.2.2.2.2.2.2.2.2.2.2.1, M.2.2.2.2.2.2.2.2.2.2.2.2.2.1, M.2.2.2.2.2.2.2.2.2.2.2.2.2.2.1, o0, M.2.2.2.2.2.2.2.2.2.2.2.2.2.2.2.2.1, M.2.2.2.2.2.2.2.2.2.2.2.2.2.2.2.2.2.1, M.2.2.2.2.2.2.2.2.2.2.2.2.2.2.2.2.2.2)) hP hD hk1 hFm hP1 hD1
  generalize H1 = H at hP hS ⊢
  obtain ⟨hre, hI⟩ := h
  refine lv_icmp_eq (tgt := 1181) hx hb dL_law_941 (by decide) (fun c9 => ?_) (fun c9 => absurd hre c9)
  refine W.widen (k := 10 + cc_ (xc_ X2)) (n := 2034266 + cs_ (xc_ X2)) (by omega) (by omega) ?_
  exact hnx X2 (M.1, M.2.1, M.2.2.1, M.2.2.2.1, M.2.2.2.2.1, M.2.2.2.2.2.1, M.2.2.2.2.2.2.1, M.2.2.2.2.2.2.2.1, M.2.2.2.2.2.2.2.2.1, M.2.2.2.2.2.2.2.2.2.1, M.2.2.2.2.2.2.2.2.2.2.1, M.2.2.2.2.2.2.2.2.2.2.2.1, M.2.2.2.2.2.2.2.2.2.2.2.2.1, M.2.2.2.2.2.2.2.2.2.2.2.2.2.1, M.2.2.2.2.2.2.2.2.2.2.2.2.2.2.1, o0, M.2.2.2.2.2.2.2.2.2.2.2.2.2.2.2.2.1, M.2.2.2.2.2.2.2.2.2.2.2.2.2.2.2.2.2.1, M.2.2.2.2.2.2.2.2.2.2.2.2.2.2.2.2.2.2) hI H locs hP hD hS ls hl
set_option maxHeartbeats 4000000 in
set_option maxRecDepth 100000 in
theorem lcase_product {p : Program} {l : Launch} {e : Env} {s : State} {m : MethodId} {below : List Frame} {meth : Method} {c : Code} {dC : Nat → ClassId} {dI : Nat → Nat → Nat} {cI cJ cZ : ClassId} {b h0 h1 : Nat} {qs : AM_} {Inv : XC_ → MC_ → Prop} {L : Nat} {xs : Nat → Int32} (C0 : lw_At p s m meth c b L xs) (hK : va_K (dC, dI) vwCl (tys_ cI cJ cZ) s) (hN : nw_ s) {i : Int32} (hi1 : vp_in (i + (1 : Int32)) L) (hi2 : vp_in (i + (2 : Int32)) L) (hi3 : vp_in (i + (3 : Int32)) L) (hi4 : vp_in (i + (4 : Int32)) L) (hst : st_product Inv) (hnx : law_at p l e s m below meth c dC dI cI cJ cZ b h0 h1 qs Inv 1181 i) : law_at p l e s m below meth c dC dI cI cJ cZ b h0 h1 qs Inv 946 i := by
  obtain ⟨hx, hb, hr, hml, hown, hts, hX, hbl, hlocks, hgv⟩ := C0
  replace hts := fun w h => hts w (wsL_law_in w h)
  have hA : ∀ q : Nat, s.heap.size ≤ q → (fun q : Nat => s.heap.size ≤ q) q := fun _ h => h
  have hbA : ¬ (fun q : Nat => s.heap.size ≤ q) b := Nat.not_le.mpr hbl
  have hown : s.vm.findClass RL = some m.cls := hown
  intro X M hI H locs hP hD hS ls hl
  refine lv_aload_n hx hb dL_law_946 rfl (lv_at hl 1 rfl) ?_
  refine lv_aload_n hx hb dL_law_947 rfl (lv_at hl 0 rfl) ?_
  refine lv_iload_n hx hb dL_law_948 rfl (lv_at hl 3 rfl) ?_
  refine lv_iconst (v := (1 : Int32)) hx hb dL_law_949 (by decide) ?_
  refine lv_iadd hx hb dL_law_950 ?_
  refine va_sld hx hb hX hbl hbA hS hi1 dL_law_951 ?_
  refine lv_aload_n hx hb dL_law_952 rfl (lv_at hl 0 rfl) ?_
  refine lv_iload_n hx hb dL_law_953 rfl (lv_at hl 3 rfl) ?_
  refine lv_iconst (v := (2 : Int32)) hx hb dL_law_954 (by decide) ?_
  refine lv_iadd hx hb dL_law_955 ?_
  refine va_sld hx hb hX hbl hbA hS hi2 dL_law_956 ?_
  obtain ⟨mc, ms, hmc, hms, h⟩ := hst (xc_ X) M (xs (i + (1 : Int32)).toNatClampNeg) (xs (i + (2 : Int32)).toNatClampNeg) hI
  have hPx := P_left hP
  have hDx := D_left hD
  have hFx := F_left hD hS hA
  have b1 := cc__le (xc_ X)
  have b2 := cs__le (xc_ X)
  refine va_calli (va_runV (As := [.int (xs (i + (1 : Int32)).toNatClampNeg), .int (xs (i + (2 : Int32)).toNatClampNeg)]) (rest := []) ⟨hx, hb, hml, hown, hts⟩ (cx_product l dC dI cI cJ cZ _ h0 mc ms X (xs (i + (1 : Int32)).toNatClampNeg) (xs (i + (2 : Int32)).toNatClampNeg) _ h) (cwV 2 hts gL_law_X8_product rfl rfl rfl (by decide +kernel) ⟨Nat.le_of_ble_eq_true rfl, Nat.le_of_ble_eq_true rfl⟩) ⟨pre_fb, va_recv hK hPx (ci := 7) (q0 := 0) rfl rfl, pre_of hPx hDx hK hN⟩ rfl rfl hl.1 rfl (lv_room (Nat.le_of_ble_eq_true rfl)) dL_law_957 ⟨(by show _ ≤ 600000; omega), (by show _ ≤ 7302250; omega)⟩) hS (fun q _ h => hFx q h) hFx (fun r X2 t H1 locs ht hvm h hB hz1 hk1 hS => ?_)
  obtain ⟨hP1, hD1⟩ := hB
  rw [ht] at hP1
  obtain ⟨hP, hD⟩ := frame2 hP hD hk1 hFx hP1 hD1
  generalize H1 = H at hP hS ⊢
  obtain ⟨hc1, hc2, h⟩ := h
  refine W.widen (k := 10 + cc_ (xc_ X2)) (n := 2034266 + cs_ (xc_ X2)) (by omega) (by omega) ?_
  refine lv_aload_n hx hb dL_law_960 rfl (lv_at hl 2 rfl) ?_
  refine lv_aload_n hx hb dL_law_961 rfl (lv_at hl 0 rfl) ?_
  refine lv_iload_n hx hb dL_law_962 rfl (lv_at hl 3 rfl) ?_
  refine lv_iconst (v := (1 : Int32)) hx hb dL_law_963 (by decide) ?_
  refine lv_iadd hx hb dL_law_964 ?_
  refine va_sld hx hb hX hbl hbA hS hi1 dL_law_965 ?_
  refine lv_aload_n hx hb dL_law_966 rfl (lv_at hl 0 rfl) ?_
  refine lv_iload_n hx hb dL_law_967 rfl (lv_at hl 3 rfl) ?_
  refine lv_iconst (v := (2 : Int32)) hx hb dL_law_968 (by decide) ?_
  refine lv_iadd hx hb dL_law_969 ?_
  refine va_sld hx hb hX hbl hbA hS hi2 dL_law_970 ?_
  have hPm : va_P (dC, dI) vwCl [(h1, .inr (8, [.int M.1, .ref qs.1, .ref qs.2.1, .int M.2.2.2.1, .long M.2.2.2.2.1, .int M.2.2.2.2.2.1, .ref qs.2.2.1, .ref qs.2.2.2.1, .ref qs.2.2.2.2.1, .int M.2.2.2.2.2.2.2.2.2.1, .long M.2.2.2.2.2.2.2.2.2.2.1, .int M.2.2.2.2.2.2.2.2.2.2.2.1, .ref qs.2.2.2.2.2.1, .ref qs.2.2.2.2.2.2.1, .int M.2.2.2.2.2.2.2.2.2.2.2.2.2.2.1, .ref qs.2.2.2.2.2.2.2, .long M.2.2.2.2.2.2.2.2.2.2.2.2.2.2.2.2.1, .long M.2.2.2.2.2.2.2.2.2.2.2.2.2.2.2.2.2.1, .int M.2.2.2.2.2.2.2.2.2.2.2.2.2.2.2.2.2.2])), (qs.1, .inl (cI, 9592, .inl (M.2.1))), (qs.2.1, .inl (cZ, 2000001, .inl (M.2.2.1))), (qs.2.2.1, .inl (cJ, 5000, .inr (.inl (M.2.2.2.2.2.2.1)))), (qs.2.2.2.1, .inl (cJ, 5000, .inr (.inl (M.2.2.2.2.2.2.2.1)))), (qs.2.2.2.2.1, .inl (cZ, 5000, .inl (M.2.2.2.2.2.2.2.2.1))), (qs.2.2.2.2.2.1, .inl (cJ, 16, .inr (.inl (M.2.2.2.2.2.2.2.2.2.2.2.2.1)))), (qs.2.2.2.2.2.2.1, .inl (cI, 16, .inl (M.2.2.2.2.2.2.2.2.2.2.2.2.2.1))), (qs.2.2.2.2.2.2.2, .inl (cJ, 9616, .inr (.inl (M.2.2.2.2.2.2.2.2.2.2.2.2.2.2.2.1))))] H := P_right hP
  have hDm : va_D (fun q : Nat => s.heap.size ≤ q) [(h1, .inr (8, [.int M.1, .ref qs.1, .ref qs.2.1, .int M.2.2.2.1, .long M.2.2.2.2.1, .int M.2.2.2.2.2.1, .ref qs.2.2.1, .ref qs.2.2.2.1, .ref qs.2.2.2.2.1, .int M.2.2.2.2.2.2.2.2.2.1, .long M.2.2.2.2.2.2.2.2.2.2.1, .int M.2.2.2.2.2.2.2.2.2.2.2.1, .ref qs.2.2.2.2.2.1, .ref qs.2.2.2.2.2.2.1, .int M.2.2.2.2.2.2.2.2.2.2.2.2.2.2.1, .ref qs.2.2.2.2.2.2.2, .long M.2.2.2.2.2.2.2.2.2.2.2.2.2.2.2.2.1, .long M.2.2.2.2.2.2.2.2.2.2.2.2.2.2.2.2.2.1, .int M.2.2.2.2.2.2.2.2.2.2.2.2.2.2.2.2.2.2])), (qs.1, .inl (cI, 9592, .inl (M.2.1))), (qs.2.1, .inl (cZ, 2000001, .inl (M.2.2.1))), (qs.2.2.1, .inl (cJ, 5000, .inr (.inl (M.2.2.2.2.2.2.1)))), (qs.2.2.2.1, .inl (cJ, 5000, .inr (.inl (M.2.2.2.2.2.2.2.1)))), (qs.2.2.2.2.1, .inl (cZ, 5000, .inl (M.2.2.2.2.2.2.2.2.1))), (qs.2.2.2.2.2.1, .inl (cJ, 16, .inr (.inl (M.2.2.2.2.2.2.2.2.2.2.2.2.1)))), (qs.2.2.2.2.2.2.1, .inl (cI, 16, .inl (M.2.2.2.2.2.2.2.2.2.2.2.2.2.1))), (qs.2.2.2.2.2.2.2, .inl (cJ, 9616, .inr (.inl (M.2.2.2.2.2.2.2.2.2.2.2.2.2.2.2.1))))] := D_right hD
  have hFm : ∀ q, va_A [(h1, .inr (8, [.int M.1, .ref qs.1, .ref qs.2.1, .int M.2.2.2.1, .long M.2.2.2.2.1, .int M.2.2.2.2.2.1, .ref qs.2.2.1, .ref qs.2.2.2.1, .ref qs.2.2.2.2.1, .int M.2.2.2.2.2.2.2.2.2.1, .long M.2.2.2.2.2.2.2.2.2.2.1, .int M.2.2.2.2.2.2.2.2.2.2.2.1, .ref qs.2.2.2.2.2.1, .ref qs.2.2.2.2.2.2.1, .int M.2.2.2.2.2.2.2.2.2.2.2.2.2.2.1, .ref qs.2.2.2.2.2.2.2, .long M.2.2.2.2.2.2.2.2.2.2.2.2.2.2.2.2.1, .long M.2.2.2.2.2.2.2.2.2.2.2.2.2.2.2.2.2.1, .int M.2.2.2.2.2.2.2.2.2.2.2.2.2.2.2.2.2.2])), (qs.1, .inl (cI, 9592, .inl (M.2.1))), (qs.2.1, .inl (cZ, 2000001, .inl (M.2.2.1))), (qs.2.2.1, .inl (cJ, 5000, .inr (.inl (M.2.2.2.2.2.2.1)))), (qs.2.2.2.1, .inl (cJ, 5000, .inr (.inl (M.2.2.2.2.2.2.2.1)))), (qs.2.2.2.2.1, .inl (cZ, 5000, .inl (M.2.2.2.2.2.2.2.2.1))), (qs.2.2.2.2.2.1, .inl (cJ, 16, .inr (.inl (M.2.2.2.2.2.2.2.2.2.2.2.2.1)))), (qs.2.2.2.2.2.2.1, .inl (cI, 16, .inl (M.2.2.2.2.2.2.2.2.2.2.2.2.2.1))), (qs.2.2.2.2.2.2.2, .inl (cJ, 9616, .inr (.inl (M.2.2.2.2.2.2.2.2.2.2.2.2.2.2.2.1))))] H.size q → (fun q : Nat => s.heap.size ≤ q) q := F_right hD hS hA
  have b3 := cc__le (xc_ X2)
  have b4 := cs__le (xc_ X2)
  refine va_calli (va_runV (As := [.int (xs (i + (1 : Int32)).toNatClampNeg), .int (xs (i + (2 : Int32)).toNatClampNeg)]) (rest := [.int r]) ⟨hx, hb, hml, hown, hts⟩ (c_X9_product l dC dI cI cJ cZ _ h1 M.1 M.2.1 qs.1 M.2.2.1 qs.2.1 M.2.2.2.1 M.2.2.2.2.1 M.2.2.2.2.2.1 M.2.2.2.2.2.2.1 qs.2.2.1 M.2.2.2.2.2.2.2.1 qs.2.2.2.1 M.2.2.2.2.2.2.2.2.1 qs.2.2.2.2.1 M.2.2.2.2.2.2.2.2.2.1 M.2.2.2.2.2.2.2.2.2.2.1 M.2.2.2.2.2.2.2.2.2.2.2.1 M.2.2.2.2.2.2.2.2.2.2.2.2.1 qs.2.2.2.2.2.1 M.2.2.2.2.2.2.2.2.2.2.2.2.2.1 qs.2.2.2.2.2.2.1 M.2.2.2.2.2.2.2.2.2.2.2.2.2.2.1 M.2.2.2.2.2.2.2.2.2.2.2.2.2.2.2.1 qs.2.2.2.2.2.2.2 M.2.2.2.2.2.2.2.2.2.2.2.2.2.2.2.2.1 M.2.2.2.2.2.2.2.2.2.2.2.2.2.2.2.2.2.1 M.2.2.2.2.2.2.2.2.2.2.2.2.2.2.2.2.2.2 (xs (i + (1 : Int32)).toNatClampNeg) (xs (i + (2 : Int32)).toNatClampNeg) _ h) (cwV 2 hts gL_law_X9_product rfl rfl rfl (by decide +kernel) ⟨Nat.le_of_ble_eq_true rfl, Nat.le_of_ble_eq_true rfl⟩) ⟨pre_fb, va_recv hK hPm (ci := 8) (q0 := 0) rfl rfl, pre_of hPm hDm hK hN⟩ rfl rfl hl.1 rfl (lv_room (Nat.le_of_ble_eq_true rfl)) dL_law_971 ⟨(by show _ ≤ 600000; omega), (by show _ ≤ 7302250; omega)⟩) hS (fun q _ h => hFm q h) hFm (fun r2 u t H1 locs ht hvm h hB hz1 hk1 hS => ?_)
  obtain ⟨o0, o1⟩ := u
  obtain ⟨hP1, hD1⟩ := hB
  rw [ht] at hP1
  obtain ⟨hP, hD⟩ := frame2r (wr := xcells cI cJ cZ h0 X2) (wc := mcells cI cJ cZ h1 qs M) (w1 := mcells cI cJ cZ h1 qs (M.1, M.2.1, M.2.2.1, M.2.2.2.1, M.2.2.2.2.1, M.2.2.2.2.2.1, M.2.2.2.2.2.2.1, M.2.2.2.2.2.2.2.1, M.2.2.2.2.2.2.2.2.1, M.2.2.2.2.2.2.2.2.2.1, M.2.2.2.2.2.2.2.2.2.2.1, M.2.2.2.2.2.2.2.2.2.2.2.1, M.2.2.2.2.2.2.2.2.2.2.2.2.1, M.2.2.2.2.2.2.2.2.2.2.2.2.2.1, o0, o1, M.2.2.2.2.2.2.2.2.2.2.2.2.2.2.2.2.1, M.2.2.2.2.2.2.2.2.2.2.2.2.2.2.2.2.2.1, M.2.2.2.2.2.2.2.2.2.2.2.2.2.2.2.2.2.2)) hP hD hk1 hFm hP1 hD1
  generalize H1 = H at hP hS ⊢
  obtain ⟨hre, hI⟩ := h
  refine lv_icmp_eq (tgt := 1181) hx hb dL_law_974 (by decide) (fun c9 => ?_) (fun c9 => absurd hre c9)
  refine W.widen (k := 10 + cc_ (xc_ X2)) (n := 2034266 + cs_ (xc_ X2)) (by omega) (by omega) ?_
  exact hnx X2 (M.1, M.2.1, M.2.2.1, M.2.2.2.1, M.2.2.2.2.1, M.2.2.2.2.2.1, M.2.2.2.2.2.2.1, M.2.2.2.2.2.2.2.1, M.2.2.2.2.2.2.2.2.1, M.2.2.2.2.2.2.2.2.2.1, M.2.2.2.2.2.2.2.2.2.2.1, M.2.2.2.2.2.2.2.2.2.2.2.1, M.2.2.2.2.2.2.2.2.2.2.2.2.1, M.2.2.2.2.2.2.2.2.2.2.2.2.2.1, o0, o1, M.2.2.2.2.2.2.2.2.2.2.2.2.2.2.2.2.1, M.2.2.2.2.2.2.2.2.2.2.2.2.2.2.2.2.2.1, M.2.2.2.2.2.2.2.2.2.2.2.2.2.2.2.2.2.2) hI H locs hP hD hS ls hl
set_option maxHeartbeats 4000000 in
set_option maxRecDepth 100000 in
theorem lcase_turned {p : Program} {l : Launch} {e : Env} {s : State} {m : MethodId} {below : List Frame} {meth : Method} {c : Code} {dC : Nat → ClassId} {dI : Nat → Nat → Nat} {cI cJ cZ : ClassId} {b h0 h1 : Nat} {qs : AM_} {Inv : XC_ → MC_ → Prop} {L : Nat} {xs : Nat → Int32} (C0 : lw_At p s m meth c b L xs) (hK : va_K (dC, dI) vwCl (tys_ cI cJ cZ) s) (hN : nw_ s) {i : Int32} (hi1 : vp_in (i + (1 : Int32)) L) (hi2 : vp_in (i + (2 : Int32)) L) (hi3 : vp_in (i + (3 : Int32)) L) (hi4 : vp_in (i + (4 : Int32)) L) (hst : st_turned Inv) (hnx : law_at p l e s m below meth c dC dI cI cJ cZ b h0 h1 qs Inv 1181 i) : law_at p l e s m below meth c dC dI cI cJ cZ b h0 h1 qs Inv 979 i := by
  obtain ⟨hx, hb, hr, hml, hown, hts, hX, hbl, hlocks, hgv⟩ := C0
  replace hts := fun w h => hts w (wsL_law_in w h)
  have hA : ∀ q : Nat, s.heap.size ≤ q → (fun q : Nat => s.heap.size ≤ q) q := fun _ h => h
  have hbA : ¬ (fun q : Nat => s.heap.size ≤ q) b := Nat.not_le.mpr hbl
  have hown : s.vm.findClass RL = some m.cls := hown
  intro X M hI H locs hP hD hS ls hl
  refine lv_aload_n hx hb dL_law_979 rfl (lv_at hl 1 rfl) ?_
  refine lv_aload_n hx hb dL_law_980 rfl (lv_at hl 0 rfl) ?_
  refine lv_iload_n hx hb dL_law_981 rfl (lv_at hl 3 rfl) ?_
  refine lv_iconst (v := (1 : Int32)) hx hb dL_law_982 (by decide) ?_
  refine lv_iadd hx hb dL_law_983 ?_
  refine va_sld hx hb hX hbl hbA hS hi1 dL_law_984 ?_
  obtain ⟨mc, ms, hmc, hms, h⟩ := hst (xc_ X) M (xs (i + (1 : Int32)).toNatClampNeg) hI
  have hPx := P_left hP
  have hDx := D_left hD
  have hFx := F_left hD hS hA
  have b1 := cc__le (xc_ X)
  have b2 := cs__le (xc_ X)
  refine va_calli (va_runV (As := [.int (xs (i + (1 : Int32)).toNatClampNeg)]) (rest := []) ⟨hx, hb, hml, hown, hts⟩ (cx_turned l dC dI cI cJ cZ _ h0 mc ms X (xs (i + (1 : Int32)).toNatClampNeg) _ h) (cwV 1 hts gL_law_X8_turned rfl rfl rfl (by decide +kernel) ⟨Nat.le_of_ble_eq_true rfl, Nat.le_of_ble_eq_true rfl⟩) ⟨pre_fb, va_recv hK hPx (ci := 7) (q0 := 0) rfl rfl, pre_of hPx hDx hK hN⟩ rfl rfl hl.1 rfl (lv_room (Nat.le_of_ble_eq_true rfl)) dL_law_985 ⟨(by show _ ≤ 600000; omega), (by show _ ≤ 7302250; omega)⟩) hS (fun q _ h => hFx q h) hFx (fun r X2 t H1 locs ht hvm h hB hz1 hk1 hS => ?_)
  obtain ⟨hP1, hD1⟩ := hB
  rw [ht] at hP1
  obtain ⟨hP, hD⟩ := frame2 hP hD hk1 hFx hP1 hD1
  generalize H1 = H at hP hS ⊢
  obtain ⟨hc1, hc2, h⟩ := h
  refine W.widen (k := 10 + cc_ (xc_ X2)) (n := 2034266 + cs_ (xc_ X2)) (by omega) (by omega) ?_
  refine lv_aload_n hx hb dL_law_988 rfl (lv_at hl 2 rfl) ?_
  refine lv_aload_n hx hb dL_law_989 rfl (lv_at hl 0 rfl) ?_
  refine lv_iload_n hx hb dL_law_990 rfl (lv_at hl 3 rfl) ?_
  refine lv_iconst (v := (1 : Int32)) hx hb dL_law_991 (by decide) ?_
  refine lv_iadd hx hb dL_law_992 ?_
  refine va_sld hx hb hX hbl hbA hS hi1 dL_law_993 ?_
  have hPm : va_P (dC, dI) vwCl [(h1, .inr (8, [.int M.1, .ref qs.1, .ref qs.2.1, .int M.2.2.2.1, .long M.2.2.2.2.1, .int M.2.2.2.2.2.1, .ref qs.2.2.1, .ref qs.2.2.2.1, .ref qs.2.2.2.2.1, .int M.2.2.2.2.2.2.2.2.2.1, .long M.2.2.2.2.2.2.2.2.2.2.1, .int M.2.2.2.2.2.2.2.2.2.2.2.1, .ref qs.2.2.2.2.2.1, .ref qs.2.2.2.2.2.2.1, .int M.2.2.2.2.2.2.2.2.2.2.2.2.2.2.1, .ref qs.2.2.2.2.2.2.2, .long M.2.2.2.2.2.2.2.2.2.2.2.2.2.2.2.2.1, .long M.2.2.2.2.2.2.2.2.2.2.2.2.2.2.2.2.2.1, .int M.2.2.2.2.2.2.2.2.2.2.2.2.2.2.2.2.2.2])), (qs.1, .inl (cI, 9592, .inl (M.2.1))), (qs.2.1, .inl (cZ, 2000001, .inl (M.2.2.1))), (qs.2.2.1, .inl (cJ, 5000, .inr (.inl (M.2.2.2.2.2.2.1)))), (qs.2.2.2.1, .inl (cJ, 5000, .inr (.inl (M.2.2.2.2.2.2.2.1)))), (qs.2.2.2.2.1, .inl (cZ, 5000, .inl (M.2.2.2.2.2.2.2.2.1))), (qs.2.2.2.2.2.1, .inl (cJ, 16, .inr (.inl (M.2.2.2.2.2.2.2.2.2.2.2.2.1)))), (qs.2.2.2.2.2.2.1, .inl (cI, 16, .inl (M.2.2.2.2.2.2.2.2.2.2.2.2.2.1))), (qs.2.2.2.2.2.2.2, .inl (cJ, 9616, .inr (.inl (M.2.2.2.2.2.2.2.2.2.2.2.2.2.2.2.1))))] H := P_right hP
  have hDm : va_D (fun q : Nat => s.heap.size ≤ q) [(h1, .inr (8, [.int M.1, .ref qs.1, .ref qs.2.1, .int M.2.2.2.1, .long M.2.2.2.2.1, .int M.2.2.2.2.2.1, .ref qs.2.2.1, .ref qs.2.2.2.1, .ref qs.2.2.2.2.1, .int M.2.2.2.2.2.2.2.2.2.1, .long M.2.2.2.2.2.2.2.2.2.2.1, .int M.2.2.2.2.2.2.2.2.2.2.2.1, .ref qs.2.2.2.2.2.1, .ref qs.2.2.2.2.2.2.1, .int M.2.2.2.2.2.2.2.2.2.2.2.2.2.2.1, .ref qs.2.2.2.2.2.2.2, .long M.2.2.2.2.2.2.2.2.2.2.2.2.2.2.2.2.1, .long M.2.2.2.2.2.2.2.2.2.2.2.2.2.2.2.2.2.1, .int M.2.2.2.2.2.2.2.2.2.2.2.2.2.2.2.2.2.2])), (qs.1, .inl (cI, 9592, .inl (M.2.1))), (qs.2.1, .inl (cZ, 2000001, .inl (M.2.2.1))), (qs.2.2.1, .inl (cJ, 5000, .inr (.inl (M.2.2.2.2.2.2.1)))), (qs.2.2.2.1, .inl (cJ, 5000, .inr (.inl (M.2.2.2.2.2.2.2.1)))), (qs.2.2.2.2.1, .inl (cZ, 5000, .inl (M.2.2.2.2.2.2.2.2.1))), (qs.2.2.2.2.2.1, .inl (cJ, 16, .inr (.inl (M.2.2.2.2.2.2.2.2.2.2.2.2.1)))), (qs.2.2.2.2.2.2.1, .inl (cI, 16, .inl (M.2.2.2.2.2.2.2.2.2.2.2.2.2.1))), (qs.2.2.2.2.2.2.2, .inl (cJ, 9616, .inr (.inl (M.2.2.2.2.2.2.2.2.2.2.2.2.2.2.2.1))))] := D_right hD
  have hFm : ∀ q, va_A [(h1, .inr (8, [.int M.1, .ref qs.1, .ref qs.2.1, .int M.2.2.2.1, .long M.2.2.2.2.1, .int M.2.2.2.2.2.1, .ref qs.2.2.1, .ref qs.2.2.2.1, .ref qs.2.2.2.2.1, .int M.2.2.2.2.2.2.2.2.2.1, .long M.2.2.2.2.2.2.2.2.2.2.1, .int M.2.2.2.2.2.2.2.2.2.2.2.1, .ref qs.2.2.2.2.2.1, .ref qs.2.2.2.2.2.2.1, .int M.2.2.2.2.2.2.2.2.2.2.2.2.2.2.1, .ref qs.2.2.2.2.2.2.2, .long M.2.2.2.2.2.2.2.2.2.2.2.2.2.2.2.2.1, .long M.2.2.2.2.2.2.2.2.2.2.2.2.2.2.2.2.2.1, .int M.2.2.2.2.2.2.2.2.2.2.2.2.2.2.2.2.2.2])), (qs.1, .inl (cI, 9592, .inl (M.2.1))), (qs.2.1, .inl (cZ, 2000001, .inl (M.2.2.1))), (qs.2.2.1, .inl (cJ, 5000, .inr (.inl (M.2.2.2.2.2.2.1)))), (qs.2.2.2.1, .inl (cJ, 5000, .inr (.inl (M.2.2.2.2.2.2.2.1)))), (qs.2.2.2.2.1, .inl (cZ, 5000, .inl (M.2.2.2.2.2.2.2.2.1))), (qs.2.2.2.2.2.1, .inl (cJ, 16, .inr (.inl (M.2.2.2.2.2.2.2.2.2.2.2.2.1)))), (qs.2.2.2.2.2.2.1, .inl (cI, 16, .inl (M.2.2.2.2.2.2.2.2.2.2.2.2.2.1))), (qs.2.2.2.2.2.2.2, .inl (cJ, 9616, .inr (.inl (M.2.2.2.2.2.2.2.2.2.2.2.2.2.2.2.1))))] H.size q → (fun q : Nat => s.heap.size ≤ q) q := F_right hD hS hA
  have b3 := cc__le (xc_ X2)
  have b4 := cs__le (xc_ X2)
  refine va_calli (va_runV (As := [.int (xs (i + (1 : Int32)).toNatClampNeg)]) (rest := [.int r]) ⟨hx, hb, hml, hown, hts⟩ (c_X9_turned l dC dI cI cJ cZ _ h1 M.1 M.2.1 qs.1 M.2.2.1 qs.2.1 M.2.2.2.1 M.2.2.2.2.1 M.2.2.2.2.2.1 M.2.2.2.2.2.2.1 qs.2.2.1 M.2.2.2.2.2.2.2.1 qs.2.2.2.1 M.2.2.2.2.2.2.2.2.1 qs.2.2.2.2.1 M.2.2.2.2.2.2.2.2.2.1 M.2.2.2.2.2.2.2.2.2.2.1 M.2.2.2.2.2.2.2.2.2.2.2.1 M.2.2.2.2.2.2.2.2.2.2.2.2.1 qs.2.2.2.2.2.1 M.2.2.2.2.2.2.2.2.2.2.2.2.2.1 qs.2.2.2.2.2.2.1 M.2.2.2.2.2.2.2.2.2.2.2.2.2.2.1 M.2.2.2.2.2.2.2.2.2.2.2.2.2.2.2.1 qs.2.2.2.2.2.2.2 M.2.2.2.2.2.2.2.2.2.2.2.2.2.2.2.2.1 M.2.2.2.2.2.2.2.2.2.2.2.2.2.2.2.2.2.1 M.2.2.2.2.2.2.2.2.2.2.2.2.2.2.2.2.2.2 (xs (i + (1 : Int32)).toNatClampNeg) _ h) (cwV 1 hts gL_law_X9_turned rfl rfl rfl (by decide +kernel) ⟨Nat.le_of_ble_eq_true rfl, Nat.le_of_ble_eq_true rfl⟩) ⟨pre_fb, va_recv hK hPm (ci := 8) (q0 := 0) rfl rfl, pre_of hPm hDm hK hN⟩ rfl rfl hl.1 rfl (lv_room (Nat.le_of_ble_eq_true rfl)) dL_law_994 ⟨(by show _ ≤ 600000; omega), (by show _ ≤ 7302250; omega)⟩) hS (fun q _ h => hFm q h) hFm (fun r2 u t H1 locs ht hvm h hB hz1 hk1 hS => ?_)
  obtain ⟨o0, o1⟩ := u
  obtain ⟨hP1, hD1⟩ := hB
  rw [ht] at hP1
  obtain ⟨hP, hD⟩ := frame2r (wr := xcells cI cJ cZ h0 X2) (wc := mcells cI cJ cZ h1 qs M) (w1 := mcells cI cJ cZ h1 qs (M.1, M.2.1, M.2.2.1, M.2.2.2.1, M.2.2.2.2.1, M.2.2.2.2.2.1, M.2.2.2.2.2.2.1, M.2.2.2.2.2.2.2.1, M.2.2.2.2.2.2.2.2.1, M.2.2.2.2.2.2.2.2.2.1, M.2.2.2.2.2.2.2.2.2.2.1, M.2.2.2.2.2.2.2.2.2.2.2.1, M.2.2.2.2.2.2.2.2.2.2.2.2.1, M.2.2.2.2.2.2.2.2.2.2.2.2.2.1, o0, o1, M.2.2.2.2.2.2.2.2.2.2.2.2.2.2.2.2.1, M.2.2.2.2.2.2.2.2.2.2.2.2.2.2.2.2.2.1, M.2.2.2.2.2.2.2.2.2.2.2.2.2.2.2.2.2.2)) hP hD hk1 hFm hP1 hD1
  generalize H1 = H at hP hS ⊢
  obtain ⟨hre, hI⟩ := h
  refine lv_icmp_eq (tgt := 1181) hx hb dL_law_997 (by decide) (fun c9 => ?_) (fun c9 => absurd hre c9)
  refine W.widen (k := 10 + cc_ (xc_ X2)) (n := 2034266 + cs_ (xc_ X2)) (by omega) (by omega) ?_
  exact hnx X2 (M.1, M.2.1, M.2.2.1, M.2.2.2.1, M.2.2.2.2.1, M.2.2.2.2.2.1, M.2.2.2.2.2.2.1, M.2.2.2.2.2.2.2.1, M.2.2.2.2.2.2.2.2.1, M.2.2.2.2.2.2.2.2.2.1, M.2.2.2.2.2.2.2.2.2.2.1, M.2.2.2.2.2.2.2.2.2.2.2.1, M.2.2.2.2.2.2.2.2.2.2.2.2.1, M.2.2.2.2.2.2.2.2.2.2.2.2.2.1, o0, o1, M.2.2.2.2.2.2.2.2.2.2.2.2.2.2.2.2.1, M.2.2.2.2.2.2.2.2.2.2.2.2.2.2.2.2.2.1, M.2.2.2.2.2.2.2.2.2.2.2.2.2.2.2.2.2.2) hI H locs hP hD hS ls hl
set_option maxHeartbeats 4000000 in
set_option maxRecDepth 100000 in
theorem lcase_clear {p : Program} {l : Launch} {e : Env} {s : State} {m : MethodId} {below : List Frame} {meth : Method} {c : Code} {dC : Nat → ClassId} {dI : Nat → Nat → Nat} {cI cJ cZ : ClassId} {b h0 h1 : Nat} {qs : AM_} {Inv : XC_ → MC_ → Prop} {L : Nat} {xs : Nat → Int32} (C0 : lw_At p s m meth c b L xs) (hK : va_K (dC, dI) vwCl (tys_ cI cJ cZ) s) (hN : nw_ s) {i : Int32} (hi1 : vp_in (i + (1 : Int32)) L) (hi2 : vp_in (i + (2 : Int32)) L) (hi3 : vp_in (i + (3 : Int32)) L) (hi4 : vp_in (i + (4 : Int32)) L) (hst : st_clear Inv) (hnx : law_at p l e s m below meth c dC dI cI cJ cZ b h0 h1 qs Inv 1181 i) : law_at p l e s m below meth c dC dI cI cJ cZ b h0 h1 qs Inv 1002 i := by
  obtain ⟨hx, hb, hr, hml, hown, hts, hX, hbl, hlocks, hgv⟩ := C0
  replace hts := fun w h => hts w (wsL_law_in w h)
  have hA : ∀ q : Nat, s.heap.size ≤ q → (fun q : Nat => s.heap.size ≤ q) q := fun _ h => h
  have hbA : ¬ (fun q : Nat => s.heap.size ≤ q) b := Nat.not_le.mpr hbl
  have hown : s.vm.findClass RL = some m.cls := hown
  intro X M hI H locs hP hD hS ls hl
  refine lv_aload_n hx hb dL_law_1002 rfl (lv_at hl 1 rfl) ?_
  obtain ⟨mc, ms, hmc, hms, h⟩ := hst (xc_ X) M  hI
  have hPx := P_left hP
  have hDx := D_left hD
  have hFx := F_left hD hS hA
  have b1 := cc__le (xc_ X)
  have b2 := cs__le (xc_ X)
  refine va_callv (va_runV (As := []) (rest := []) ⟨hx, hb, hml, hown, hts⟩ (cx_clear l dC dI cI cJ cZ _ h0 mc ms X  _ h) (cwV 0 hts gL_law_X8_clear rfl rfl rfl (by decide +kernel) ⟨Nat.le_of_ble_eq_true rfl, Nat.le_of_ble_eq_true rfl⟩) ⟨pre_fb, va_recv hK hPx (ci := 7) (q0 := 0) rfl rfl, pre_of hPx hDx hK hN⟩ rfl rfl hl.1 rfl (lv_room (Nat.le_of_ble_eq_true rfl)) dL_law_1003 ⟨(by show _ ≤ 600000; omega), (by show _ ≤ 7302250; omega)⟩) hS (fun q _ h => hFx q h) hFx (fun X2 t H1 locs ht hvm h hB hz1 hk1 hS => ?_)
  obtain ⟨hP1, hD1⟩ := hB
  rw [ht] at hP1
  obtain ⟨hP, hD⟩ := frame2 hP hD hk1 hFx hP1 hD1
  generalize H1 = H at hP hS ⊢
  obtain ⟨hc1, hc2, h⟩ := h
  refine W.widen (k := 10 + cc_ (xc_ X2)) (n := 2034266 + cs_ (xc_ X2)) (by omega) (by omega) ?_
  refine lv_aload_n hx hb dL_law_1006 rfl (lv_at hl 2 rfl) ?_
  have hPm : va_P (dC, dI) vwCl [(h1, .inr (8, [.int M.1, .ref qs.1, .ref qs.2.1, .int M.2.2.2.1, .long M.2.2.2.2.1, .int M.2.2.2.2.2.1, .ref qs.2.2.1, .ref qs.2.2.2.1, .ref qs.2.2.2.2.1, .int M.2.2.2.2.2.2.2.2.2.1, .long M.2.2.2.2.2.2.2.2.2.2.1, .int M.2.2.2.2.2.2.2.2.2.2.2.1, .ref qs.2.2.2.2.2.1, .ref qs.2.2.2.2.2.2.1, .int M.2.2.2.2.2.2.2.2.2.2.2.2.2.2.1, .ref qs.2.2.2.2.2.2.2, .long M.2.2.2.2.2.2.2.2.2.2.2.2.2.2.2.2.1, .long M.2.2.2.2.2.2.2.2.2.2.2.2.2.2.2.2.2.1, .int M.2.2.2.2.2.2.2.2.2.2.2.2.2.2.2.2.2.2])), (qs.1, .inl (cI, 9592, .inl (M.2.1))), (qs.2.1, .inl (cZ, 2000001, .inl (M.2.2.1))), (qs.2.2.1, .inl (cJ, 5000, .inr (.inl (M.2.2.2.2.2.2.1)))), (qs.2.2.2.1, .inl (cJ, 5000, .inr (.inl (M.2.2.2.2.2.2.2.1)))), (qs.2.2.2.2.1, .inl (cZ, 5000, .inl (M.2.2.2.2.2.2.2.2.1))), (qs.2.2.2.2.2.1, .inl (cJ, 16, .inr (.inl (M.2.2.2.2.2.2.2.2.2.2.2.2.1)))), (qs.2.2.2.2.2.2.1, .inl (cI, 16, .inl (M.2.2.2.2.2.2.2.2.2.2.2.2.2.1))), (qs.2.2.2.2.2.2.2, .inl (cJ, 9616, .inr (.inl (M.2.2.2.2.2.2.2.2.2.2.2.2.2.2.2.1))))] H := P_right hP
  have hDm : va_D (fun q : Nat => s.heap.size ≤ q) [(h1, .inr (8, [.int M.1, .ref qs.1, .ref qs.2.1, .int M.2.2.2.1, .long M.2.2.2.2.1, .int M.2.2.2.2.2.1, .ref qs.2.2.1, .ref qs.2.2.2.1, .ref qs.2.2.2.2.1, .int M.2.2.2.2.2.2.2.2.2.1, .long M.2.2.2.2.2.2.2.2.2.2.1, .int M.2.2.2.2.2.2.2.2.2.2.2.1, .ref qs.2.2.2.2.2.1, .ref qs.2.2.2.2.2.2.1, .int M.2.2.2.2.2.2.2.2.2.2.2.2.2.2.1, .ref qs.2.2.2.2.2.2.2, .long M.2.2.2.2.2.2.2.2.2.2.2.2.2.2.2.2.1, .long M.2.2.2.2.2.2.2.2.2.2.2.2.2.2.2.2.2.1, .int M.2.2.2.2.2.2.2.2.2.2.2.2.2.2.2.2.2.2])), (qs.1, .inl (cI, 9592, .inl (M.2.1))), (qs.2.1, .inl (cZ, 2000001, .inl (M.2.2.1))), (qs.2.2.1, .inl (cJ, 5000, .inr (.inl (M.2.2.2.2.2.2.1)))), (qs.2.2.2.1, .inl (cJ, 5000, .inr (.inl (M.2.2.2.2.2.2.2.1)))), (qs.2.2.2.2.1, .inl (cZ, 5000, .inl (M.2.2.2.2.2.2.2.2.1))), (qs.2.2.2.2.2.1, .inl (cJ, 16, .inr (.inl (M.2.2.2.2.2.2.2.2.2.2.2.2.1)))), (qs.2.2.2.2.2.2.1, .inl (cI, 16, .inl (M.2.2.2.2.2.2.2.2.2.2.2.2.2.1))), (qs.2.2.2.2.2.2.2, .inl (cJ, 9616, .inr (.inl (M.2.2.2.2.2.2.2.2.2.2.2.2.2.2.2.1))))] := D_right hD
  have hFm : ∀ q, va_A [(h1, .inr (8, [.int M.1, .ref qs.1, .ref qs.2.1, .int M.2.2.2.1, .long M.2.2.2.2.1, .int M.2.2.2.2.2.1, .ref qs.2.2.1, .ref qs.2.2.2.1, .ref qs.2.2.2.2.1, .int M.2.2.2.2.2.2.2.2.2.1, .long M.2.2.2.2.2.2.2.2.2.2.1, .int M.2.2.2.2.2.2.2.2.2.2.2.1, .ref qs.2.2.2.2.2.1, .ref qs.2.2.2.2.2.2.1, .int M.2.2.2.2.2.2.2.2.2.2.2.2.2.2.1, .ref qs.2.2.2.2.2.2.2, .long M.2.2.2.2.2.2.2.2.2.2.2.2.2.2.2.2.1, .long M.2.2.2.2.2.2.2.2.2.2.2.2.2.2.2.2.2.1, .int M.2.2.2.2.2.2.2.2.2.2.2.2.2.2.2.2.2.2])), (qs.1, .inl (cI, 9592, .inl (M.2.1))), (qs.2.1, .inl (cZ, 2000001, .inl (M.2.2.1))), (qs.2.2.1, .inl (cJ, 5000, .inr (.inl (M.2.2.2.2.2.2.1)))), (qs.2.2.2.1, .inl (cJ, 5000, .inr (.inl (M.2.2.2.2.2.2.2.1)))), (qs.2.2.2.2.1, .inl (cZ, 5000, .inl (M.2.2.2.2.2.2.2.2.1))), (qs.2.2.2.2.2.1, .inl (cJ, 16, .inr (.inl (M.2.2.2.2.2.2.2.2.2.2.2.2.1)))), (qs.2.2.2.2.2.2.1, .inl (cI, 16, .inl (M.2.2.2.2.2.2.2.2.2.2.2.2.2.1))), (qs.2.2.2.2.2.2.2, .inl (cJ, 9616, .inr (.inl (M.2.2.2.2.2.2.2.2.2.2.2.2.2.2.2.1))))] H.size q → (fun q : Nat => s.heap.size ≤ q) q := F_right hD hS hA
  have b3 := cc__le (xc_ X2)
  have b4 := cs__le (xc_ X2)
  refine va_callv (va_runV (As := []) (rest := []) ⟨hx, hb, hml, hown, hts⟩ (c_X9_clear l dC dI cI cJ cZ _ h1 M.1 M.2.1 qs.1 M.2.2.1 qs.2.1 M.2.2.2.1 M.2.2.2.2.1 M.2.2.2.2.2.1 M.2.2.2.2.2.2.1 qs.2.2.1 M.2.2.2.2.2.2.2.1 qs.2.2.2.1 M.2.2.2.2.2.2.2.2.1 qs.2.2.2.2.1 M.2.2.2.2.2.2.2.2.2.1 M.2.2.2.2.2.2.2.2.2.2.1 M.2.2.2.2.2.2.2.2.2.2.2.1 M.2.2.2.2.2.2.2.2.2.2.2.2.1 qs.2.2.2.2.2.1 M.2.2.2.2.2.2.2.2.2.2.2.2.2.1 qs.2.2.2.2.2.2.1 M.2.2.2.2.2.2.2.2.2.2.2.2.2.2.1 M.2.2.2.2.2.2.2.2.2.2.2.2.2.2.2.1 qs.2.2.2.2.2.2.2 M.2.2.2.2.2.2.2.2.2.2.2.2.2.2.2.2.1 M.2.2.2.2.2.2.2.2.2.2.2.2.2.2.2.2.2.1 M.2.2.2.2.2.2.2.2.2.2.2.2.2.2.2.2.2.2  _ h) (cwV 0 hts gL_law_X9_clear rfl rfl rfl (by decide +kernel) ⟨Nat.le_of_ble_eq_true rfl, Nat.le_of_ble_eq_true rfl⟩) ⟨pre_fb, va_recv hK hPm (ci := 8) (q0 := 0) rfl rfl, pre_of hPm hDm hK hN⟩ rfl rfl hl.1 rfl (lv_room (Nat.le_of_ble_eq_true rfl)) dL_law_1007 ⟨(by show _ ≤ 600000; omega), (by show _ ≤ 7302250; omega)⟩) hS (fun q _ h => hFm q h) hFm (fun u t H1 locs ht hvm h hB hz1 hk1 hS => ?_)
  obtain ⟨o0, rfl⟩ : ∃ z, z = u := ⟨_, rfl⟩
  obtain ⟨hP1, hD1⟩ := hB
  rw [ht] at hP1
  obtain ⟨hP, hD⟩ := frame2r (wr := xcells cI cJ cZ h0 X2) (wc := mcells cI cJ cZ h1 qs M) (w1 := mcells cI cJ cZ h1 qs (M.1, M.2.1, M.2.2.1, M.2.2.2.1, M.2.2.2.2.1, M.2.2.2.2.2.1, M.2.2.2.2.2.2.1, M.2.2.2.2.2.2.2.1, M.2.2.2.2.2.2.2.2.1, M.2.2.2.2.2.2.2.2.2.1, M.2.2.2.2.2.2.2.2.2.2.1, M.2.2.2.2.2.2.2.2.2.2.2.1, M.2.2.2.2.2.2.2.2.2.2.2.2.1, M.2.2.2.2.2.2.2.2.2.2.2.2.2.1, o0, M.2.2.2.2.2.2.2.2.2.2.2.2.2.2.2.1, M.2.2.2.2.2.2.2.2.2.2.2.2.2.2.2.2.1, M.2.2.2.2.2.2.2.2.2.2.2.2.2.2.2.2.2.1, M.2.2.2.2.2.2.2.2.2.2.2.2.2.2.2.2.2.2)) hP hD hk1 hFm hP1 hD1
  generalize H1 = H at hP hS ⊢
  have hI := h
  refine lv_goto (tgt := 1181) hx hb dL_law_1010 (by decide) ?_
  refine W.widen (k := 10 + cc_ (xc_ X2)) (n := 2034266 + cs_ (xc_ X2)) (by omega) (by omega) ?_
  exact hnx X2 (M.1, M.2.1, M.2.2.1, M.2.2.2.1, M.2.2.2.2.1, M.2.2.2.2.2.1, M.2.2.2.2.2.2.1, M.2.2.2.2.2.2.2.1, M.2.2.2.2.2.2.2.2.1, M.2.2.2.2.2.2.2.2.2.1, M.2.2.2.2.2.2.2.2.2.2.1, M.2.2.2.2.2.2.2.2.2.2.2.1, M.2.2.2.2.2.2.2.2.2.2.2.2.1, M.2.2.2.2.2.2.2.2.2.2.2.2.2.1, o0, M.2.2.2.2.2.2.2.2.2.2.2.2.2.2.2.1, M.2.2.2.2.2.2.2.2.2.2.2.2.2.2.2.2.1, M.2.2.2.2.2.2.2.2.2.2.2.2.2.2.2.2.2.1, M.2.2.2.2.2.2.2.2.2.2.2.2.2.2.2.2.2.2) hI H locs hP hD hS ls hl
set_option maxHeartbeats 4000000 in
set_option maxRecDepth 100000 in
theorem lcase_at {p : Program} {l : Launch} {e : Env} {s : State} {m : MethodId} {below : List Frame} {meth : Method} {c : Code} {dC : Nat → ClassId} {dI : Nat → Nat → Nat} {cI cJ cZ : ClassId} {b h0 h1 : Nat} {qs : AM_} {Inv : XC_ → MC_ → Prop} {L : Nat} {xs : Nat → Int32} (C0 : lw_At p s m meth c b L xs) (hK : va_K (dC, dI) vwCl (tys_ cI cJ cZ) s) (hN : nw_ s) {i : Int32} (hi1 : vp_in (i + (1 : Int32)) L) (hi2 : vp_in (i + (2 : Int32)) L) (hi3 : vp_in (i + (3 : Int32)) L) (hi4 : vp_in (i + (4 : Int32)) L) (hst : st_at Inv) (hnx : law_at p l e s m below meth c dC dI cI cJ cZ b h0 h1 qs Inv 1181 i) : law_at p l e s m below meth c dC dI cI cJ cZ b h0 h1 qs Inv 1013 i := by
  obtain ⟨hx, hb, hr, hml, hown, hts, hX, hbl, hlocks, hgv⟩ := C0
  replace hts := fun w h => hts w (wsL_law_in w h)
  have hA : ∀ q : Nat, s.heap.size ≤ q → (fun q : Nat => s.heap.size ≤ q) q := fun _ h => h
  have hbA : ¬ (fun q : Nat => s.heap.size ≤ q) b := Nat.not_le.mpr hbl
  have hown : s.vm.findClass RL = some m.cls := hown
  intro X M hI H locs hP hD hS ls hl
  refine lv_aload_n hx hb dL_law_1013 rfl (lv_at hl 1 rfl) ?_
  refine lv_aload_n hx hb dL_law_1014 rfl (lv_at hl 0 rfl) ?_
  refine lv_iload_n hx hb dL_law_1015 rfl (lv_at hl 3 rfl) ?_
  refine lv_iconst (v := (1 : Int32)) hx hb dL_law_1016 (by decide) ?_
  refine lv_iadd hx hb dL_law_1017 ?_
  refine va_sld hx hb hX hbl hbA hS hi1 dL_law_1018 ?_
  refine lv_aload_n hx hb dL_law_1019 rfl (lv_at hl 0 rfl) ?_
  refine lv_iload_n hx hb dL_law_1020 rfl (lv_at hl 3 rfl) ?_
  refine lv_iconst (v := (2 : Int32)) hx hb dL_law_1021 (by decide) ?_
  refine lv_iadd hx hb dL_law_1022 ?_
  refine va_sld hx hb hX hbl hbA hS hi2 dL_law_1023 ?_
  obtain ⟨mc, ms, hmc, hms, h⟩ := hst (xc_ X) M (xs (i + (1 : Int32)).toNatClampNeg) (xs (i + (2 : Int32)).toNatClampNeg) hI
  have hPx := P_left hP
  have hDx := D_left hD
  have hFx := F_left hD hS hA
  have b1 := cc__le (xc_ X)
  have b2 := cs__le (xc_ X)
  refine va_calll (va_runV (As := [.int (xs (i + (1 : Int32)).toNatClampNeg), .int (xs (i + (2 : Int32)).toNatClampNeg)]) (rest := []) ⟨hx, hb, hml, hown, hts⟩ (cx_at l dC dI cI cJ cZ _ h0 mc ms X (xs (i + (1 : Int32)).toNatClampNeg) (xs (i + (2 : Int32)).toNatClampNeg) _ h) (cwV 2 hts gL_law_X8_at rfl rfl rfl (by decide +kernel) ⟨Nat.le_of_ble_eq_true rfl, Nat.le_of_ble_eq_true rfl⟩) ⟨pre_fb, va_recv hK hPx (ci := 7) (q0 := 0) rfl rfl, pre_of hPx hDx hK hN⟩ rfl rfl hl.1 rfl (lv_room (Nat.le_of_ble_eq_true rfl)) dL_law_1024 ⟨(by show _ ≤ 600000; omega), (by show _ ≤ 7302250; omega)⟩) hS (fun q _ h => hFx q h) hFx (fun r X2 t H1 locs ht hvm h hB hz1 hk1 hS => ?_)
  obtain ⟨hP1, hD1⟩ := hB
  rw [ht] at hP1
  obtain ⟨hP, hD⟩ := frame2 hP hD hk1 hFx hP1 hD1
  generalize H1 = H at hP hS ⊢
  obtain ⟨hc1, hc2, h⟩ := h
  refine W.widen (k := 10 + cc_ (xc_ X2)) (n := 2034266 + cs_ (xc_ X2)) (by omega) (by omega) ?_
  refine lv_aload_n hx hb dL_law_1027 rfl (lv_at hl 2 rfl) ?_
  refine lv_aload_n hx hb dL_law_1028 rfl (lv_at hl 0 rfl) ?_
  refine lv_iload_n hx hb dL_law_1029 rfl (lv_at hl 3 rfl) ?_
  refine lv_iconst (v := (1 : Int32)) hx hb dL_law_1030 (by decide) ?_
  refine lv_iadd hx hb dL_law_1031 ?_
  refine va_sld hx hb hX hbl hbA hS hi1 dL_law_1032 ?_
  refine lv_aload_n hx hb dL_law_1033 rfl (lv_at hl 0 rfl) ?_
  refine lv_iload_n hx hb dL_law_1034 rfl (lv_at hl 3 rfl) ?_
  refine lv_iconst (v := (2 : Int32)) hx hb dL_law_1035 (by decide) ?_
  refine lv_iadd hx hb dL_law_1036 ?_
  refine va_sld hx hb hX hbl hbA hS hi2 dL_law_1037 ?_
  have hPm : va_P (dC, dI) vwCl [(h1, .inr (8, [.int M.1, .ref qs.1, .ref qs.2.1, .int M.2.2.2.1, .long M.2.2.2.2.1, .int M.2.2.2.2.2.1, .ref qs.2.2.1, .ref qs.2.2.2.1, .ref qs.2.2.2.2.1, .int M.2.2.2.2.2.2.2.2.2.1, .long M.2.2.2.2.2.2.2.2.2.2.1, .int M.2.2.2.2.2.2.2.2.2.2.2.1, .ref qs.2.2.2.2.2.1, .ref qs.2.2.2.2.2.2.1, .int M.2.2.2.2.2.2.2.2.2.2.2.2.2.2.1, .ref qs.2.2.2.2.2.2.2, .long M.2.2.2.2.2.2.2.2.2.2.2.2.2.2.2.2.1, .long M.2.2.2.2.2.2.2.2.2.2.2.2.2.2.2.2.2.1, .int M.2.2.2.2.2.2.2.2.2.2.2.2.2.2.2.2.2.2])), (qs.1, .inl (cI, 9592, .inl (M.2.1))), (qs.2.1, .inl (cZ, 2000001, .inl (M.2.2.1))), (qs.2.2.1, .inl (cJ, 5000, .inr (.inl (M.2.2.2.2.2.2.1)))), (qs.2.2.2.1, .inl (cJ, 5000, .inr (.inl (M.2.2.2.2.2.2.2.1)))), (qs.2.2.2.2.1, .inl (cZ, 5000, .inl (M.2.2.2.2.2.2.2.2.1))), (qs.2.2.2.2.2.1, .inl (cJ, 16, .inr (.inl (M.2.2.2.2.2.2.2.2.2.2.2.2.1)))), (qs.2.2.2.2.2.2.1, .inl (cI, 16, .inl (M.2.2.2.2.2.2.2.2.2.2.2.2.2.1))), (qs.2.2.2.2.2.2.2, .inl (cJ, 9616, .inr (.inl (M.2.2.2.2.2.2.2.2.2.2.2.2.2.2.2.1))))] H := P_right hP
  have hDm : va_D (fun q : Nat => s.heap.size ≤ q) [(h1, .inr (8, [.int M.1, .ref qs.1, .ref qs.2.1, .int M.2.2.2.1, .long M.2.2.2.2.1, .int M.2.2.2.2.2.1, .ref qs.2.2.1, .ref qs.2.2.2.1, .ref qs.2.2.2.2.1, .int M.2.2.2.2.2.2.2.2.2.1, .long M.2.2.2.2.2.2.2.2.2.2.1, .int M.2.2.2.2.2.2.2.2.2.2.2.1, .ref qs.2.2.2.2.2.1, .ref qs.2.2.2.2.2.2.1, .int M.2.2.2.2.2.2.2.2.2.2.2.2.2.2.1, .ref qs.2.2.2.2.2.2.2, .long M.2.2.2.2.2.2.2.2.2.2.2.2.2.2.2.2.1, .long M.2.2.2.2.2.2.2.2.2.2.2.2.2.2.2.2.2.1, .int M.2.2.2.2.2.2.2.2.2.2.2.2.2.2.2.2.2.2])), (qs.1, .inl (cI, 9592, .inl (M.2.1))), (qs.2.1, .inl (cZ, 2000001, .inl (M.2.2.1))), (qs.2.2.1, .inl (cJ, 5000, .inr (.inl (M.2.2.2.2.2.2.1)))), (qs.2.2.2.1, .inl (cJ, 5000, .inr (.inl (M.2.2.2.2.2.2.2.1)))), (qs.2.2.2.2.1, .inl (cZ, 5000, .inl (M.2.2.2.2.2.2.2.2.1))), (qs.2.2.2.2.2.1, .inl (cJ, 16, .inr (.inl (M.2.2.2.2.2.2.2.2.2.2.2.2.1)))), (qs.2.2.2.2.2.2.1, .inl (cI, 16, .inl (M.2.2.2.2.2.2.2.2.2.2.2.2.2.1))), (qs.2.2.2.2.2.2.2, .inl (cJ, 9616, .inr (.inl (M.2.2.2.2.2.2.2.2.2.2.2.2.2.2.2.1))))] := D_right hD
  have hFm : ∀ q, va_A [(h1, .inr (8, [.int M.1, .ref qs.1, .ref qs.2.1, .int M.2.2.2.1, .long M.2.2.2.2.1, .int M.2.2.2.2.2.1, .ref qs.2.2.1, .ref qs.2.2.2.1, .ref qs.2.2.2.2.1, .int M.2.2.2.2.2.2.2.2.2.1, .long M.2.2.2.2.2.2.2.2.2.2.1, .int M.2.2.2.2.2.2.2.2.2.2.2.1, .ref qs.2.2.2.2.2.1, .ref qs.2.2.2.2.2.2.1, .int M.2.2.2.2.2.2.2.2.2.2.2.2.2.2.1, .ref qs.2.2.2.2.2.2.2, .long M.2.2.2.2.2.2.2.2.2.2.2.2.2.2.2.2.1, .long M.2.2.2.2.2.2.2.2.2.2.2.2.2.2.2.2.2.1, .int M.2.2.2.2.2.2.2.2.2.2.2.2.2.2.2.2.2.2])), (qs.1, .inl (cI, 9592, .inl (M.2.1))), (qs.2.1, .inl (cZ, 2000001, .inl (M.2.2.1))), (qs.2.2.1, .inl (cJ, 5000, .inr (.inl (M.2.2.2.2.2.2.1)))), (qs.2.2.2.1, .inl (cJ, 5000, .inr (.inl (M.2.2.2.2.2.2.2.1)))), (qs.2.2.2.2.1, .inl (cZ, 5000, .inl (M.2.2.2.2.2.2.2.2.1))), (qs.2.2.2.2.2.1, .inl (cJ, 16, .inr (.inl (M.2.2.2.2.2.2.2.2.2.2.2.2.1)))), (qs.2.2.2.2.2.2.1, .inl (cI, 16, .inl (M.2.2.2.2.2.2.2.2.2.2.2.2.2.1))), (qs.2.2.2.2.2.2.2, .inl (cJ, 9616, .inr (.inl (M.2.2.2.2.2.2.2.2.2.2.2.2.2.2.2.1))))] H.size q → (fun q : Nat => s.heap.size ≤ q) q := F_right hD hS hA
  have b3 := cc__le (xc_ X2)
  have b4 := cs__le (xc_ X2)
  refine va_calll (va_runV (As := [.int (xs (i + (1 : Int32)).toNatClampNeg), .int (xs (i + (2 : Int32)).toNatClampNeg)]) (rest := [.long r]) ⟨hx, hb, hml, hown, hts⟩ (c_X9_at l dC dI cI cJ cZ _ h1 M.1 M.2.1 qs.1 M.2.2.1 qs.2.1 M.2.2.2.1 M.2.2.2.2.1 M.2.2.2.2.2.1 M.2.2.2.2.2.2.1 qs.2.2.1 M.2.2.2.2.2.2.2.1 qs.2.2.2.1 M.2.2.2.2.2.2.2.2.1 qs.2.2.2.2.1 M.2.2.2.2.2.2.2.2.2.1 M.2.2.2.2.2.2.2.2.2.2.1 M.2.2.2.2.2.2.2.2.2.2.2.1 M.2.2.2.2.2.2.2.2.2.2.2.2.1 qs.2.2.2.2.2.1 M.2.2.2.2.2.2.2.2.2.2.2.2.2.1 qs.2.2.2.2.2.2.1 M.2.2.2.2.2.2.2.2.2.2.2.2.2.2.1 M.2.2.2.2.2.2.2.2.2.2.2.2.2.2.2.1 qs.2.2.2.2.2.2.2 M.2.2.2.2.2.2.2.2.2.2.2.2.2.2.2.2.1 M.2.2.2.2.2.2.2.2.2.2.2.2.2.2.2.2.2.1 M.2.2.2.2.2.2.2.2.2.2.2.2.2.2.2.2.2.2 (xs (i + (1 : Int32)).toNatClampNeg) (xs (i + (2 : Int32)).toNatClampNeg) _ h) (cwV 2 hts gL_law_X9_at rfl rfl rfl (by decide +kernel) ⟨Nat.le_of_ble_eq_true rfl, Nat.le_of_ble_eq_true rfl⟩) ⟨pre_fb, va_recv hK hPm (ci := 8) (q0 := 0) rfl rfl, pre_of hPm hDm hK hN⟩ rfl rfl hl.1 rfl (lv_room (Nat.le_of_ble_eq_true rfl)) dL_law_1038 ⟨(by show _ ≤ 600000; omega), (by show _ ≤ 7302250; omega)⟩) hS (fun q _ h => hFm q h) hFm (fun r2 u t H1 locs ht hvm h hB hz1 hk1 hS => ?_)
  obtain ⟨hP1, hD1⟩ := hB
  rw [ht] at hP1
  obtain ⟨hP, hD⟩ := frame2r (wr := xcells cI cJ cZ h0 X2) (wc := mcells cI cJ cZ h1 qs M) (w1 := mcells cI cJ cZ h1 qs (M.1, M.2.1, M.2.2.1, M.2.2.2.1, M.2.2.2.2.1, M.2.2.2.2.2.1, M.2.2.2.2.2.2.1, M.2.2.2.2.2.2.2.1, M.2.2.2.2.2.2.2.2.1, M.2.2.2.2.2.2.2.2.2.1, M.2.2.2.2.2.2.2.2.2.2.1, M.2.2.2.2.2.2.2.2.2.2.2.1, M.2.2.2.2.2.2.2.2.2.2.2.2.1, M.2.2.2.2.2.2.2.2.2.2.2.2.2.1, M.2.2.2.2.2.2.2.2.2.2.2.2.2.2.1, M.2.2.2.2.2.2.2.2.2.2.2.2.2.2.2.1, M.2.2.2.2.2.2.2.2.2.2.2.2.2.2.2.2.1, M.2.2.2.2.2.2.2.2.2.2.2.2.2.2.2.2.2.1, M.2.2.2.2.2.2.2.2.2.2.2.2.2.2.2.2.2.2)) hP hD hk1 hFm hP1 hD1
  generalize H1 = H at hP hS ⊢
  obtain ⟨hre, hI⟩ := h
  refine W.lcmp hx hb dL_law_1041 ?_
  refine lv_if_eq (tgt := 1181) hx hb dL_law_1042 (by decide) (fun c9 => ?_) (fun c9 => absurd hre (lc_neq c9))
  refine W.widen (k := 10 + cc_ (xc_ X2)) (n := 2034266 + cs_ (xc_ X2)) (by omega) (by omega) ?_
  exact hnx X2 (M.1, M.2.1, M.2.2.1, M.2.2.2.1, M.2.2.2.2.1, M.2.2.2.2.2.1, M.2.2.2.2.2.2.1, M.2.2.2.2.2.2.2.1, M.2.2.2.2.2.2.2.2.1, M.2.2.2.2.2.2.2.2.2.1, M.2.2.2.2.2.2.2.2.2.2.1, M.2.2.2.2.2.2.2.2.2.2.2.1, M.2.2.2.2.2.2.2.2.2.2.2.2.1, M.2.2.2.2.2.2.2.2.2.2.2.2.2.1, M.2.2.2.2.2.2.2.2.2.2.2.2.2.2.1, M.2.2.2.2.2.2.2.2.2.2.2.2.2.2.2.1, M.2.2.2.2.2.2.2.2.2.2.2.2.2.2.2.2.1, M.2.2.2.2.2.2.2.2.2.2.2.2.2.2.2.2.2.1, M.2.2.2.2.2.2.2.2.2.2.2.2.2.2.2.2.2.2) hI H locs hP hD hS ls hl
set_option maxHeartbeats 4000000 in
set_option maxRecDepth 100000 in
theorem lcase_sumOf {p : Program} {l : Launch} {e : Env} {s : State} {m : MethodId} {below : List Frame} {meth : Method} {c : Code} {dC : Nat → ClassId} {dI : Nat → Nat → Nat} {cI cJ cZ : ClassId} {b h0 h1 : Nat} {qs : AM_} {Inv : XC_ → MC_ → Prop} {L : Nat} {xs : Nat → Int32} (C0 : lw_At p s m meth c b L xs) (hK : va_K (dC, dI) vwCl (tys_ cI cJ cZ) s) (hN : nw_ s) {i : Int32} (hi1 : vp_in (i + (1 : Int32)) L) (hi2 : vp_in (i + (2 : Int32)) L) (hi3 : vp_in (i + (3 : Int32)) L) (hi4 : vp_in (i + (4 : Int32)) L) (hst : st_sumOf Inv) (hnx : law_at p l e s m below meth c dC dI cI cJ cZ b h0 h1 qs Inv 1181 i) : law_at p l e s m below meth c dC dI cI cJ cZ b h0 h1 qs Inv 1047 i := by
  obtain ⟨hx, hb, hr, hml, hown, hts, hX, hbl, hlocks, hgv⟩ := C0
  replace hts := fun w h => hts w (wsL_law_in w h)
  have hA : ∀ q : Nat, s.heap.size ≤ q → (fun q : Nat => s.heap.size ≤ q) q := fun _ h => h
  have hbA : ¬ (fun q : Nat => s.heap.size ≤ q) b := Nat.not_le.mpr hbl
  have hown : s.vm.findClass RL = some m.cls := hown
  intro X M hI H locs hP hD hS ls hl
  refine lv_aload_n hx hb dL_law_1047 rfl (lv_at hl 1 rfl) ?_
  refine lv_aload_n hx hb dL_law_1048 rfl (lv_at hl 0 rfl) ?_
  refine lv_iload_n hx hb dL_law_1049 rfl (lv_at hl 3 rfl) ?_
  refine lv_iconst (v := (1 : Int32)) hx hb dL_law_1050 (by decide) ?_
  refine lv_iadd hx hb dL_law_1051 ?_
  refine va_sld hx hb hX hbl hbA hS hi1 dL_law_1052 ?_
  refine lv_aload_n hx hb dL_law_1053 rfl (lv_at hl 0 rfl) ?_
  refine lv_iload_n hx hb dL_law_1054 rfl (lv_at hl 3 rfl) ?_
  refine lv_iconst (v := (2 : Int32)) hx hb dL_law_1055 (by decide) ?_
  refine lv_iadd hx hb dL_law_1056 ?_
  refine va_sld hx hb hX hbl hbA hS hi2 dL_law_1057 ?_
  obtain ⟨mc, ms, hmc, hms, h⟩ := hst (xc_ X) M (xs (i + (1 : Int32)).toNatClampNeg) (xs (i + (2 : Int32)).toNatClampNeg) hI
  have hPx := P_left hP
  have hDx := D_left hD
  have hFx := F_left hD hS hA
  have b1 := cc__le (xc_ X)
  have b2 := cs__le (xc_ X)
  refine va_calll (va_runV (As := [.int (xs (i + (1 : Int32)).toNatClampNeg), .int (xs (i + (2 : Int32)).toNatClampNeg)]) (rest := []) ⟨hx, hb, hml, hown, hts⟩ (cx_sumOf l dC dI cI cJ cZ _ h0 mc ms X (xs (i + (1 : Int32)).toNatClampNeg) (xs (i + (2 : Int32)).toNatClampNeg) _ h) (cwV 2 hts gL_law_X8_sumOf rfl rfl rfl (by decide +kernel) ⟨Nat.le_of_ble_eq_true rfl, Nat.le_of_ble_eq_true rfl⟩) ⟨pre_fb, va_recv hK hPx (ci := 7) (q0 := 0) rfl rfl, pre_of hPx hDx hK hN⟩ rfl rfl hl.1 rfl (lv_room (Nat.le_of_ble_eq_true rfl)) dL_law_1058 ⟨(by show _ ≤ 600000; omega), (by show _ ≤ 7302250; omega)⟩) hS (fun q _ h => hFx q h) hFx (fun r X2 t H1 locs ht hvm h hB hz1 hk1 hS => ?_)
  obtain ⟨hP1, hD1⟩ := hB
  rw [ht] at hP1
  obtain ⟨hP, hD⟩ := frame2 hP hD hk1 hFx hP1 hD1
  generalize H1 = H at hP hS ⊢
  obtain ⟨hc1, hc2, h⟩ := h
  refine W.widen (k := 10 + cc_ (xc_ X2)) (n := 2034266 + cs_ (xc_ X2)) (by omega) (by omega) ?_
  refine lv_aload_n hx hb dL_law_1061 rfl (lv_at hl 2 rfl) ?_
  refine lv_aload_n hx hb dL_law_1062 rfl (lv_at hl 0 rfl) ?_
  refine lv_iload_n hx hb dL_law_1063 rfl (lv_at hl 3 rfl) ?_
  refine lv_iconst (v := (1 : Int32)) hx hb dL_law_1064 (by decide) ?_
  refine lv_iadd hx hb dL_law_1065 ?_
  refine va_sld hx hb hX hbl hbA hS hi1 dL_law_1066 ?_
  refine lv_aload_n hx hb dL_law_1067 rfl (lv_at hl 0 rfl) ?_
  refine lv_iload_n hx hb dL_law_1068 rfl (lv_at hl 3 rfl) ?_
  refine lv_iconst (v := (2 : Int32)) hx hb dL_law_1069 (by decide) ?_
  refine lv_iadd hx hb dL_law_1070 ?_
  refine va_sld hx hb hX hbl hbA hS hi2 dL_law_1071 ?_
  have hPm : va_P (dC, dI) vwCl [(h1, .inr (8, [.int M.1, .ref qs.1, .ref qs.2.1, .int M.2.2.2.1, .long M.2.2.2.2.1, .int M.2.2.2.2.2.1, .ref qs.2.2.1, .ref qs.2.2.2.1, .ref qs.2.2.2.2.1, .int M.2.2.2.2.2.2.2.2.2.1, .long M.2.2.2.2.2.2.2.2.2.2.1, .int M.2.2.2.2.2.2.2.2.2.2.2.1, .ref qs.2.2.2.2.2.1, .ref qs.2.2.2.2.2.2.1, .int M.2.2.2.2.2.2.2.2.2.2.2.2.2.2.1, .ref qs.2.2.2.2.2.2.2, .long M.2.2.2.2.2.2.2.2.2.2.2.2.2.2.2.2.1, .long M.2.2.2.2.2.2.2.2.2.2.2.2.2.2.2.2.2.1, .int M.2.2.2.2.2.2.2.2.2.2.2.2.2.2.2.2.2.2])), (qs.1, .inl (cI, 9592, .inl (M.2.1))), (qs.2.1, .inl (cZ, 2000001, .inl (M.2.2.1))), (qs.2.2.1, .inl (cJ, 5000, .inr (.inl (M.2.2.2.2.2.2.1)))), (qs.2.2.2.1, .inl (cJ, 5000, .inr (.inl (M.2.2.2.2.2.2.2.1)))), (qs.2.2.2.2.1, .inl (cZ, 5000, .inl (M.2.2.2.2.2.2.2.2.1))), (qs.2.2.2.2.2.1, .inl (cJ, 16, .inr (.inl (M.2.2.2.2.2.2.2.2.2.2.2.2.1)))), (qs.2.2.2.2.2.2.1, .inl (cI, 16, .inl (M.2.2.2.2.2.2.2.2.2.2.2.2.2.1))), (qs.2.2.2.2.2.2.2, .inl (cJ, 9616, .inr (.inl (M.2.2.2.2.2.2.2.2.2.2.2.2.2.2.2.1))))] H := P_right hP
  have hDm : va_D (fun q : Nat => s.heap.size ≤ q) [(h1, .inr (8, [.int M.1, .ref qs.1, .ref qs.2.1, .int M.2.2.2.1, .long M.2.2.2.2.1, .int M.2.2.2.2.2.1, .ref qs.2.2.1, .ref qs.2.2.2.1, .ref qs.2.2.2.2.1, .int M.2.2.2.2.2.2.2.2.2.1, .long M.2.2.2.2.2.2.2.2.2.2.1, .int M.2.2.2.2.2.2.2.2.2.2.2.1, .ref qs.2.2.2.2.2.1, .ref qs.2.2.2.2.2.2.1, .int M.2.2.2.2.2.2.2.2.2.2.2.2.2.2.1, .ref qs.2.2.2.2.2.2.2, .long M.2.2.2.2.2.2.2.2.2.2.2.2.2.2.2.2.1, .long M.2.2.2.2.2.2.2.2.2.2.2.2.2.2.2.2.2.1, .int M.2.2.2.2.2.2.2.2.2.2.2.2.2.2.2.2.2.2])), (qs.1, .inl (cI, 9592, .inl (M.2.1))), (qs.2.1, .inl (cZ, 2000001, .inl (M.2.2.1))), (qs.2.2.1, .inl (cJ, 5000, .inr (.inl (M.2.2.2.2.2.2.1)))), (qs.2.2.2.1, .inl (cJ, 5000, .inr (.inl (M.2.2.2.2.2.2.2.1)))), (qs.2.2.2.2.1, .inl (cZ, 5000, .inl (M.2.2.2.2.2.2.2.2.1))), (qs.2.2.2.2.2.1, .inl (cJ, 16, .inr (.inl (M.2.2.2.2.2.2.2.2.2.2.2.2.1)))), (qs.2.2.2.2.2.2.1, .inl (cI, 16, .inl (M.2.2.2.2.2.2.2.2.2.2.2.2.2.1))), (qs.2.2.2.2.2.2.2, .inl (cJ, 9616, .inr (.inl (M.2.2.2.2.2.2.2.2.2.2.2.2.2.2.2.1))))] := D_right hD
  have hFm : ∀ q, va_A [(h1, .inr (8, [.int M.1, .ref qs.1, .ref qs.2.1, .int M.2.2.2.1, .long M.2.2.2.2.1, .int M.2.2.2.2.2.1, .ref qs.2.2.1, .ref qs.2.2.2.1, .ref qs.2.2.2.2.1, .int M.2.2.2.2.2.2.2.2.2.1, .long M.2.2.2.2.2.2.2.2.2.2.1, .int M.2.2.2.2.2.2.2.2.2.2.2.1, .ref qs.2.2.2.2.2.1, .ref qs.2.2.2.2.2.2.1, .int M.2.2.2.2.2.2.2.2.2.2.2.2.2.2.1, .ref qs.2.2.2.2.2.2.2, .long M.2.2.2.2.2.2.2.2.2.2.2.2.2.2.2.2.1, .long M.2.2.2.2.2.2.2.2.2.2.2.2.2.2.2.2.2.1, .int M.2.2.2.2.2.2.2.2.2.2.2.2.2.2.2.2.2.2])), (qs.1, .inl (cI, 9592, .inl (M.2.1))), (qs.2.1, .inl (cZ, 2000001, .inl (M.2.2.1))), (qs.2.2.1, .inl (cJ, 5000, .inr (.inl (M.2.2.2.2.2.2.1)))), (qs.2.2.2.1, .inl (cJ, 5000, .inr (.inl (M.2.2.2.2.2.2.2.1)))), (qs.2.2.2.2.1, .inl (cZ, 5000, .inl (M.2.2.2.2.2.2.2.2.1))), (qs.2.2.2.2.2.1, .inl (cJ, 16, .inr (.inl (M.2.2.2.2.2.2.2.2.2.2.2.2.1)))), (qs.2.2.2.2.2.2.1, .inl (cI, 16, .inl (M.2.2.2.2.2.2.2.2.2.2.2.2.2.1))), (qs.2.2.2.2.2.2.2, .inl (cJ, 9616, .inr (.inl (M.2.2.2.2.2.2.2.2.2.2.2.2.2.2.2.1))))] H.size q → (fun q : Nat => s.heap.size ≤ q) q := F_right hD hS hA
  have b3 := cc__le (xc_ X2)
  have b4 := cs__le (xc_ X2)
  refine va_calll (va_runV (As := [.int (xs (i + (1 : Int32)).toNatClampNeg), .int (xs (i + (2 : Int32)).toNatClampNeg)]) (rest := [.long r]) ⟨hx, hb, hml, hown, hts⟩ (c_X9_sumOf l dC dI cI cJ cZ _ h1 M.1 M.2.1 qs.1 M.2.2.1 qs.2.1 M.2.2.2.1 M.2.2.2.2.1 M.2.2.2.2.2.1 M.2.2.2.2.2.2.1 qs.2.2.1 M.2.2.2.2.2.2.2.1 qs.2.2.2.1 M.2.2.2.2.2.2.2.2.1 qs.2.2.2.2.1 M.2.2.2.2.2.2.2.2.2.1 M.2.2.2.2.2.2.2.2.2.2.1 M.2.2.2.2.2.2.2.2.2.2.2.1 M.2.2.2.2.2.2.2.2.2.2.2.2.1 qs.2.2.2.2.2.1 M.2.2.2.2.2.2.2.2.2.2.2.2.2.1 qs.2.2.2.2.2.2.1 M.2.2.2.2.2.2.2.2.2.2.2.2.2.2.1 M.2.2.2.2.2.2.2.2.2.2.2.2.2.2.2.1 qs.2.2.2.2.2.2.2 M.2.2.2.2.2.2.2.2.2.2.2.2.2.2.2.2.1 M.2.2.2.2.2.2.2.2.2.2.2.2.2.2.2.2.2.1 M.2.2.2.2.2.2.2.2.2.2.2.2.2.2.2.2.2.2 (xs (i + (1 : Int32)).toNatClampNeg) (xs (i + (2 : Int32)).toNatClampNeg) _ h) (cwV 2 hts gL_law_X9_sumOf rfl rfl rfl (by decide +kernel) ⟨Nat.le_of_ble_eq_true rfl, Nat.le_of_ble_eq_true rfl⟩) ⟨pre_fb, va_recv hK hPm (ci := 8) (q0 := 0) rfl rfl, pre_of hPm hDm hK hN⟩ rfl rfl hl.1 rfl (lv_room (Nat.le_of_ble_eq_true rfl)) dL_law_1072 ⟨(by show _ ≤ 600000; omega), (by show _ ≤ 7302250; omega)⟩) hS (fun q _ h => hFm q h) hFm (fun r2 u t H1 locs ht hvm h hB hz1 hk1 hS => ?_)
  obtain ⟨hP1, hD1⟩ := hB
  rw [ht] at hP1
  obtain ⟨hP, hD⟩ := frame2r (wr := xcells cI cJ cZ h0 X2) (wc := mcells cI cJ cZ h1 qs M) (w1 := mcells cI cJ cZ h1 qs (M.1, M.2.1, M.2.2.1, M.2.2.2.1, M.2.2.2.2.1, M.2.2.2.2.2.1, M.2.2.2.2.2.2.1, M.2.2.2.2.2.2.2.1, M.2.2.2.2.2.2.2.2.1, M.2.2.2.2.2.2.2.2.2.1, M.2.2.2.2.2.2.2.2.2.2.1, M.2.2.2.2.2.2.2.2.2.2.2.1, M.2.2.2.2.2.2.2.2.2.2.2.2.1, M.2.2.2.2.2.2.2.2.2.2.2.2.2.1, M.2.2.2.2.2.2.2.2.2.2.2.2.2.2.1, M.2.2.2.2.2.2.2.2.2.2.2.2.2.2.2.1, M.2.2.2.2.2.2.2.2.2.2.2.2.2.2.2.2.1, M.2.2.2.2.2.2.2.2.2.2.2.2.2.2.2.2.2.1, M.2.2.2.2.2.2.2.2.2.2.2.2.2.2.2.2.2.2)) hP hD hk1 hFm hP1 hD1
  generalize H1 = H at hP hS ⊢
  obtain ⟨hre, hI⟩ := h
  refine W.lcmp hx hb dL_law_1075 ?_
  refine lv_if_eq (tgt := 1181) hx hb dL_law_1076 (by decide) (fun c9 => ?_) (fun c9 => absurd hre (lc_neq c9))
  refine W.widen (k := 10 + cc_ (xc_ X2)) (n := 2034266 + cs_ (xc_ X2)) (by omega) (by omega) ?_
  exact hnx X2 (M.1, M.2.1, M.2.2.1, M.2.2.2.1, M.2.2.2.2.1, M.2.2.2.2.2.1, M.2.2.2.2.2.2.1, M.2.2.2.2.2.2.2.1, M.2.2.2.2.2.2.2.2.1, M.2.2.2.2.2.2.2.2.2.1, M.2.2.2.2.2.2.2.2.2.2.1, M.2.2.2.2.2.2.2.2.2.2.2.1, M.2.2.2.2.2.2.2.2.2.2.2.2.1, M.2.2.2.2.2.2.2.2.2.2.2.2.2.1, M.2.2.2.2.2.2.2.2.2.2.2.2.2.2.1, M.2.2.2.2.2.2.2.2.2.2.2.2.2.2.2.1, M.2.2.2.2.2.2.2.2.2.2.2.2.2.2.2.2.1, M.2.2.2.2.2.2.2.2.2.2.2.2.2.2.2.2.2.1, M.2.2.2.2.2.2.2.2.2.2.2.2.2.2.2.2.2.2) hI H locs hP hD hS ls hl
set_option maxHeartbeats 4000000 in
set_option maxRecDepth 100000 in
theorem lcase_same {p : Program} {l : Launch} {e : Env} {s : State} {m : MethodId} {below : List Frame} {meth : Method} {c : Code} {dC : Nat → ClassId} {dI : Nat → Nat → Nat} {cI cJ cZ : ClassId} {b h0 h1 : Nat} {qs : AM_} {Inv : XC_ → MC_ → Prop} {L : Nat} {xs : Nat → Int32} (C0 : lw_At p s m meth c b L xs) (hK : va_K (dC, dI) vwCl (tys_ cI cJ cZ) s) (hN : nw_ s) {i : Int32} (hi1 : vp_in (i + (1 : Int32)) L) (hi2 : vp_in (i + (2 : Int32)) L) (hi3 : vp_in (i + (3 : Int32)) L) (hi4 : vp_in (i + (4 : Int32)) L) (hst : st_same Inv) (hnx : law_at p l e s m below meth c dC dI cI cJ cZ b h0 h1 qs Inv 1181 i) : law_at p l e s m below meth c dC dI cI cJ cZ b h0 h1 qs Inv 1081 i := by
  obtain ⟨hx, hb, hr, hml, hown, hts, hX, hbl, hlocks, hgv⟩ := C0
  replace hts := fun w h => hts w (wsL_law_in w h)
  have hA : ∀ q : Nat, s.heap.size ≤ q → (fun q : Nat => s.heap.size ≤ q) q := fun _ h => h
  have hbA : ¬ (fun q : Nat => s.heap.size ≤ q) b := Nat.not_le.mpr hbl
  have hown : s.vm.findClass RL = some m.cls := hown
  intro X M hI H locs hP hD hS ls hl
  refine lv_aload_n hx hb dL_law_1081 rfl (lv_at hl 1 rfl) ?_
  refine lv_aload_n hx hb dL_law_1082 rfl (lv_at hl 0 rfl) ?_
  refine lv_iload_n hx hb dL_law_1083 rfl (lv_at hl 3 rfl) ?_
  refine lv_iconst (v := (1 : Int32)) hx hb dL_law_1084 (by decide) ?_
  refine lv_iadd hx hb dL_law_1085 ?_
  refine va_sld hx hb hX hbl hbA hS hi1 dL_law_1086 ?_
  refine lv_aload_n hx hb dL_law_1087 rfl (lv_at hl 0 rfl) ?_
  refine lv_iload_n hx hb dL_law_1088 rfl (lv_at hl 3 rfl) ?_
  refine lv_iconst (v := (2 : Int32)) hx hb dL_law_1089 (by decide) ?_
  refine lv_iadd hx hb dL_law_1090 ?_
  refine va_sld hx hb hX hbl hbA hS hi2 dL_law_1091 ?_
  obtain ⟨mc, ms, hmc, hms, h⟩ := hst (xc_ X) M (xs (i + (1 : Int32)).toNatClampNeg) (xs (i + (2 : Int32)).toNatClampNeg) hI
  have hPx := P_left hP
  have hDx := D_left hD
  have hFx := F_left hD hS hA
  have b1 := cc__le (xc_ X)
  have b2 := cs__le (xc_ X)
  refine va_calli (va_runV (As := [.int (xs (i + (1 : Int32)).toNatClampNeg), .int (xs (i + (2 : Int32)).toNatClampNeg)]) (rest := []) ⟨hx, hb, hml, hown, hts⟩ (cx_same l dC dI cI cJ cZ _ h0 mc ms X (xs (i + (1 : Int32)).toNatClampNeg) (xs (i + (2 : Int32)).toNatClampNeg) _ h) (cwV 2 hts gL_law_X8_same rfl rfl rfl (by decide +kernel) ⟨Nat.le_of_ble_eq_true rfl, Nat.le_of_ble_eq_true rfl⟩) ⟨pre_fb, va_recv hK hPx (ci := 7) (q0 := 0) rfl rfl, pre_of hPx hDx hK hN⟩ rfl rfl hl.1 rfl (lv_room (Nat.le_of_ble_eq_true rfl)) dL_law_1092 ⟨(by show _ ≤ 600000; omega), (by show _ ≤ 7302250; omega)⟩) hS (fun q _ h => hFx q h) hFx (fun r X2 t H1 locs ht hvm h hB hz1 hk1 hS => ?_)
  obtain ⟨hP1, hD1⟩ := hB
  rw [ht] at hP1
  obtain ⟨hP, hD⟩ := frame2 hP hD hk1 hFx hP1 hD1
  generalize H1 = H at hP hS ⊢
  obtain ⟨hc1, hc2, h⟩ := h
  refine W.widen (k := 10 + cc_ (xc_ X2)) (n := 2034266 + cs_ (xc_ X2)) (by omega) (by omega) ?_
  refine lv_aload_n hx hb dL_law_1095 rfl (lv_at hl 2 rfl) ?_
  refine lv_aload_n hx hb dL_law_1096 rfl (lv_at hl 0 rfl) ?_
  refine lv_iload_n hx hb dL_law_1097 rfl (lv_at hl 3 rfl) ?_
  refine lv_iconst (v := (1 : Int32)) hx hb dL_law_1098 (by decide) ?_
  refine lv_iadd hx hb dL_law_1099 ?_
  refine va_sld hx hb hX hbl hbA hS hi1 dL_law_1100 ?_
  refine lv_aload_n hx hb dL_law_1101 rfl (lv_at hl 0 rfl) ?_
  refine lv_iload_n hx hb dL_law_1102 rfl (lv_at hl 3 rfl) ?_
  refine lv_iconst (v := (2 : Int32)) hx hb dL_law_1103 (by decide) ?_
  refine lv_iadd hx hb dL_law_1104 ?_
  refine va_sld hx hb hX hbl hbA hS hi2 dL_law_1105 ?_
  have hPm : va_P (dC, dI) vwCl [(h1, .inr (8, [.int M.1, .ref qs.1, .ref qs.2.1, .int M.2.2.2.1, .long M.2.2.2.2.1, .int M.2.2.2.2.2.1, .ref qs.2.2.1, .ref qs.2.2.2.1, .ref qs.2.2.2.2.1, .int M.2.2.2.2.2.2.2.2.2.1, .long M.2.2.2.2.2.2.2.2.2.2.1, .int M.2.2.2.2.2.2.2.2.2.2.2.1, .ref qs.2.2.2.2.2.1, .ref qs.2.2.2.2.2.2.1, .int M.2.2.2.2.2.2.2.2.2.2.2.2.2.2.1, .ref qs.2.2.2.2.2.2.2, .long M.2.2.2.2.2.2.2.2.2.2.2.2.2.2.2.2.1, .long M.2.2.2.2.2.2.2.2.2.2.2.2.2.2.2.2.2.1, .int M.2.2.2.2.2.2.2.2.2.2.2.2.2.2.2.2.2.2])), (qs.1, .inl (cI, 9592, .inl (M.2.1))), (qs.2.1, .inl (cZ, 2000001, .inl (M.2.2.1))), (qs.2.2.1, .inl (cJ, 5000, .inr (.inl (M.2.2.2.2.2.2.1)))), (qs.2.2.2.1, .inl (cJ, 5000, .inr (.inl (M.2.2.2.2.2.2.2.1)))), (qs.2.2.2.2.1, .inl (cZ, 5000, .inl (M.2.2.2.2.2.2.2.2.1))), (qs.2.2.2.2.2.1, .inl (cJ, 16, .inr (.inl (M.2.2.2.2.2.2.2.2.2.2.2.2.1)))), (qs.2.2.2.2.2.2.1, .inl (cI, 16, .inl (M.2.2.2.2.2.2.2.2.2.2.2.2.2.1))), (qs.2.2.2.2.2.2.2, .inl (cJ, 9616, .inr (.inl (M.2.2.2.2.2.2.2.2.2.2.2.2.2.2.2.1))))] H := P_right hP
  have hDm : va_D (fun q : Nat => s.heap.size ≤ q) [(h1, .inr (8, [.int M.1, .ref qs.1, .ref qs.2.1, .int M.2.2.2.1, .long M.2.2.2.2.1, .int M.2.2.2.2.2.1, .ref qs.2.2.1, .ref qs.2.2.2.1, .ref qs.2.2.2.2.1, .int M.2.2.2.2.2.2.2.2.2.1, .long M.2.2.2.2.2.2.2.2.2.2.1, .int M.2.2.2.2.2.2.2.2.2.2.2.1, .ref qs.2.2.2.2.2.1, .ref qs.2.2.2.2.2.2.1, .int M.2.2.2.2.2.2.2.2.2.2.2.2.2.2.1, .ref qs.2.2.2.2.2.2.2, .long M.2.2.2.2.2.2.2.2.2.2.2.2.2.2.2.2.1, .long M.2.2.2.2.2.2.2.2.2.2.2.2.2.2.2.2.2.1, .int M.2.2.2.2.2.2.2.2.2.2.2.2.2.2.2.2.2.2])), (qs.1, .inl (cI, 9592, .inl (M.2.1))), (qs.2.1, .inl (cZ, 2000001, .inl (M.2.2.1))), (qs.2.2.1, .inl (cJ, 5000, .inr (.inl (M.2.2.2.2.2.2.1)))), (qs.2.2.2.1, .inl (cJ, 5000, .inr (.inl (M.2.2.2.2.2.2.2.1)))), (qs.2.2.2.2.1, .inl (cZ, 5000, .inl (M.2.2.2.2.2.2.2.2.1))), (qs.2.2.2.2.2.1, .inl (cJ, 16, .inr (.inl (M.2.2.2.2.2.2.2.2.2.2.2.2.1)))), (qs.2.2.2.2.2.2.1, .inl (cI, 16, .inl (M.2.2.2.2.2.2.2.2.2.2.2.2.2.1))), (qs.2.2.2.2.2.2.2, .inl (cJ, 9616, .inr (.inl (M.2.2.2.2.2.2.2.2.2.2.2.2.2.2.2.1))))] := D_right hD
  have hFm : ∀ q, va_A [(h1, .inr (8, [.int M.1, .ref qs.1, .ref qs.2.1, .int M.2.2.2.1, .long M.2.2.2.2.1, .int M.2.2.2.2.2.1, .ref qs.2.2.1, .ref qs.2.2.2.1, .ref qs.2.2.2.2.1, .int M.2.2.2.2.2.2.2.2.2.1, .long M.2.2.2.2.2.2.2.2.2.2.1, .int M.2.2.2.2.2.2.2.2.2.2.2.1, .ref qs.2.2.2.2.2.1, .ref qs.2.2.2.2.2.2.1, .int M.2.2.2.2.2.2.2.2.2.2.2.2.2.2.1, .ref qs.2.2.2.2.2.2.2, .long M.2.2.2.2.2.2.2.2.2.2.2.2.2.2.2.2.1, .long M.2.2.2.2.2.2.2.2.2.2.2.2.2.2.2.2.2.1, .int M.2.2.2.2.2.2.2.2.2.2.2.2.2.2.2.2.2.2])), (qs.1, .inl (cI, 9592, .inl (M.2.1))), (qs.2.1, .inl (cZ, 2000001, .inl (M.2.2.1))), (qs.2.2.1, .inl (cJ, 5000, .inr (.inl (M.2.2.2.2.2.2.1)))), (qs.2.2.2.1, .inl (cJ, 5000, .inr (.inl (M.2.2.2.2.2.2.2.1)))), (qs.2.2.2.2.1, .inl (cZ, 5000, .inl (M.2.2.2.2.2.2.2.2.1))), (qs.2.2.2.2.2.1, .inl (cJ, 16, .inr (.inl (M.2.2.2.2.2.2.2.2.2.2.2.2.1)))), (qs.2.2.2.2.2.2.1, .inl (cI, 16, .inl (M.2.2.2.2.2.2.2.2.2.2.2.2.2.1))), (qs.2.2.2.2.2.2.2, .inl (cJ, 9616, .inr (.inl (M.2.2.2.2.2.2.2.2.2.2.2.2.2.2.2.1))))] H.size q → (fun q : Nat => s.heap.size ≤ q) q := F_right hD hS hA
  have b3 := cc__le (xc_ X2)
  have b4 := cs__le (xc_ X2)
  refine va_calli (va_runV (As := [.int (xs (i + (1 : Int32)).toNatClampNeg), .int (xs (i + (2 : Int32)).toNatClampNeg)]) (rest := [.int r]) ⟨hx, hb, hml, hown, hts⟩ (c_X9_same l dC dI cI cJ cZ _ h1 M.1 M.2.1 qs.1 M.2.2.1 qs.2.1 M.2.2.2.1 M.2.2.2.2.1 M.2.2.2.2.2.1 M.2.2.2.2.2.2.1 qs.2.2.1 M.2.2.2.2.2.2.2.1 qs.2.2.2.1 M.2.2.2.2.2.2.2.2.1 qs.2.2.2.2.1 M.2.2.2.2.2.2.2.2.2.1 M.2.2.2.2.2.2.2.2.2.2.1 M.2.2.2.2.2.2.2.2.2.2.2.1 M.2.2.2.2.2.2.2.2.2.2.2.2.1 qs.2.2.2.2.2.1 M.2.2.2.2.2.2.2.2.2.2.2.2.2.1 qs.2.2.2.2.2.2.1 M.2.2.2.2.2.2.2.2.2.2.2.2.2.2.1 M.2.2.2.2.2.2.2.2.2.2.2.2.2.2.2.1 qs.2.2.2.2.2.2.2 M.2.2.2.2.2.2.2.2.2.2.2.2.2.2.2.2.1 M.2.2.2.2.2.2.2.2.2.2.2.2.2.2.2.2.2.1 M.2.2.2.2.2.2.2.2.2.2.2.2.2.2.2.2.2.2 (xs (i + (1 : Int32)).toNatClampNeg) (xs (i + (2 : Int32)).toNatClampNeg) _ h) (cwV 2 hts gL_law_X9_same rfl rfl rfl (by decide +kernel) ⟨Nat.le_of_ble_eq_true rfl, Nat.le_of_ble_eq_true rfl⟩) ⟨pre_fb, va_recv hK hPm (ci := 8) (q0 := 0) rfl rfl, pre_of hPm hDm hK hN⟩ rfl rfl hl.1 rfl (lv_room (Nat.le_of_ble_eq_true rfl)) dL_law_1106 ⟨(by show _ ≤ 600000; omega), (by show _ ≤ 7302250; omega)⟩) hS (fun q _ h => hFm q h) hFm (fun r2 u t H1 locs ht hvm h hB hz1 hk1 hS => ?_)
  obtain ⟨hP1, hD1⟩ := hB
  rw [ht] at hP1
  obtain ⟨hP, hD⟩ := frame2r (wr := xcells cI cJ cZ h0 X2) (wc := mcells cI cJ cZ h1 qs M) (w1 := mcells cI cJ cZ h1 qs (M.1, M.2.1, M.2.2.1, M.2.2.2.1, M.2.2.2.2.1, M.2.2.2.2.2.1, M.2.2.2.2.2.2.1, M.2.2.2.2.2.2.2.1, M.2.2.2.2.2.2.2.2.1, M.2.2.2.2.2.2.2.2.2.1, M.2.2.2.2.2.2.2.2.2.2.1, M.2.2.2.2.2.2.2.2.2.2.2.1, M.2.2.2.2.2.2.2.2.2.2.2.2.1, M.2.2.2.2.2.2.2.2.2.2.2.2.2.1, M.2.2.2.2.2.2.2.2.2.2.2.2.2.2.1, M.2.2.2.2.2.2.2.2.2.2.2.2.2.2.2.1, M.2.2.2.2.2.2.2.2.2.2.2.2.2.2.2.2.1, M.2.2.2.2.2.2.2.2.2.2.2.2.2.2.2.2.2.1, M.2.2.2.2.2.2.2.2.2.2.2.2.2.2.2.2.2.2)) hP hD hk1 hFm hP1 hD1
  generalize H1 = H at hP hS ⊢
  obtain ⟨hre, hI⟩ := h
  refine lv_icmp_eq (tgt := 1181) hx hb dL_law_1109 (by decide) (fun c9 => ?_) (fun c9 => absurd hre c9)
  refine W.widen (k := 10 + cc_ (xc_ X2)) (n := 2034266 + cs_ (xc_ X2)) (by omega) (by omega) ?_
  exact hnx X2 (M.1, M.2.1, M.2.2.1, M.2.2.2.1, M.2.2.2.2.1, M.2.2.2.2.2.1, M.2.2.2.2.2.2.1, M.2.2.2.2.2.2.2.1, M.2.2.2.2.2.2.2.2.1, M.2.2.2.2.2.2.2.2.2.1, M.2.2.2.2.2.2.2.2.2.2.1, M.2.2.2.2.2.2.2.2.2.2.2.1, M.2.2.2.2.2.2.2.2.2.2.2.2.1, M.2.2.2.2.2.2.2.2.2.2.2.2.2.1, M.2.2.2.2.2.2.2.2.2.2.2.2.2.2.1, M.2.2.2.2.2.2.2.2.2.2.2.2.2.2.2.1, M.2.2.2.2.2.2.2.2.2.2.2.2.2.2.2.2.1, M.2.2.2.2.2.2.2.2.2.2.2.2.2.2.2.2.2.1, M.2.2.2.2.2.2.2.2.2.2.2.2.2.2.2.2.2.2) hI H locs hP hD hS ls hl
set_option maxHeartbeats 4000000 in
set_option maxRecDepth 100000 in
theorem lcase_far {p : Program} {l : Launch} {e : Env} {s : State} {m : MethodId} {below : List Frame} {meth : Method} {c : Code} {dC : Nat → ClassId} {dI : Nat → Nat → Nat} {cI cJ cZ : ClassId} {b h0 h1 : Nat} {qs : AM_} {Inv : XC_ → MC_ → Prop} {L : Nat} {xs : Nat → Int32} (C0 : lw_At p s m meth c b L xs) (hK : va_K (dC, dI) vwCl (tys_ cI cJ cZ) s) (hN : nw_ s) {i : Int32} (hi1 : vp_in (i + (1 : Int32)) L) (hi2 : vp_in (i + (2 : Int32)) L) (hi3 : vp_in (i + (3 : Int32)) L) (hi4 : vp_in (i + (4 : Int32)) L) (hst : st_far Inv) (hnx : law_at p l e s m below meth c dC dI cI cJ cZ b h0 h1 qs Inv 1181 i) : law_at p l e s m below meth c dC dI cI cJ cZ b h0 h1 qs Inv 1114 i := by
  obtain ⟨hx, hb, hr, hml, hown, hts, hX, hbl, hlocks, hgv⟩ := C0
  replace hts := fun w h => hts w (wsL_law_in w h)
  have hA : ∀ q : Nat, s.heap.size ≤ q → (fun q : Nat => s.heap.size ≤ q) q := fun _ h => h
  have hbA : ¬ (fun q : Nat => s.heap.size ≤ q) b := Nat.not_le.mpr hbl
  have hown : s.vm.findClass RL = some m.cls := hown
  intro X M hI H locs hP hD hS ls hl
  refine lv_aload_n hx hb dL_law_1114 rfl (lv_at hl 1 rfl) ?_
  refine lv_aload_n hx hb dL_law_1115 rfl (lv_at hl 0 rfl) ?_
  refine lv_iload_n hx hb dL_law_1116 rfl (lv_at hl 3 rfl) ?_
  refine lv_iconst (v := (1 : Int32)) hx hb dL_law_1117 (by decide) ?_
  refine lv_iadd hx hb dL_law_1118 ?_
  refine va_sld hx hb hX hbl hbA hS hi1 dL_law_1119 ?_
  refine lv_aload_n hx hb dL_law_1120 rfl (lv_at hl 0 rfl) ?_
  refine lv_iload_n hx hb dL_law_1121 rfl (lv_at hl 3 rfl) ?_
  refine lv_iconst (v := (2 : Int32)) hx hb dL_law_1122 (by decide) ?_
  refine lv_iadd hx hb dL_law_1123 ?_
  refine va_sld hx hb hX hbl hbA hS hi2 dL_law_1124 ?_
  refine lv_aload_n hx hb dL_law_1125 rfl (lv_at hl 0 rfl) ?_
  refine lv_iload_n hx hb dL_law_1126 rfl (lv_at hl 3 rfl) ?_
  refine lv_iconst (v := (3 : Int32)) hx hb dL_law_1127 (by decide) ?_
  refine lv_iadd hx hb dL_law_1128 ?_
  refine va_sld hx hb hX hbl hbA hS hi3 dL_law_1129 ?_
  obtain ⟨mc, ms, hmc, hms, h⟩ := hst (xc_ X) M (xs (i + (1 : Int32)).toNatClampNeg) (xs (i + (2 : Int32)).toNatClampNeg) (xs (i + (3 : Int32)).toNatClampNeg) hI
  have hPx := P_left hP
  have hDx := D_left hD
  have hFx := F_left hD hS hA
  have b1 := cc__le (xc_ X)
  have b2 := cs__le (xc_ X)
  refine va_calll (va_runV (As := [.int (xs (i + (1 : Int32)).toNatClampNeg), .int (xs (i + (2 : Int32)).toNatClampNeg), .int (xs (i + (3 : Int32)).toNatClampNeg)]) (rest := []) ⟨hx, hb, hml, hown, hts⟩ (cx_far l dC dI cI cJ cZ _ h0 mc ms X (xs (i + (1 : Int32)).toNatClampNeg) (xs (i + (2 : Int32)).toNatClampNeg) (xs (i + (3 : Int32)).toNatClampNeg) _ h) (cwV 3 hts gL_law_X8_far rfl rfl rfl (by decide +kernel) ⟨Nat.le_of_ble_eq_true rfl, Nat.le_of_ble_eq_true rfl⟩) ⟨pre_fb, va_recv hK hPx (ci := 7) (q0 := 0) rfl rfl, pre_of hPx hDx hK hN⟩ rfl rfl hl.1 rfl (lv_room (Nat.le_of_ble_eq_true rfl)) dL_law_1130 ⟨(by show _ ≤ 600000; omega), (by show _ ≤ 7302250; omega)⟩) hS (fun q _ h => hFx q h) hFx (fun r X2 t H1 locs ht hvm h hB hz1 hk1 hS => ?_)
  obtain ⟨hP1, hD1⟩ := hB
  rw [ht] at hP1
  obtain ⟨hP, hD⟩ := frame2 hP hD hk1 hFx hP1 hD1
  generalize H1 = H at hP hS ⊢
  obtain ⟨hc1, hc2, h⟩ := h
  refine W.widen (k := 10 + cc_ (xc_ X2)) (n := 2034266 + cs_ (xc_ X2)) (by omega) (by omega) ?_
  refine lv_aload_n hx hb dL_law_1133 rfl (lv_at hl 2 rfl) ?_
  refine lv_aload_n hx hb dL_law_1134 rfl (lv_at hl 0 rfl) ?_
  refine lv_iload_n hx hb dL_law_1135 rfl (lv_at hl 3 rfl) ?_
  refine lv_iconst (v := (1 : Int32)) hx hb dL_law_1136 (by decide) ?_
  refine lv_iadd hx hb dL_law_1137 ?_
  refine va_sld hx hb hX hbl hbA hS hi1 dL_law_1138 ?_
  refine lv_aload_n hx hb dL_law_1139 rfl (lv_at hl 0 rfl) ?_
  refine lv_iload_n hx hb dL_law_1140 rfl (lv_at hl 3 rfl) ?_
  refine lv_iconst (v := (2 : Int32)) hx hb dL_law_1141 (by decide) ?_
  refine lv_iadd hx hb dL_law_1142 ?_
  refine va_sld hx hb hX hbl hbA hS hi2 dL_law_1143 ?_
  refine lv_aload_n hx hb dL_law_1144 rfl (lv_at hl 0 rfl) ?_
  refine lv_iload_n hx hb dL_law_1145 rfl (lv_at hl 3 rfl) ?_
  refine lv_iconst (v := (3 : Int32)) hx hb dL_law_1146 (by decide) ?_
  refine lv_iadd hx hb dL_law_1147 ?_
  refine va_sld hx hb hX hbl hbA hS hi3 dL_law_1148 ?_
  have hPm : va_P (dC, dI) vwCl [(h1, .inr (8, [.int M.1, .ref qs.1, .ref qs.2.1, .int M.2.2.2.1, .long M.2.2.2.2.1, .int M.2.2.2.2.2.1, .ref qs.2.2.1, .ref qs.2.2.2.1, .ref qs.2.2.2.2.1, .int M.2.2.2.2.2.2.2.2.2.1, .long M.2.2.2.2.2.2.2.2.2.2.1, .int M.2.2.2.2.2.2.2.2.2.2.2.1, .ref qs.2.2.2.2.2.1, .ref qs.2.2.2.2.2.2.1, .int M.2.2.2.2.2.2.2.2.2.2.2.2.2.2.1, .ref qs.2.2.2.2.2.2.2, .long M.2.2.2.2.2.2.2.2.2.2.2.2.2.2.2.2.1, .long M.2.2.2.2.2.2.2.2.2.2.2.2.2.2.2.2.2.1, .int M.2.2.2.2.2.2.2.2.2.2.2.2.2.2.2.2.2.2])), (qs.1, .inl (cI, 9592, .inl (M.2.1))), (qs.2.1, .inl (cZ, 2000001, .inl (M.2.2.1))), (qs.2.2.1, .inl (cJ, 5000, .inr (.inl (M.2.2.2.2.2.2.1)))), (qs.2.2.2.1, .inl (cJ, 5000, .inr (.inl (M.2.2.2.2.2.2.2.1)))), (qs.2.2.2.2.1, .inl (cZ, 5000, .inl (M.2.2.2.2.2.2.2.2.1))), (qs.2.2.2.2.2.1, .inl (cJ, 16, .inr (.inl (M.2.2.2.2.2.2.2.2.2.2.2.2.1)))), (qs.2.2.2.2.2.2.1, .inl (cI, 16, .inl (M.2.2.2.2.2.2.2.2.2.2.2.2.2.1))), (qs.2.2.2.2.2.2.2, .inl (cJ, 9616, .inr (.inl (M.2.2.2.2.2.2.2.2.2.2.2.2.2.2.2.1))))] H := P_right hP
  have hDm : va_D (fun q : Nat => s.heap.size ≤ q) [(h1, .inr (8, [.int M.1, .ref qs.1, .ref qs.2.1, .int M.2.2.2.1, .long M.2.2.2.2.1, .int M.2.2.2.2.2.1, .ref qs.2.2.1, .ref qs.2.2.2.1, .ref qs.2.2.2.2.1, .int M.2.2.2.2.2.2.2.2.2.1, .long M.2.2.2.2.2.2.2.2.2.2.1, .int M.2.2.2.2.2.2.2.2.2.2.2.1, .ref qs.2.2.2.2.2.1, .ref qs.2.2.2.2.2.2.1, .int M.2.2.2.2.2.2.2.2.2.2.2.2.2.2.1, .ref qs.2.2.2.2.2.2.2, .long M.2.2.2.2.2.2.2.2.2.2.2.2.2.2.2.2.1, .long M.2.2.2.2.2.2.2.2.2.2.2.2.2.2.2.2.2.1, .int M.2.2.2.2.2.2.2.2.2.2.2.2.2.2.2.2.2.2])), (qs.1, .inl (cI, 9592, .inl (M.2.1))), (qs.2.1, .inl (cZ, 2000001, .inl (M.2.2.1))), (qs.2.2.1, .inl (cJ, 5000, .inr (.inl (M.2.2.2.2.2.2.1)))), (qs.2.2.2.1, .inl (cJ, 5000, .inr (.inl (M.2.2.2.2.2.2.2.1)))), (qs.2.2.2.2.1, .inl (cZ, 5000, .inl (M.2.2.2.2.2.2.2.2.1))), (qs.2.2.2.2.2.1, .inl (cJ, 16, .inr (.inl (M.2.2.2.2.2.2.2.2.2.2.2.2.1)))), (qs.2.2.2.2.2.2.1, .inl (cI, 16, .inl (M.2.2.2.2.2.2.2.2.2.2.2.2.2.1))), (qs.2.2.2.2.2.2.2, .inl (cJ, 9616, .inr (.inl (M.2.2.2.2.2.2.2.2.2.2.2.2.2.2.2.1))))] := D_right hD
  have hFm : ∀ q, va_A [(h1, .inr (8, [.int M.1, .ref qs.1, .ref qs.2.1, .int M.2.2.2.1, .long M.2.2.2.2.1, .int M.2.2.2.2.2.1, .ref qs.2.2.1, .ref qs.2.2.2.1, .ref qs.2.2.2.2.1, .int M.2.2.2.2.2.2.2.2.2.1, .long M.2.2.2.2.2.2.2.2.2.2.1, .int M.2.2.2.2.2.2.2.2.2.2.2.1, .ref qs.2.2.2.2.2.1, .ref qs.2.2.2.2.2.2.1, .int M.2.2.2.2.2.2.2.2.2.2.2.2.2.2.1, .ref qs.2.2.2.2.2.2.2, .long M.2.2.2.2.2.2.2.2.2.2.2.2.2.2.2.2.1, .long M.2.2.2.2.2.2.2.2.2.2.2.2.2.2.2.2.2.1, .int M.2.2.2.2.2.2.2.2.2.2.2.2.2.2.2.2.2.2])), (qs.1, .inl (cI, 9592, .inl (M.2.1))), (qs.2.1, .inl (cZ, 2000001, .inl (M.2.2.1))), (qs.2.2.1, .inl (cJ, 5000, .inr (.inl (M.2.2.2.2.2.2.1)))), (qs.2.2.2.1, .inl (cJ, 5000, .inr (.inl (M.2.2.2.2.2.2.2.1)))), (qs.2.2.2.2.1, .inl (cZ, 5000, .inl (M.2.2.2.2.2.2.2.2.1))), (qs.2.2.2.2.2.1, .inl (cJ, 16, .inr (.inl (M.2.2.2.2.2.2.2.2.2.2.2.2.1)))), (qs.2.2.2.2.2.2.1, .inl (cI, 16, .inl (M.2.2.2.2.2.2.2.2.2.2.2.2.2.1))), (qs.2.2.2.2.2.2.2, .inl (cJ, 9616, .inr (.inl (M.2.2.2.2.2.2.2.2.2.2.2.2.2.2.2.1))))] H.size q → (fun q : Nat => s.heap.size ≤ q) q := F_right hD hS hA
  have b3 := cc__le (xc_ X2)
  have b4 := cs__le (xc_ X2)
  refine va_calll (va_runV (As := [.int (xs (i + (1 : Int32)).toNatClampNeg), .int (xs (i + (2 : Int32)).toNatClampNeg), .int (xs (i + (3 : Int32)).toNatClampNeg)]) (rest := [.long r]) ⟨hx, hb, hml, hown, hts⟩ (c_X9_far l dC dI cI cJ cZ _ h1 M.1 M.2.1 qs.1 M.2.2.1 qs.2.1 M.2.2.2.1 M.2.2.2.2.1 M.2.2.2.2.2.1 M.2.2.2.2.2.2.1 qs.2.2.1 M.2.2.2.2.2.2.2.1 qs.2.2.2.1 M.2.2.2.2.2.2.2.2.1 qs.2.2.2.2.1 M.2.2.2.2.2.2.2.2.2.1 M.2.2.2.2.2.2.2.2.2.2.1 M.2.2.2.2.2.2.2.2.2.2.2.1 M.2.2.2.2.2.2.2.2.2.2.2.2.1 qs.2.2.2.2.2.1 M.2.2.2.2.2.2.2.2.2.2.2.2.2.1 qs.2.2.2.2.2.2.1 M.2.2.2.2.2.2.2.2.2.2.2.2.2.2.1 M.2.2.2.2.2.2.2.2.2.2.2.2.2.2.2.1 qs.2.2.2.2.2.2.2 M.2.2.2.2.2.2.2.2.2.2.2.2.2.2.2.2.1 M.2.2.2.2.2.2.2.2.2.2.2.2.2.2.2.2.2.1 M.2.2.2.2.2.2.2.2.2.2.2.2.2.2.2.2.2.2 (xs (i + (1 : Int32)).toNatClampNeg) (xs (i + (2 : Int32)).toNatClampNeg) (xs (i + (3 : Int32)).toNatClampNeg) _ h) (cwV 3 hts gL_law_X9_far rfl rfl rfl (by decide +kernel) ⟨Nat.le_of_ble_eq_true rfl, Nat.le_of_ble_eq_true rfl⟩) ⟨pre_fb, va_recv hK hPm (ci := 8) (q0 := 0) rfl rfl, pre_of hPm hDm hK hN⟩ rfl rfl hl.1 rfl (lv_room (Nat.le_of_ble_eq_true rfl)) dL_law_1149 ⟨(by show _ ≤ 600000; omega), (by show _ ≤ 7302250; omega)⟩) hS (fun q _ h => hFm q h) hFm (fun r2 u t H1 locs ht hvm h hB hz1 hk1 hS => ?_)
  obtain ⟨hP1, hD1⟩ := hB
  rw [ht] at hP1
  obtain ⟨hP, hD⟩ := frame2r (wr := xcells cI cJ cZ h0 X2) (wc := mcells cI cJ cZ h1 qs M) (w1 := mcells cI cJ cZ h1 qs (M.1, M.2.1, M.2.2.1, M.2.2.2.1, M.2.2.2.2.1, M.2.2.2.2.2.1, M.2.2.2.2.2.2.1, M.2.2.2.2.2.2.2.1, M.2.2.2.2.2.2.2.2.1, M.2.2.2.2.2.2.2.2.2.1, M.2.2.2.2.2.2.2.2.2.2.1, M.2.2.2.2.2.2.2.2.2.2.2.1, M.2.2.2.2.2.2.2.2.2.2.2.2.1, M.2.2.2.2.2.2.2.2.2.2.2.2.2.1, M.2.2.2.2.2.2.2.2.2.2.2.2.2.2.1, M.2.2.2.2.2.2.2.2.2.2.2.2.2.2.2.1, M.2.2.2.2.2.2.2.2.2.2.2.2.2.2.2.2.1, M.2.2.2.2.2.2.2.2.2.2.2.2.2.2.2.2.2.1, M.2.2.2.2.2.2.2.2.2.2.2.2.2.2.2.2.2.2)) hP hD hk1 hFm hP1 hD1
  generalize H1 = H at hP hS ⊢
  obtain ⟨hre, hI⟩ := h
  refine W.lcmp hx hb dL_law_1152 ?_
  refine lv_if_eq (tgt := 1181) hx hb dL_law_1153 (by decide) (fun c9 => ?_) (fun c9 => absurd hre (lc_neq c9))
  refine W.widen (k := 10 + cc_ (xc_ X2)) (n := 2034266 + cs_ (xc_ X2)) (by omega) (by omega) ?_
  exact hnx X2 (M.1, M.2.1, M.2.2.1, M.2.2.2.1, M.2.2.2.2.1, M.2.2.2.2.2.1, M.2.2.2.2.2.2.1, M.2.2.2.2.2.2.2.1, M.2.2.2.2.2.2.2.2.1, M.2.2.2.2.2.2.2.2.2.1, M.2.2.2.2.2.2.2.2.2.2.1, M.2.2.2.2.2.2.2.2.2.2.2.1, M.2.2.2.2.2.2.2.2.2.2.2.2.1, M.2.2.2.2.2.2.2.2.2.2.2.2.2.1, M.2.2.2.2.2.2.2.2.2.2.2.2.2.2.1, M.2.2.2.2.2.2.2.2.2.2.2.2.2.2.2.1, M.2.2.2.2.2.2.2.2.2.2.2.2.2.2.2.2.1, M.2.2.2.2.2.2.2.2.2.2.2.2.2.2.2.2.2.1, M.2.2.2.2.2.2.2.2.2.2.2.2.2.2.2.2.2.2) hI H locs hP hD hS ls hl
set_option maxHeartbeats 4000000 in
set_option maxRecDepth 100000 in
theorem lcase_about {p : Program} {l : Launch} {e : Env} {s : State} {m : MethodId} {below : List Frame} {meth : Method} {c : Code} {dC : Nat → ClassId} {dI : Nat → Nat → Nat} {cI cJ cZ : ClassId} {b h0 h1 : Nat} {qs : AM_} {Inv : XC_ → MC_ → Prop} {L : Nat} {xs : Nat → Int32} (C0 : lw_At p s m meth c b L xs) (hK : va_K (dC, dI) vwCl (tys_ cI cJ cZ) s) (hN : nw_ s) {i : Int32} (hi1 : vp_in (i + (1 : Int32)) L) (hi2 : vp_in (i + (2 : Int32)) L) (hi3 : vp_in (i + (3 : Int32)) L) (hi4 : vp_in (i + (4 : Int32)) L) (hst : st_about Inv) (hnx : law_at p l e s m below meth c dC dI cI cJ cZ b h0 h1 qs Inv 1181 i) : law_at p l e s m below meth c dC dI cI cJ cZ b h0 h1 qs Inv 1158 i := by
  obtain ⟨hx, hb, hr, hml, hown, hts, hX, hbl, hlocks, hgv⟩ := C0
  replace hts := fun w h => hts w (wsL_law_in w h)
  have hA : ∀ q : Nat, s.heap.size ≤ q → (fun q : Nat => s.heap.size ≤ q) q := fun _ h => h
  have hbA : ¬ (fun q : Nat => s.heap.size ≤ q) b := Nat.not_le.mpr hbl
  have hown : s.vm.findClass RL = some m.cls := hown
  intro X M hI H locs hP hD hS ls hl
  refine lv_aload_n hx hb dL_law_1158 rfl (lv_at hl 1 rfl) ?_
  refine lv_aload_n hx hb dL_law_1159 rfl (lv_at hl 0 rfl) ?_
  refine lv_iload_n hx hb dL_law_1160 rfl (lv_at hl 3 rfl) ?_
  refine lv_iconst (v := (1 : Int32)) hx hb dL_law_1161 (by decide) ?_
  refine lv_iadd hx hb dL_law_1162 ?_
  refine va_sld hx hb hX hbl hbA hS hi1 dL_law_1163 ?_
  obtain ⟨mc, ms, hmc, hms, h⟩ := hst (xc_ X) M (xs (i + (1 : Int32)).toNatClampNeg) hI
  have hPx := P_left hP
  have hDx := D_left hD
  have hFx := F_left hD hS hA
  have b1 := cc__le (xc_ X)
  have b2 := cs__le (xc_ X)
  refine va_calli (va_runV (As := [.int (xs (i + (1 : Int32)).toNatClampNeg)]) (rest := []) ⟨hx, hb, hml, hown, hts⟩ (cx_about l dC dI cI cJ cZ _ h0 mc ms X (xs (i + (1 : Int32)).toNatClampNeg) _ h) (cwV 1 hts gL_law_X8_about rfl rfl rfl (by decide +kernel) ⟨Nat.le_of_ble_eq_true rfl, Nat.le_of_ble_eq_true rfl⟩) ⟨pre_fb, va_recv hK hPx (ci := 7) (q0 := 0) rfl rfl, pre_of hPx hDx hK hN⟩ rfl rfl hl.1 rfl (lv_room (Nat.le_of_ble_eq_true rfl)) dL_law_1164 ⟨(by show _ ≤ 600000; omega), (by show _ ≤ 7302250; omega)⟩) hS (fun q _ h => hFx q h) hFx (fun r X2 t H1 locs ht hvm h hB hz1 hk1 hS => ?_)
  obtain ⟨hP1, hD1⟩ := hB
  rw [ht] at hP1
  obtain ⟨hP, hD⟩ := frame2 hP hD hk1 hFx hP1 hD1
  generalize H1 = H at hP hS ⊢
  obtain ⟨hc1, hc2, h⟩ := h
  refine W.widen (k := 10 + cc_ (xc_ X2)) (n := 2034266 + cs_ (xc_ X2)) (by omega) (by omega) ?_
  refine lv_aload_n hx hb dL_law_1167 rfl (lv_at hl 2 rfl) ?_
  refine lv_aload_n hx hb dL_law_1168 rfl (lv_at hl 0 rfl) ?_
  refine lv_iload_n hx hb dL_law_1169 rfl (lv_at hl 3 rfl) ?_
  refine lv_iconst (v := (1 : Int32)) hx hb dL_law_1170 (by decide) ?_
  refine lv_iadd hx hb dL_law_1171 ?_
  refine va_sld hx hb hX hbl hbA hS hi1 dL_law_1172 ?_
  have hPm : va_P (dC, dI) vwCl [(h1, .inr (8, [.int M.1, .ref qs.1, .ref qs.2.1, .int M.2.2.2.1, .long M.2.2.2.2.1, .int M.2.2.2.2.2.1, .ref qs.2.2.1, .ref qs.2.2.2.1, .ref qs.2.2.2.2.1, .int M.2.2.2.2.2.2.2.2.2.1, .long M.2.2.2.2.2.2.2.2.2.2.1, .int M.2.2.2.2.2.2.2.2.2.2.2.1, .ref qs.2.2.2.2.2.1, .ref qs.2.2.2.2.2.2.1, .int M.2.2.2.2.2.2.2.2.2.2.2.2.2.2.1, .ref qs.2.2.2.2.2.2.2, .long M.2.2.2.2.2.2.2.2.2.2.2.2.2.2.2.2.1, .long M.2.2.2.2.2.2.2.2.2.2.2.2.2.2.2.2.2.1, .int M.2.2.2.2.2.2.2.2.2.2.2.2.2.2.2.2.2.2])), (qs.1, .inl (cI, 9592, .inl (M.2.1))), (qs.2.1, .inl (cZ, 2000001, .inl (M.2.2.1))), (qs.2.2.1, .inl (cJ, 5000, .inr (.inl (M.2.2.2.2.2.2.1)))), (qs.2.2.2.1, .inl (cJ, 5000, .inr (.inl (M.2.2.2.2.2.2.2.1)))), (qs.2.2.2.2.1, .inl (cZ, 5000, .inl (M.2.2.2.2.2.2.2.2.1))), (qs.2.2.2.2.2.1, .inl (cJ, 16, .inr (.inl (M.2.2.2.2.2.2.2.2.2.2.2.2.1)))), (qs.2.2.2.2.2.2.1, .inl (cI, 16, .inl (M.2.2.2.2.2.2.2.2.2.2.2.2.2.1))), (qs.2.2.2.2.2.2.2, .inl (cJ, 9616, .inr (.inl (M.2.2.2.2.2.2.2.2.2.2.2.2.2.2.2.1))))] H := P_right hP
  have hDm : va_D (fun q : Nat => s.heap.size ≤ q) [(h1, .inr (8, [.int M.1, .ref qs.1, .ref qs.2.1, .int M.2.2.2.1, .long M.2.2.2.2.1, .int M.2.2.2.2.2.1, .ref qs.2.2.1, .ref qs.2.2.2.1, .ref qs.2.2.2.2.1, .int M.2.2.2.2.2.2.2.2.2.1, .long M.2.2.2.2.2.2.2.2.2.2.1, .int M.2.2.2.2.2.2.2.2.2.2.2.1, .ref qs.2.2.2.2.2.1, .ref qs.2.2.2.2.2.2.1, .int M.2.2.2.2.2.2.2.2.2.2.2.2.2.2.1, .ref qs.2.2.2.2.2.2.2, .long M.2.2.2.2.2.2.2.2.2.2.2.2.2.2.2.2.1, .long M.2.2.2.2.2.2.2.2.2.2.2.2.2.2.2.2.2.1, .int M.2.2.2.2.2.2.2.2.2.2.2.2.2.2.2.2.2.2])), (qs.1, .inl (cI, 9592, .inl (M.2.1))), (qs.2.1, .inl (cZ, 2000001, .inl (M.2.2.1))), (qs.2.2.1, .inl (cJ, 5000, .inr (.inl (M.2.2.2.2.2.2.1)))), (qs.2.2.2.1, .inl (cJ, 5000, .inr (.inl (M.2.2.2.2.2.2.2.1)))), (qs.2.2.2.2.1, .inl (cZ, 5000, .inl (M.2.2.2.2.2.2.2.2.1))), (qs.2.2.2.2.2.1, .inl (cJ, 16, .inr (.inl (M.2.2.2.2.2.2.2.2.2.2.2.2.1)))), (qs.2.2.2.2.2.2.1, .inl (cI, 16, .inl (M.2.2.2.2.2.2.2.2.2.2.2.2.2.1))), (qs.2.2.2.2.2.2.2, .inl (cJ, 9616, .inr (.inl (M.2.2.2.2.2.2.2.2.2.2.2.2.2.2.2.1))))] := D_right hD
  have hFm : ∀ q, va_A [(h1, .inr (8, [.int M.1, .ref qs.1, .ref qs.2.1, .int M.2.2.2.1, .long M.2.2.2.2.1, .int M.2.2.2.2.2.1, .ref qs.2.2.1, .ref qs.2.2.2.1, .ref qs.2.2.2.2.1, .int M.2.2.2.2.2.2.2.2.2.1, .long M.2.2.2.2.2.2.2.2.2.2.1, .int M.2.2.2.2.2.2.2.2.2.2.2.1, .ref qs.2.2.2.2.2.1, .ref qs.2.2.2.2.2.2.1, .int M.2.2.2.2.2.2.2.2.2.2.2.2.2.2.1, .ref qs.2.2.2.2.2.2.2, .long M.2.2.2.2.2.2.2.2.2.2.2.2.2.2.2.2.1, .long M.2.2.2.2.2.2.2.2.2.2.2.2.2.2.2.2.2.1, .int M.2.2.2.2.2.2.2.2.2.2.2.2.2.2.2.2.2.2])), (qs.1, .inl (cI, 9592, .inl (M.2.1))), (qs.2.1, .inl (cZ, 2000001, .inl (M.2.2.1))), (qs.2.2.1, .inl (cJ, 5000, .inr (.inl (M.2.2.2.2.2.2.1)))), (qs.2.2.2.1, .inl (cJ, 5000, .inr (.inl (M.2.2.2.2.2.2.2.1)))), (qs.2.2.2.2.1, .inl (cZ, 5000, .inl (M.2.2.2.2.2.2.2.2.1))), (qs.2.2.2.2.2.1, .inl (cJ, 16, .inr (.inl (M.2.2.2.2.2.2.2.2.2.2.2.2.1)))), (qs.2.2.2.2.2.2.1, .inl (cI, 16, .inl (M.2.2.2.2.2.2.2.2.2.2.2.2.2.1))), (qs.2.2.2.2.2.2.2, .inl (cJ, 9616, .inr (.inl (M.2.2.2.2.2.2.2.2.2.2.2.2.2.2.2.1))))] H.size q → (fun q : Nat => s.heap.size ≤ q) q := F_right hD hS hA
  have b3 := cc__le (xc_ X2)
  have b4 := cs__le (xc_ X2)
  refine va_calli (va_runV (As := [.int (xs (i + (1 : Int32)).toNatClampNeg)]) (rest := [.int r]) ⟨hx, hb, hml, hown, hts⟩ (c_X9_about l dC dI cI cJ cZ _ h1 M.1 M.2.1 qs.1 M.2.2.1 qs.2.1 M.2.2.2.1 M.2.2.2.2.1 M.2.2.2.2.2.1 M.2.2.2.2.2.2.1 qs.2.2.1 M.2.2.2.2.2.2.2.1 qs.2.2.2.1 M.2.2.2.2.2.2.2.2.1 qs.2.2.2.2.1 M.2.2.2.2.2.2.2.2.2.1 M.2.2.2.2.2.2.2.2.2.2.1 M.2.2.2.2.2.2.2.2.2.2.2.1 M.2.2.2.2.2.2.2.2.2.2.2.2.1 qs.2.2.2.2.2.1 M.2.2.2.2.2.2.2.2.2.2.2.2.2.1 qs.2.2.2.2.2.2.1 M.2.2.2.2.2.2.2.2.2.2.2.2.2.2.1 M.2.2.2.2.2.2.2.2.2.2.2.2.2.2.2.1 qs.2.2.2.2.2.2.2 M.2.2.2.2.2.2.2.2.2.2.2.2.2.2.2.2.1 M.2.2.2.2.2.2.2.2.2.2.2.2.2.2.2.2.2.1 M.2.2.2.2.2.2.2.2.2.2.2.2.2.2.2.2.2.2 (xs (i + (1 : Int32)).toNatClampNeg) _ h) (cwV 1 hts gL_law_X9_about rfl rfl rfl (by decide +kernel) ⟨Nat.le_of_ble_eq_true rfl, Nat.le_of_ble_eq_true rfl⟩) ⟨pre_fb, va_recv hK hPm (ci := 8) (q0 := 0) rfl rfl, pre_of hPm hDm hK hN⟩ rfl rfl hl.1 rfl (lv_room (Nat.le_of_ble_eq_true rfl)) dL_law_1173 ⟨(by show _ ≤ 600000; omega), (by show _ ≤ 7302250; omega)⟩) hS (fun q _ h => hFm q h) hFm (fun r2 u t H1 locs ht hvm h hB hz1 hk1 hS => ?_)
  obtain ⟨hP1, hD1⟩ := hB
  rw [ht] at hP1
  obtain ⟨hP, hD⟩ := frame2r (wr := xcells cI cJ cZ h0 X2) (wc := mcells cI cJ cZ h1 qs M) (w1 := mcells cI cJ cZ h1 qs (M.1, M.2.1, M.2.2.1, M.2.2.2.1, M.2.2.2.2.1, M.2.2.2.2.2.1, M.2.2.2.2.2.2.1, M.2.2.2.2.2.2.2.1, M.2.2.2.2.2.2.2.2.1, M.2.2.2.2.2.2.2.2.2.1, M.2.2.2.2.2.2.2.2.2.2.1, M.2.2.2.2.2.2.2.2.2.2.2.1, M.2.2.2.2.2.2.2.2.2.2.2.2.1, M.2.2.2.2.2.2.2.2.2.2.2.2.2.1, M.2.2.2.2.2.2.2.2.2.2.2.2.2.2.1, M.2.2.2.2.2.2.2.2.2.2.2.2.2.2.2.1, M.2.2.2.2.2.2.2.2.2.2.2.2.2.2.2.2.1, M.2.2.2.2.2.2.2.2.2.2.2.2.2.2.2.2.2.1, M.2.2.2.2.2.2.2.2.2.2.2.2.2.2.2.2.2.2)) hP hD hk1 hFm hP1 hD1
  generalize H1 = H at hP hS ⊢
  obtain ⟨hre, hI⟩ := h
  refine lv_icmp_eq (tgt := 1181) hx hb dL_law_1176 (by decide) (fun c9 => ?_) (fun c9 => absurd hre c9)
  refine W.widen (k := 10 + cc_ (xc_ X2)) (n := 2034266 + cs_ (xc_ X2)) (by omega) (by omega) ?_
  exact hnx X2 (M.1, M.2.1, M.2.2.1, M.2.2.2.1, M.2.2.2.2.1, M.2.2.2.2.2.1, M.2.2.2.2.2.2.1, M.2.2.2.2.2.2.2.1, M.2.2.2.2.2.2.2.2.1, M.2.2.2.2.2.2.2.2.2.1, M.2.2.2.2.2.2.2.2.2.2.1, M.2.2.2.2.2.2.2.2.2.2.2.1, M.2.2.2.2.2.2.2.2.2.2.2.2.1, M.2.2.2.2.2.2.2.2.2.2.2.2.2.1, M.2.2.2.2.2.2.2.2.2.2.2.2.2.2.1, M.2.2.2.2.2.2.2.2.2.2.2.2.2.2.2.1, M.2.2.2.2.2.2.2.2.2.2.2.2.2.2.2.2.1, M.2.2.2.2.2.2.2.2.2.2.2.2.2.2.2.2.2.1, M.2.2.2.2.2.2.2.2.2.2.2.2.2.2.2.2.2.2) hI H locs hP hD hS ls hl

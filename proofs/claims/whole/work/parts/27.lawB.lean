set_option maxHeartbeats 4000000 in
set_option maxRecDepth 100000 in
/-- limits -/
theorem law_limits {p : Program} {l : Launch} {e : Env} {s : State} {m : MethodId} {below : List Frame} {meth : Method} {c : Code} {b L : Nat} {xs : Nat → Int32} {Q : State → Prop} (F : LF p s m c b L xs) (hl0 : l.stackTraces = false) {E : Ev} (hok : e_ok E) (hB : e_B E = s.heap.size) (hK : KN E s) {σ : Mem} {o : Nat → Int64} {T i cells slots : Nat} (hT : T ≤ 512) (hi : i + 5 ≤ L) (hL : L ≤ 2560) (I : Inv σ σ T) {H : Heap} {locs : List Loc} {ls : Array Slot} (hP : va_P (e_D E) vwCl (wd E σ o) H) (hS : va_S (LB (e_B E)) s.heap H locs) (hl : lv_has ls 7 (lvL E b i)) (hc : cells + 5 ≤ 633918) (hs : slots + 30 ≤ 7194350) (kk : LK p l e s m below meth c b Q E T i cells slots) : W p l e room_1 s m #[Value.ref b] below meth c H locs cells slots Q (F0 m 184 ls []) := by
  obtain ⟨hx, hb, hml, hown, hts, hX, hbl⟩ := F
  have I0 := I
  obtain ⟨U, N, C, M, hC, hCT, hCR, hGR, hcl⟩ := I
  have hN := CR_okN M hCR
  refine lv_aload_n hx hb dL_law_184 rfl (lv_at hl 2 rfl) ?_
  refine la_arg 1 hx hb hX hbl hB hS (lv_at hl 1 rfl) (lv_at hl 0 rfl) (by omega) hL rfl dL_law_185 dL_law_186 dL_law_188 dL_law_189 dL_law_190 ?_
  refine la_arg 2 hx hb hX hbl hB hS (lv_at hl 1 rfl) (lv_at hl 0 rfl) (by omega) hL rfl dL_law_191 dL_law_192 dL_law_194 dL_law_195 dL_law_196 ?_
  refine la_arg 3 hx hb hX hbl hB hS (lv_at hl 1 rfl) (lv_at hl 0 rfl) (by omega) hL rfl dL_law_197 dL_law_198 dL_law_200 dL_law_201 dL_law_202 ?_
  refine la_arg 4 hx hb hX hbl hB hS (lv_at hl 1 rfl) (lv_at hl 0 rfl) (by omega) hL rfl dL_law_203 dL_law_204 dL_law_206 dL_law_207 dL_law_208 ?_
  refine lv_aload_n hx hb dL_law_209 rfl (lv_at hl 4 rfl) ?_
  refine va_calli (S := Mem × (Nat → Int64)) (vx_runSW (As := [.ref (e_a E 0), .int (xs (i + 1)), .int (xs (i + 2)), .int (xs (i + 3)), .int (xs (i + 4)), .ref (e_a E 36)]) (rest := []) ⟨hx, hb, hml, hown, hts⟩ (mtL_limits l hl0 E hok σ o (xs (i + 1)) (xs (i + 2)) (xs (i + 3)) (xs (i + 4))) (vx_cwSW 6 hts gL_law_L_limits rfl rfl rfl (by decide +kernel) ⟨Nat.le_of_ble_eq_true rfl, Nat.le_of_ble_eq_true rfl⟩) ⟨PW_blind, PW_pre hP hK hS⟩ rfl rfl hl.1 rfl (lv_room (Nat.le_of_ble_eq_true rfl)) dL_law_210 ⟨show cells + 5 ≤ 633918 by omega, show slots + 30 ≤ 7194350 by omega⟩) hS (fun _ _ h => h) (fun _ h => h) (fun k z t H1 locs1 ht _ hw hB1 _ _ hS => ?_)
  obtain ⟨σ1, o1⟩ := z
  have hP : va_P (e_D E) vwCl (wd E σ1 o1) H1 := by rw [← ht]; exact hB1
  refine W.widen (k := cells + 5) (n := slots + 30) (by omega) (by omega) ?_
  refine lv_istore (lv' := [(5, .int k), (4, .int (nI i)), (0, .ref b), (1, .ref (e_a E 0)), (2, .ref (e_a E 26)), (3, .ref (e_a E 36))]) hx hb dL_law_213 hl (by decide) rfl (fun ls hl => ?_)
  refine lv_aload_n hx hb dL_law_215 rfl (lv_at hl 4 rfl) ?_
  refine la_arg 1 hx hb hX hbl hB hS (lv_at hl 2 rfl) (lv_at hl 1 rfl) (by omega) hL rfl dL_law_216 dL_law_217 dL_law_219 dL_law_220 dL_law_221 ?_
  refine la_arg 2 hx hb hX hbl hB hS (lv_at hl 2 rfl) (lv_at hl 1 rfl) (by omega) hL rfl dL_law_222 dL_law_223 dL_law_225 dL_law_226 dL_law_227 ?_
  refine la_arg 3 hx hb hX hbl hB hS (lv_at hl 2 rfl) (lv_at hl 1 rfl) (by omega) hL rfl dL_law_228 dL_law_229 dL_law_231 dL_law_232 dL_law_233 ?_
  refine la_arg 4 hx hb hX hbl hB hS (lv_at hl 2 rfl) (lv_at hl 1 rfl) (by omega) hL rfl dL_law_234 dL_law_235 dL_law_237 dL_law_238 dL_law_239 ?_
  refine k_Vi (E := E) (σ := σ1) (o := o1) (As := [.int (xs (i + 1)), .int (xs (i + 2)), .int (xs (i + 3)), .int (xs (i + 4))]) (rest := []) ⟨hx, hb, hml, hown, hts⟩ (mtX2_limits l E hok σ1 o1 (xs (i + 1)) (xs (i + 2)) (xs (i + 3)) (xs (i + 4))) (cwV 4 hts gL_law_X2_limits rfl rfl rfl (by decide +kernel) ⟨Nat.le_of_ble_eq_true rfl, Nat.le_of_ble_eq_true rfl⟩) (va_recv hK.K hP (ci := 2) (q0 := 26) rfl at_26) hK hP hS rfl hl.1 rfl (Nat.le_of_ble_eq_true rfl) dL_law_240 ⟨hc, hs⟩ (fun r2 σ2 H2 locs2 h2 hP hS => ?_)
  have fin : σ2 26 0 = k ∧ (k = 0 → o1 0 = Int32.toInt64 r2) ∧ Inv σ2 σ2 (T + 1) := by
    rcases hw with ⟨rfl, r, h1, hz⟩ | ⟨u, hu, rfl, hz⟩
    · obtain ⟨s1, rfl, s3⟩ := sm_limits I0 h1 h2
      exact ⟨s1, fun _ => by rw [show o1 = _ from hz]; rfl, s3⟩
    · cases hz
      obtain ⟨s1, s2, s3⟩ := sx_limits I0 hu h2
      exact ⟨s1, fun z => absurd z s2, s3⟩
  obtain ⟨f1, f2, f3⟩ := fin
  refine lv_istore (lv' := [(6, .int r2), (5, .int k), (4, .int (nI i)), (0, .ref b), (1, .ref (e_a E 0)), (2, .ref (e_a E 26)), (3, .ref (e_a E 36))]) hx hb dL_law_243 hl (by decide) rfl (fun ls hl => ?_)
  refine lv_aload_n hx hb dL_law_245 rfl (lv_at hl 5 rfl) ?_
  refine k_Vi (E := E) (σ := σ2) (o := o1) (As := []) (rest := []) ⟨hx, hb, hml, hown, hts⟩ (mtX2_thrown l E hok σ2 o1) (cwV 0 hts gL_law_X2_thrown rfl rfl rfl (by decide +kernel) ⟨Nat.le_of_ble_eq_true rfl, Nat.le_of_ble_eq_true rfl⟩) (va_recv hK.K hP (ci := 2) (q0 := 26) rfl at_26) hK hP hS rfl hl.1 rfl (Nat.le_of_ble_eq_true rfl) dL_law_246 ⟨hc, hs⟩ (fun r3 σ3 H3 locs3 h3 hP hS => ?_)
  obtain ⟨h3, e3⟩ := h3
  rw [f1] at h3
  subst h3
  rw [e3] at hP
  refine lv_iload hx hb dL_law_249 (lv_at hl 1 rfl) ?_
  refine lv_icmp_eq (tgt := 256) hx hb dL_law_251 (by decide) (fun _ => ?_) (fun z => absurd rfl z)
  refine lv_iload hx hb dL_law_256 (lv_at hl 1 rfl) ?_
  have fin : ∀ (ls : Array Slot), lv_has ls 7 [(6, .int r2), (5, .int r3), (4, .int (nI i)), (0, .ref b), (1, .ref (e_a E 0)), (2, .ref (e_a E 26)), (3, .ref (e_a E 36))] → W p l e room_1 s m #[Value.ref b] below meth c H3 locs3 (cells + 5) (slots + 30) Q (F0 m 273 ls []) := fun ls hl => by
    refine lv_goto (tgt := 1239) hx hb dL_law_273 (by decide) ?_
    exact kk σ2 o1 H3 locs3 ls f3 hP hS (lv_sub hl [2, 3, 4, 5, 6] rfl)
  refine lv_if_ne (tgt := 273) hx hb dL_law_258 (by decide) (fun _ => fin ls hl) (fun z => ?_)
  have z0 := f2 z
  refine lv_aload_n hx hb dL_law_261 rfl (lv_at hl 6 rfl) ?_
  refine lv_iconst (v := 0) hx hb dL_law_262 (by decide) ?_
  refine q_lld hx hb hK hP dL_law_263 ?_
  refine lv_iload hx hb dL_law_264 (lv_at hl 0 rfl) ?_
  refine lv_i2l (v := r2.toInt64) hx hb dL_law_266 rfl ?_
  refine W.lcmp hx hb dL_law_267 ?_
  exact lv_if_eq (tgt := 273) hx hb dL_law_268 (by decide) (fun _ => fin ls hl) (fun z => absurd ((lg_cmp_eq _ _).mpr z0) z)
set_option maxHeartbeats 4000000 in
set_option maxRecDepth 100000 in
/-- shut -/
theorem law_shut {p : Program} {l : Launch} {e : Env} {s : State} {m : MethodId} {below : List Frame} {meth : Method} {c : Code} {b L : Nat} {xs : Nat → Int32} {Q : State → Prop} (F : LF p s m c b L xs) (hl0 : l.stackTraces = false) {E : Ev} (hok : e_ok E) (hB : e_B E = s.heap.size) (hK : KN E s) {σ : Mem} {o : Nat → Int64} {T i cells slots : Nat} (hT : T ≤ 512) (hi : i + 5 ≤ L) (hL : L ≤ 2560) (I : Inv σ σ T) {H : Heap} {locs : List Loc} {ls : Array Slot} (hP : va_P (e_D E) vwCl (wd E σ o) H) (hS : va_S (LB (e_B E)) s.heap H locs) (hl : lv_has ls 7 (lvL E b i)) (hc : cells + 5 ≤ 633918) (hs : slots + 30 ≤ 7194350) (kk : LK p l e s m below meth c b Q E T i cells slots) : W p l e room_1 s m #[Value.ref b] below meth c H locs cells slots Q (F0 m 276 ls []) := by
  obtain ⟨hx, hb, hml, hown, hts, hX, hbl⟩ := F
  have I0 := I
  obtain ⟨U, N, C, M, hC, hCT, hCR, hGR, hcl⟩ := I
  have hN := CR_okN M hCR
  refine lv_aload_n hx hb dL_law_276 rfl (lv_at hl 2 rfl) ?_
  refine la_arg 1 hx hb hX hbl hB hS (lv_at hl 1 rfl) (lv_at hl 0 rfl) (by omega) hL rfl dL_law_277 dL_law_278 dL_law_280 dL_law_281 dL_law_282 ?_
  refine la_arg 2 hx hb hX hbl hB hS (lv_at hl 1 rfl) (lv_at hl 0 rfl) (by omega) hL rfl dL_law_283 dL_law_284 dL_law_286 dL_law_287 dL_law_288 ?_
  refine la_bool hx hb dL_law_289 dL_law_292 dL_law_293 dL_law_296 ?_
  refine lv_aload_n hx hb dL_law_297 rfl (lv_at hl 4 rfl) ?_
  refine va_calli (S := Mem × (Nat → Int64)) (vx_runSW (As := [.ref (e_a E 0), .int (xs (i + 1)), .int (bz (xs (i + 2))), .ref (e_a E 36)]) (rest := []) ⟨hx, hb, hml, hown, hts⟩ (mtL_shut l hl0 E hok σ o (xs (i + 1)) (bz (xs (i + 2))) (bz_01 _) (fun k hk => by rw [((hCR k hk).2.2.2.2.2.2)]; exact hcl k hk)) (vx_cwSW 4 hts gL_law_L_shut rfl rfl rfl (by decide +kernel) ⟨Nat.le_of_ble_eq_true rfl, Nat.le_of_ble_eq_true rfl⟩) ⟨PW_blind, PW_pre hP hK hS⟩ rfl rfl hl.1 rfl (lv_room (Nat.le_of_ble_eq_true rfl)) dL_law_298 ⟨show cells + 1 ≤ 633918 by omega, show slots + 6 ≤ 7194350 by omega⟩) hS (fun _ _ h => h) (fun _ h => h) (fun k z t H1 locs1 ht _ hw hB1 _ _ hS => ?_)
  obtain ⟨σ1, o1⟩ := z
  have hP : va_P (e_D E) vwCl (wd E σ1 o1) H1 := by rw [← ht]; exact hB1
  refine W.widen (k := cells + 5) (n := slots + 30) (by omega) (by omega) ?_
  have hh : ∀ j, 26 ≤ j → σ1 j = σ j := by
    rcases hw with ⟨-, r, h1, -⟩ | ⟨u, -, -, hz⟩
    · exact ph_shut h1
    · cases hz; exact fun _ _ => rfl
  refine lv_istore (lv' := [(5, .int k), (4, .int (nI i)), (0, .ref b), (1, .ref (e_a E 0)), (2, .ref (e_a E 26)), (3, .ref (e_a E 36))]) hx hb dL_law_301 hl (by decide) rfl (fun ls hl => ?_)
  refine lv_aload_n hx hb dL_law_303 rfl (lv_at hl 4 rfl) ?_
  refine la_arg 1 hx hb hX hbl hB hS (lv_at hl 2 rfl) (lv_at hl 1 rfl) (by omega) hL rfl dL_law_304 dL_law_305 dL_law_307 dL_law_308 dL_law_309 ?_
  refine la_arg 2 hx hb hX hbl hB hS (lv_at hl 2 rfl) (lv_at hl 1 rfl) (by omega) hL rfl dL_law_310 dL_law_311 dL_law_313 dL_law_314 dL_law_315 ?_
  refine la_bool hx hb dL_law_316 dL_law_319 dL_law_320 dL_law_323 ?_
  refine k_Vi (E := E) (σ := σ1) (o := o1) (As := [.int (xs (i + 1)), .int (bz (xs (i + 2)))]) (rest := []) ⟨hx, hb, hml, hown, hts⟩ (mtX2_shut l E hok σ1 o1 (xs (i + 1)) (bz (xs (i + 2))) (bz_01 _) (fun k hk => by rw [hh 35 (by omega)]; exact hcl k hk)) (cwV 2 hts gL_law_X2_shut rfl rfl rfl (by decide +kernel) ⟨Nat.le_of_ble_eq_true rfl, Nat.le_of_ble_eq_true rfl⟩) (va_recv hK.K hP (ci := 2) (q0 := 26) rfl at_26) hK hP hS rfl hl.1 rfl (Nat.le_of_ble_eq_true rfl) dL_law_324 ⟨hc, hs⟩ (fun r2 σ2 H2 locs2 h2 hP hS => ?_)
  have fin : σ2 26 0 = k ∧ (k = 0 → o1 0 = zL r2) ∧ Inv σ2 σ2 (T + 1) := by
    rcases hw with ⟨rfl, r, h1, hz⟩ | ⟨u, hu, rfl, hz⟩
    · obtain ⟨s1, rfl, s3⟩ := sm_shut (bz_01 _) I0 h1 h2
      exact ⟨s1, fun _ => by rw [show o1 = _ from hz]; rfl, s3⟩
    · cases hz
      obtain ⟨s1, s2, s3⟩ := sx_shut I0 hu h2
      exact ⟨s1, fun z => absurd z s2, s3⟩
  obtain ⟨f1, f2, f3⟩ := fin
  refine lv_istore (lv' := [(6, .int r2), (5, .int k), (4, .int (nI i)), (0, .ref b), (1, .ref (e_a E 0)), (2, .ref (e_a E 26)), (3, .ref (e_a E 36))]) hx hb dL_law_327 hl (by decide) rfl (fun ls hl => ?_)
  refine lv_aload_n hx hb dL_law_329 rfl (lv_at hl 5 rfl) ?_
  refine k_Vi (E := E) (σ := σ2) (o := o1) (As := []) (rest := []) ⟨hx, hb, hml, hown, hts⟩ (mtX2_thrown l E hok σ2 o1) (cwV 0 hts gL_law_X2_thrown rfl rfl rfl (by decide +kernel) ⟨Nat.le_of_ble_eq_true rfl, Nat.le_of_ble_eq_true rfl⟩) (va_recv hK.K hP (ci := 2) (q0 := 26) rfl at_26) hK hP hS rfl hl.1 rfl (Nat.le_of_ble_eq_true rfl) dL_law_330 ⟨hc, hs⟩ (fun r3 σ3 H3 locs3 h3 hP hS => ?_)
  obtain ⟨h3, e3⟩ := h3
  rw [f1] at h3
  subst h3
  rw [e3] at hP
  refine lv_iload hx hb dL_law_333 (lv_at hl 1 rfl) ?_
  refine lv_icmp_eq (tgt := 340) hx hb dL_law_335 (by decide) (fun _ => ?_) (fun z => absurd rfl z)
  refine lv_iload hx hb dL_law_340 (lv_at hl 1 rfl) ?_
  have fin : ∀ (ls : Array Slot), lv_has ls 7 [(6, .int r2), (5, .int r3), (4, .int (nI i)), (0, .ref b), (1, .ref (e_a E 0)), (2, .ref (e_a E 26)), (3, .ref (e_a E 36))] → W p l e room_1 s m #[Value.ref b] below meth c H3 locs3 (cells + 5) (slots + 30) Q (F0 m 364 ls []) := fun ls hl => by
    refine lv_goto (tgt := 1239) hx hb dL_law_364 (by decide) ?_
    exact kk σ2 o1 H3 locs3 ls f3 hP hS (lv_sub hl [2, 3, 4, 5, 6] rfl)
  refine lv_if_ne (tgt := 364) hx hb dL_law_342 (by decide) (fun _ => fin ls hl) (fun z => ?_)
  have z0 := f2 z
  refine lv_aload_n hx hb dL_law_345 rfl (lv_at hl 6 rfl) ?_
  refine lv_iconst (v := 0) hx hb dL_law_346 (by decide) ?_
  refine q_lld hx hb hK hP dL_law_347 ?_
  refine lv_iload hx hb dL_law_348 (lv_at hl 0 rfl) ?_
  refine lb_bool hx hb dL_law_350 dL_law_353 dL_law_354 dL_law_357 ?_
  refine W.lcmp hx hb dL_law_358 ?_
  exact lv_if_eq (tgt := 364) hx hb dL_law_359 (by decide) (fun _ => fin ls hl) (fun z => absurd ((lg_cmp_eq _ _).mpr z0) z)
set_option maxHeartbeats 4000000 in
set_option maxRecDepth 100000 in
/-- send -/
theorem law_send {p : Program} {l : Launch} {e : Env} {s : State} {m : MethodId} {below : List Frame} {meth : Method} {c : Code} {b L : Nat} {xs : Nat → Int32} {Q : State → Prop} (F : LF p s m c b L xs) (hl0 : l.stackTraces = false) {E : Ev} (hok : e_ok E) (hB : e_B E = s.heap.size) (hK : KN E s) {σ : Mem} {o : Nat → Int64} {T i cells slots : Nat} (hT : T ≤ 512) (hi : i + 5 ≤ L) (hL : L ≤ 2560) (I : Inv σ σ T) {H : Heap} {locs : List Loc} {ls : Array Slot} (hP : va_P (e_D E) vwCl (wd E σ o) H) (hS : va_S (LB (e_B E)) s.heap H locs) (hl : lv_has ls 7 (lvL E b i)) (hc : cells + 5 ≤ 633918) (hs : slots + 30 ≤ 7194350) (kk : LK p l e s m below meth c b Q E T i cells slots) : W p l e room_1 s m #[Value.ref b] below meth c H locs cells slots Q (F0 m 367 ls []) := by
  obtain ⟨hx, hb, hml, hown, hts, hX, hbl⟩ := F
  have I0 := I
  obtain ⟨U, N, C, M, hC, hCT, hCR, hGR, hcl⟩ := I
  have hN := CR_okN M hCR
  refine lv_aload_n hx hb dL_law_367 rfl (lv_at hl 2 rfl) ?_
  refine la_arg 1 hx hb hX hbl hB hS (lv_at hl 1 rfl) (lv_at hl 0 rfl) (by omega) hL rfl dL_law_368 dL_law_369 dL_law_371 dL_law_372 dL_law_373 ?_
  refine la_arg 2 hx hb hX hbl hB hS (lv_at hl 1 rfl) (lv_at hl 0 rfl) (by omega) hL rfl dL_law_374 dL_law_375 dL_law_377 dL_law_378 dL_law_379 ?_
  refine lv_aload_n hx hb dL_law_380 rfl (lv_at hl 4 rfl) ?_
  refine va_calli (S := Mem × (Nat → Int64)) (vx_runSW (As := [.ref (e_a E 0), .int (xs (i + 1)), .int (xs (i + 2)), .ref (e_a E 36)]) (rest := []) ⟨hx, hb, hml, hown, hts⟩ (mtL_send l hl0 E hok σ o (xs (i + 1)) (xs (i + 2)) N hN) (vx_cwSW 4 hts gL_law_L_send rfl rfl rfl (by decide +kernel) ⟨Nat.le_of_ble_eq_true rfl, Nat.le_of_ble_eq_true rfl⟩) ⟨PW_blind, PW_pre hP hK hS⟩ rfl rfl hl.1 rfl (lv_room (Nat.le_of_ble_eq_true rfl)) dL_law_381 ⟨show cells + 2 ≤ 633918 by omega, show slots + 12 ≤ 7194350 by omega⟩) hS (fun _ _ h => h) (fun _ h => h) (fun k z t H1 locs1 ht _ hw hB1 _ _ hS => ?_)
  obtain ⟨σ1, o1⟩ := z
  have hP : va_P (e_D E) vwCl (wd E σ1 o1) H1 := by rw [← ht]; exact hB1
  refine W.widen (k := cells + 5) (n := slots + 30) (by omega) (by omega) ?_
  have hh : ∀ j, 26 ≤ j → σ1 j = σ j := by
    rcases hw with ⟨-, r, h1, -⟩ | ⟨u, -, -, hz⟩
    · exact ph_send h1
    · cases hz; exact fun _ _ => rfl
  refine lv_istore (lv' := [(5, .int k), (4, .int (nI i)), (0, .ref b), (1, .ref (e_a E 0)), (2, .ref (e_a E 26)), (3, .ref (e_a E 36))]) hx hb dL_law_384 hl (by decide) rfl (fun ls hl => ?_)
  refine lv_aload_n hx hb dL_law_386 rfl (lv_at hl 4 rfl) ?_
  refine la_arg 1 hx hb hX hbl hB hS (lv_at hl 2 rfl) (lv_at hl 1 rfl) (by omega) hL rfl dL_law_387 dL_law_388 dL_law_390 dL_law_391 dL_law_392 ?_
  refine la_arg 2 hx hb hX hbl hB hS (lv_at hl 2 rfl) (lv_at hl 1 rfl) (by omega) hL rfl dL_law_393 dL_law_394 dL_law_396 dL_law_397 dL_law_398 ?_
  refine k_Vi (E := E) (σ := σ1) (o := o1) (As := [.int (xs (i + 1)), .int (xs (i + 2))]) (rest := []) ⟨hx, hb, hml, hown, hts⟩ (mtX2_send l E hok σ1 o1 (xs (i + 1)) (xs (i + 2)) (fun k hk hq => by rw [hh 27 (by omega)] at hq ⊢; rw [mi_many M hk, show (12 : Int32) = nI 12 from rfl, nI_leI (by omega) (by have := (M.1 k hk).2.1; omega)] at hq; exact mi_free M hk (by omega))) (cwV 2 hts gL_law_X2_send rfl rfl rfl (by decide +kernel) ⟨Nat.le_of_ble_eq_true rfl, Nat.le_of_ble_eq_true rfl⟩) (va_recv hK.K hP (ci := 2) (q0 := 26) rfl at_26) hK hP hS rfl hl.1 rfl (Nat.le_of_ble_eq_true rfl) dL_law_399 ⟨hc, hs⟩ (fun r2 σ2 H2 locs2 h2 hP hS => ?_)
  have fin : σ2 26 0 = k ∧ (k = 0 → o1 0 = Int32.toInt64 r2) ∧ Inv σ2 σ2 (T + 1) := by
    rcases hw with ⟨rfl, r, h1, hz⟩ | ⟨u, hu, rfl, hz⟩
    · obtain ⟨s1, rfl, s3⟩ := sm_send hN (by omega) I0 h1 h2
      exact ⟨s1, fun _ => by rw [show o1 = _ from hz]; rfl, s3⟩
    · cases hz
      obtain ⟨s1, s2, s3⟩ := sx_send I0 hu h2
      exact ⟨s1, fun z => absurd z s2, s3⟩
  obtain ⟨f1, f2, f3⟩ := fin
  refine lv_istore (lv' := [(6, .int r2), (5, .int k), (4, .int (nI i)), (0, .ref b), (1, .ref (e_a E 0)), (2, .ref (e_a E 26)), (3, .ref (e_a E 36))]) hx hb dL_law_402 hl (by decide) rfl (fun ls hl => ?_)
  refine lv_aload_n hx hb dL_law_404 rfl (lv_at hl 5 rfl) ?_
  refine k_Vi (E := E) (σ := σ2) (o := o1) (As := []) (rest := []) ⟨hx, hb, hml, hown, hts⟩ (mtX2_thrown l E hok σ2 o1) (cwV 0 hts gL_law_X2_thrown rfl rfl rfl (by decide +kernel) ⟨Nat.le_of_ble_eq_true rfl, Nat.le_of_ble_eq_true rfl⟩) (va_recv hK.K hP (ci := 2) (q0 := 26) rfl at_26) hK hP hS rfl hl.1 rfl (Nat.le_of_ble_eq_true rfl) dL_law_405 ⟨hc, hs⟩ (fun r3 σ3 H3 locs3 h3 hP hS => ?_)
  obtain ⟨h3, e3⟩ := h3
  rw [f1] at h3
  subst h3
  rw [e3] at hP
  refine lv_iload hx hb dL_law_408 (lv_at hl 1 rfl) ?_
  refine lv_icmp_eq (tgt := 415) hx hb dL_law_410 (by decide) (fun _ => ?_) (fun z => absurd rfl z)
  refine lv_iload hx hb dL_law_415 (lv_at hl 1 rfl) ?_
  have fin : ∀ (ls : Array Slot), lv_has ls 7 [(6, .int r2), (5, .int r3), (4, .int (nI i)), (0, .ref b), (1, .ref (e_a E 0)), (2, .ref (e_a E 26)), (3, .ref (e_a E 36))] → W p l e room_1 s m #[Value.ref b] below meth c H3 locs3 (cells + 5) (slots + 30) Q (F0 m 432 ls []) := fun ls hl => by
    refine lv_goto (tgt := 1239) hx hb dL_law_432 (by decide) ?_
    exact kk σ2 o1 H3 locs3 ls f3 hP hS (lv_sub hl [2, 3, 4, 5, 6] rfl)
  refine lv_if_ne (tgt := 432) hx hb dL_law_417 (by decide) (fun _ => fin ls hl) (fun z => ?_)
  have z0 := f2 z
  refine lv_aload_n hx hb dL_law_420 rfl (lv_at hl 6 rfl) ?_
  refine lv_iconst (v := 0) hx hb dL_law_421 (by decide) ?_
  refine q_lld hx hb hK hP dL_law_422 ?_
  refine lv_iload hx hb dL_law_423 (lv_at hl 0 rfl) ?_
  refine lv_i2l (v := r2.toInt64) hx hb dL_law_425 rfl ?_
  refine W.lcmp hx hb dL_law_426 ?_
  exact lv_if_eq (tgt := 432) hx hb dL_law_427 (by decide) (fun _ => fin ls hl) (fun z => absurd ((lg_cmp_eq _ _).mpr z0) z)
set_option maxHeartbeats 4000000 in
set_option maxRecDepth 100000 in
/-- fits -/
theorem law_fits {p : Program} {l : Launch} {e : Env} {s : State} {m : MethodId} {below : List Frame} {meth : Method} {c : Code} {b L : Nat} {xs : Nat → Int32} {Q : State → Prop} (F : LF p s m c b L xs) (hl0 : l.stackTraces = false) {E : Ev} (hok : e_ok E) (hB : e_B E = s.heap.size) (hK : KN E s) {σ : Mem} {o : Nat → Int64} {T i cells slots : Nat} (hT : T ≤ 512) (hi : i + 5 ≤ L) (hL : L ≤ 2560) (I : Inv σ σ T) {H : Heap} {locs : List Loc} {ls : Array Slot} (hP : va_P (e_D E) vwCl (wd E σ o) H) (hS : va_S (LB (e_B E)) s.heap H locs) (hl : lv_has ls 7 (lvL E b i)) (hc : cells + 5 ≤ 633918) (hs : slots + 30 ≤ 7194350) (kk : LK p l e s m below meth c b Q E T i cells slots) : W p l e room_1 s m #[Value.ref b] below meth c H locs cells slots Q (F0 m 435 ls []) := by
  obtain ⟨hx, hb, hml, hown, hts, hX, hbl⟩ := F
  have I0 := I
  obtain ⟨U, N, C, M, hC, hCT, hCR, hGR, hcl⟩ := I
  have hN := CR_okN M hCR
  refine lv_aload_n hx hb dL_law_435 rfl (lv_at hl 2 rfl) ?_
  refine la_arg 1 hx hb hX hbl hB hS (lv_at hl 1 rfl) (lv_at hl 0 rfl) (by omega) hL rfl dL_law_436 dL_law_437 dL_law_439 dL_law_440 dL_law_441 ?_
  refine la_arg 2 hx hb hX hbl hB hS (lv_at hl 1 rfl) (lv_at hl 0 rfl) (by omega) hL rfl dL_law_442 dL_law_443 dL_law_445 dL_law_446 dL_law_447 ?_
  refine lv_aload_n hx hb dL_law_448 rfl (lv_at hl 4 rfl) ?_
  refine va_calli (S := Mem × (Nat → Int64)) (vx_runSW (As := [.ref (e_a E 0), .int (xs (i + 1)), .int (xs (i + 2)), .ref (e_a E 36)]) (rest := []) ⟨hx, hb, hml, hown, hts⟩ (mtL_fits l hl0 E hok σ o (xs (i + 1)) (xs (i + 2))) (vx_cwSW 4 hts gL_law_L_fits rfl rfl rfl (by decide +kernel) ⟨Nat.le_of_ble_eq_true rfl, Nat.le_of_ble_eq_true rfl⟩) ⟨PW_blind, PW_pre hP hK hS⟩ rfl rfl hl.1 rfl (lv_room (Nat.le_of_ble_eq_true rfl)) dL_law_449 ⟨show cells + 2 ≤ 633918 by omega, show slots + 12 ≤ 7194350 by omega⟩) hS (fun _ _ h => h) (fun _ h => h) (fun k z t H1 locs1 ht _ hw hB1 _ _ hS => ?_)
  obtain ⟨σ1, o1⟩ := z
  have hP : va_P (e_D E) vwCl (wd E σ1 o1) H1 := by rw [← ht]; exact hB1
  refine W.widen (k := cells + 5) (n := slots + 30) (by omega) (by omega) ?_
  refine lv_istore (lv' := [(5, .int k), (4, .int (nI i)), (0, .ref b), (1, .ref (e_a E 0)), (2, .ref (e_a E 26)), (3, .ref (e_a E 36))]) hx hb dL_law_452 hl (by decide) rfl (fun ls hl => ?_)
  refine lv_aload_n hx hb dL_law_454 rfl (lv_at hl 4 rfl) ?_
  refine la_arg 1 hx hb hX hbl hB hS (lv_at hl 2 rfl) (lv_at hl 1 rfl) (by omega) hL rfl dL_law_455 dL_law_456 dL_law_458 dL_law_459 dL_law_460 ?_
  refine la_arg 2 hx hb hX hbl hB hS (lv_at hl 2 rfl) (lv_at hl 1 rfl) (by omega) hL rfl dL_law_461 dL_law_462 dL_law_464 dL_law_465 dL_law_466 ?_
  refine k_Vi (E := E) (σ := σ1) (o := o1) (As := [.int (xs (i + 1)), .int (xs (i + 2))]) (rest := []) ⟨hx, hb, hml, hown, hts⟩ (mtX2_fits l E hok σ1 o1 (xs (i + 1)) (xs (i + 2))) (cwV 2 hts gL_law_X2_fits rfl rfl rfl (by decide +kernel) ⟨Nat.le_of_ble_eq_true rfl, Nat.le_of_ble_eq_true rfl⟩) (va_recv hK.K hP (ci := 2) (q0 := 26) rfl at_26) hK hP hS rfl hl.1 rfl (Nat.le_of_ble_eq_true rfl) dL_law_467 ⟨hc, hs⟩ (fun r2 σ2 H2 locs2 h2 hP hS => ?_)
  have fin : σ2 26 0 = k ∧ (k = 0 → o1 0 = Int32.toInt64 r2) ∧ Inv σ2 σ2 (T + 1) := by
    rcases hw with ⟨rfl, r, h1, hz⟩ | ⟨u, hu, rfl, hz⟩
    · obtain ⟨s1, rfl, s3⟩ := sm_fits I0 h1 h2
      exact ⟨s1, fun _ => by rw [show o1 = _ from hz]; rfl, s3⟩
    · cases hz
      obtain ⟨s1, s2, s3⟩ := sx_fits I0 hu h2
      exact ⟨s1, fun z => absurd z s2, s3⟩
  obtain ⟨f1, f2, f3⟩ := fin
  refine lv_istore (lv' := [(6, .int r2), (5, .int k), (4, .int (nI i)), (0, .ref b), (1, .ref (e_a E 0)), (2, .ref (e_a E 26)), (3, .ref (e_a E 36))]) hx hb dL_law_470 hl (by decide) rfl (fun ls hl => ?_)
  refine lv_aload_n hx hb dL_law_472 rfl (lv_at hl 5 rfl) ?_
  refine k_Vi (E := E) (σ := σ2) (o := o1) (As := []) (rest := []) ⟨hx, hb, hml, hown, hts⟩ (mtX2_thrown l E hok σ2 o1) (cwV 0 hts gL_law_X2_thrown rfl rfl rfl (by decide +kernel) ⟨Nat.le_of_ble_eq_true rfl, Nat.le_of_ble_eq_true rfl⟩) (va_recv hK.K hP (ci := 2) (q0 := 26) rfl at_26) hK hP hS rfl hl.1 rfl (Nat.le_of_ble_eq_true rfl) dL_law_473 ⟨hc, hs⟩ (fun r3 σ3 H3 locs3 h3 hP hS => ?_)
  obtain ⟨h3, e3⟩ := h3
  rw [f1] at h3
  subst h3
  rw [e3] at hP
  refine lv_iload hx hb dL_law_476 (lv_at hl 1 rfl) ?_
  refine lv_icmp_eq (tgt := 483) hx hb dL_law_478 (by decide) (fun _ => ?_) (fun z => absurd rfl z)
  refine lv_iload hx hb dL_law_483 (lv_at hl 1 rfl) ?_
  have fin : ∀ (ls : Array Slot), lv_has ls 7 [(6, .int r2), (5, .int r3), (4, .int (nI i)), (0, .ref b), (1, .ref (e_a E 0)), (2, .ref (e_a E 26)), (3, .ref (e_a E 36))] → W p l e room_1 s m #[Value.ref b] below meth c H3 locs3 (cells + 5) (slots + 30) Q (F0 m 500 ls []) := fun ls hl => by
    refine lv_goto (tgt := 1239) hx hb dL_law_500 (by decide) ?_
    exact kk σ2 o1 H3 locs3 ls f3 hP hS (lv_sub hl [2, 3, 4, 5, 6] rfl)
  refine lv_if_ne (tgt := 500) hx hb dL_law_485 (by decide) (fun _ => fin ls hl) (fun z => ?_)
  have z0 := f2 z
  refine lv_aload_n hx hb dL_law_488 rfl (lv_at hl 6 rfl) ?_
  refine lv_iconst (v := 0) hx hb dL_law_489 (by decide) ?_
  refine q_lld hx hb hK hP dL_law_490 ?_
  refine lv_iload hx hb dL_law_491 (lv_at hl 0 rfl) ?_
  refine lv_i2l (v := r2.toInt64) hx hb dL_law_493 rfl ?_
  refine W.lcmp hx hb dL_law_494 ?_
  exact lv_if_eq (tgt := 500) hx hb dL_law_495 (by decide) (fun _ => fin ls hl) (fun z => absurd ((lg_cmp_eq _ _).mpr z0) z)
set_option maxHeartbeats 4000000 in
set_option maxRecDepth 100000 in
/-- signs -/
theorem law_signs {p : Program} {l : Launch} {e : Env} {s : State} {m : MethodId} {below : List Frame} {meth : Method} {c : Code} {b L : Nat} {xs : Nat → Int32} {Q : State → Prop} (F : LF p s m c b L xs) (hl0 : l.stackTraces = false) {E : Ev} (hok : e_ok E) (hB : e_B E = s.heap.size) (hK : KN E s) {σ : Mem} {o : Nat → Int64} {T i cells slots : Nat} (hT : T ≤ 512) (hi : i + 5 ≤ L) (hL : L ≤ 2560) (I : Inv σ σ T) {H : Heap} {locs : List Loc} {ls : Array Slot} (hP : va_P (e_D E) vwCl (wd E σ o) H) (hS : va_S (LB (e_B E)) s.heap H locs) (hl : lv_has ls 7 (lvL E b i)) (hc : cells + 5 ≤ 633918) (hs : slots + 30 ≤ 7194350) (kk : LK p l e s m below meth c b Q E T i cells slots) : W p l e room_1 s m #[Value.ref b] below meth c H locs cells slots Q (F0 m 503 ls []) := by
  obtain ⟨hx, hb, hml, hown, hts, hX, hbl⟩ := F
  have I0 := I
  obtain ⟨U, N, C, M, hC, hCT, hCR, hGR, hcl⟩ := I
  have hN := CR_okN M hCR
  refine lv_aload_n hx hb dL_law_503 rfl (lv_at hl 2 rfl) ?_
  refine la_arg 1 hx hb hX hbl hB hS (lv_at hl 1 rfl) (lv_at hl 0 rfl) (by omega) hL rfl dL_law_504 dL_law_505 dL_law_507 dL_law_508 dL_law_509 ?_
  refine la_arg 2 hx hb hX hbl hB hS (lv_at hl 1 rfl) (lv_at hl 0 rfl) (by omega) hL rfl dL_law_510 dL_law_511 dL_law_513 dL_law_514 dL_law_515 ?_
  refine la_arg 3 hx hb hX hbl hB hS (lv_at hl 1 rfl) (lv_at hl 0 rfl) (by omega) hL rfl dL_law_516 dL_law_517 dL_law_519 dL_law_520 dL_law_521 ?_
  refine lv_aload_n hx hb dL_law_522 rfl (lv_at hl 4 rfl) ?_
  refine va_calli (S := Mem × (Nat → Int64)) (vx_runSW (As := [.ref (e_a E 0), .int (xs (i + 1)), .int (xs (i + 2)), .int (xs (i + 3)), .ref (e_a E 36)]) (rest := []) ⟨hx, hb, hml, hown, hts⟩ (mtL_signs l hl0 E hok σ o (xs (i + 1)) (xs (i + 2)) (xs (i + 3))) (vx_cwSW 5 hts gL_law_L_signs rfl rfl rfl (by decide +kernel) ⟨Nat.le_of_ble_eq_true rfl, Nat.le_of_ble_eq_true rfl⟩) ⟨PW_blind, PW_pre hP hK hS⟩ rfl rfl hl.1 rfl (lv_room (Nat.le_of_ble_eq_true rfl)) dL_law_523 ⟨show cells + 2 ≤ 633918 by omega, show slots + 12 ≤ 7194350 by omega⟩) hS (fun _ _ h => h) (fun _ h => h) (fun k z t H1 locs1 ht _ hw hB1 _ _ hS => ?_)
  obtain ⟨σ1, o1⟩ := z
  have hP : va_P (e_D E) vwCl (wd E σ1 o1) H1 := by rw [← ht]; exact hB1
  refine W.widen (k := cells + 5) (n := slots + 30) (by omega) (by omega) ?_
  refine lv_istore (lv' := [(5, .int k), (4, .int (nI i)), (0, .ref b), (1, .ref (e_a E 0)), (2, .ref (e_a E 26)), (3, .ref (e_a E 36))]) hx hb dL_law_526 hl (by decide) rfl (fun ls hl => ?_)
  refine lv_aload_n hx hb dL_law_528 rfl (lv_at hl 4 rfl) ?_
  refine la_arg 1 hx hb hX hbl hB hS (lv_at hl 2 rfl) (lv_at hl 1 rfl) (by omega) hL rfl dL_law_529 dL_law_530 dL_law_532 dL_law_533 dL_law_534 ?_
  refine la_arg 2 hx hb hX hbl hB hS (lv_at hl 2 rfl) (lv_at hl 1 rfl) (by omega) hL rfl dL_law_535 dL_law_536 dL_law_538 dL_law_539 dL_law_540 ?_
  refine la_arg 3 hx hb hX hbl hB hS (lv_at hl 2 rfl) (lv_at hl 1 rfl) (by omega) hL rfl dL_law_541 dL_law_542 dL_law_544 dL_law_545 dL_law_546 ?_
  refine k_Vi (E := E) (σ := σ1) (o := o1) (As := [.int (xs (i + 1)), .int (xs (i + 2)), .int (xs (i + 3))]) (rest := []) ⟨hx, hb, hml, hown, hts⟩ (mtX2_signs l E hok σ1 o1 (xs (i + 1)) (xs (i + 2)) (xs (i + 3))) (cwV 3 hts gL_law_X2_signs rfl rfl rfl (by decide +kernel) ⟨Nat.le_of_ble_eq_true rfl, Nat.le_of_ble_eq_true rfl⟩) (va_recv hK.K hP (ci := 2) (q0 := 26) rfl at_26) hK hP hS rfl hl.1 rfl (Nat.le_of_ble_eq_true rfl) dL_law_547 ⟨hc, hs⟩ (fun r2 σ2 H2 locs2 h2 hP hS => ?_)
  have fin : σ2 26 0 = k ∧ (k = 0 → o1 0 = Int32.toInt64 r2) ∧ Inv σ2 σ2 (T + 1) := by
    rcases hw with ⟨rfl, r, h1, hz⟩ | ⟨u, hu, rfl, hz⟩
    · obtain ⟨s1, rfl, s3⟩ := sm_signs I0 h1 h2
      exact ⟨s1, fun _ => by rw [show o1 = _ from hz]; rfl, s3⟩
    · cases hz
      obtain ⟨s1, s2, s3⟩ := sx_signs I0 hu h2
      exact ⟨s1, fun z => absurd z s2, s3⟩
  obtain ⟨f1, f2, f3⟩ := fin
  refine lv_istore (lv' := [(6, .int r2), (5, .int k), (4, .int (nI i)), (0, .ref b), (1, .ref (e_a E 0)), (2, .ref (e_a E 26)), (3, .ref (e_a E 36))]) hx hb dL_law_550 hl (by decide) rfl (fun ls hl => ?_)
  refine lv_aload_n hx hb dL_law_552 rfl (lv_at hl 5 rfl) ?_
  refine k_Vi (E := E) (σ := σ2) (o := o1) (As := []) (rest := []) ⟨hx, hb, hml, hown, hts⟩ (mtX2_thrown l E hok σ2 o1) (cwV 0 hts gL_law_X2_thrown rfl rfl rfl (by decide +kernel) ⟨Nat.le_of_ble_eq_true rfl, Nat.le_of_ble_eq_true rfl⟩) (va_recv hK.K hP (ci := 2) (q0 := 26) rfl at_26) hK hP hS rfl hl.1 rfl (Nat.le_of_ble_eq_true rfl) dL_law_553 ⟨hc, hs⟩ (fun r3 σ3 H3 locs3 h3 hP hS => ?_)
  obtain ⟨h3, e3⟩ := h3
  rw [f1] at h3
  subst h3
  rw [e3] at hP
  refine lv_iload hx hb dL_law_556 (lv_at hl 1 rfl) ?_
  refine lv_icmp_eq (tgt := 563) hx hb dL_law_558 (by decide) (fun _ => ?_) (fun z => absurd rfl z)
  refine lv_iload hx hb dL_law_563 (lv_at hl 1 rfl) ?_
  have fin : ∀ (ls : Array Slot), lv_has ls 7 [(6, .int r2), (5, .int r3), (4, .int (nI i)), (0, .ref b), (1, .ref (e_a E 0)), (2, .ref (e_a E 26)), (3, .ref (e_a E 36))] → W p l e room_1 s m #[Value.ref b] below meth c H3 locs3 (cells + 5) (slots + 30) Q (F0 m 580 ls []) := fun ls hl => by
    refine lv_goto (tgt := 1239) hx hb dL_law_580 (by decide) ?_
    exact kk σ2 o1 H3 locs3 ls f3 hP hS (lv_sub hl [2, 3, 4, 5, 6] rfl)
  refine lv_if_ne (tgt := 580) hx hb dL_law_565 (by decide) (fun _ => fin ls hl) (fun z => ?_)
  have z0 := f2 z
  refine lv_aload_n hx hb dL_law_568 rfl (lv_at hl 6 rfl) ?_
  refine lv_iconst (v := 0) hx hb dL_law_569 (by decide) ?_
  refine q_lld hx hb hK hP dL_law_570 ?_
  refine lv_iload hx hb dL_law_571 (lv_at hl 0 rfl) ?_
  refine lv_i2l (v := r2.toInt64) hx hb dL_law_573 rfl ?_
  refine W.lcmp hx hb dL_law_574 ?_
  exact lv_if_eq (tgt := 580) hx hb dL_law_575 (by decide) (fun _ => fin ls hl) (fun z => absurd ((lg_cmp_eq _ _).mpr z0) z)
set_option maxHeartbeats 4000000 in
set_option maxRecDepth 100000 in
/-- chute -/
theorem law_chute {p : Program} {l : Launch} {e : Env} {s : State} {m : MethodId} {below : List Frame} {meth : Method} {c : Code} {b L : Nat} {xs : Nat → Int32} {Q : State → Prop} (F : LF p s m c b L xs) (hl0 : l.stackTraces = false) {E : Ev} (hok : e_ok E) (hB : e_B E = s.heap.size) (hK : KN E s) {σ : Mem} {o : Nat → Int64} {T i cells slots : Nat} (hT : T ≤ 512) (hi : i + 5 ≤ L) (hL : L ≤ 2560) (I : Inv σ σ T) {H : Heap} {locs : List Loc} {ls : Array Slot} (hP : va_P (e_D E) vwCl (wd E σ o) H) (hS : va_S (LB (e_B E)) s.heap H locs) (hl : lv_has ls 7 (lvL E b i)) (hc : cells + 5 ≤ 633918) (hs : slots + 30 ≤ 7194350) (kk : LK p l e s m below meth c b Q E T i cells slots) : W p l e room_1 s m #[Value.ref b] below meth c H locs cells slots Q (F0 m 583 ls []) := by
  obtain ⟨hx, hb, hml, hown, hts, hX, hbl⟩ := F
  have I0 := I
  obtain ⟨U, N, C, M, hC, hCT, hCR, hGR, hcl⟩ := I
  have hN := CR_okN M hCR
  refine lv_aload_n hx hb dL_law_583 rfl (lv_at hl 2 rfl) ?_
  refine la_arg 1 hx hb hX hbl hB hS (lv_at hl 1 rfl) (lv_at hl 0 rfl) (by omega) hL rfl dL_law_584 dL_law_585 dL_law_587 dL_law_588 dL_law_589 ?_
  refine la_arg 2 hx hb hX hbl hB hS (lv_at hl 1 rfl) (lv_at hl 0 rfl) (by omega) hL rfl dL_law_590 dL_law_591 dL_law_593 dL_law_594 dL_law_595 ?_
  refine lv_aload_n hx hb dL_law_596 rfl (lv_at hl 4 rfl) ?_
  refine va_calli (S := Mem × (Nat → Int64)) (vx_runSW (As := [.ref (e_a E 0), .int (xs (i + 1)), .int (xs (i + 2)), .ref (e_a E 36)]) (rest := []) ⟨hx, hb, hml, hown, hts⟩ (mtL_chute l hl0 E hok σ o (xs (i + 1)) (xs (i + 2)) N hN) (vx_cwSW 4 hts gL_law_L_chute rfl rfl rfl (by decide +kernel) ⟨Nat.le_of_ble_eq_true rfl, Nat.le_of_ble_eq_true rfl⟩) ⟨PW_blind, PW_pre hP hK hS⟩ rfl rfl hl.1 rfl (lv_room (Nat.le_of_ble_eq_true rfl)) dL_law_597 ⟨show cells + 2 ≤ 633918 by omega, show slots + 12 ≤ 7194350 by omega⟩) hS (fun _ _ h => h) (fun _ h => h) (fun k z t H1 locs1 ht _ hw hB1 _ _ hS => ?_)
  obtain ⟨σ1, o1⟩ := z
  have hP : va_P (e_D E) vwCl (wd E σ1 o1) H1 := by rw [← ht]; exact hB1
  refine W.widen (k := cells + 5) (n := slots + 30) (by omega) (by omega) ?_
  refine lv_istore (lv' := [(5, .int k), (4, .int (nI i)), (0, .ref b), (1, .ref (e_a E 0)), (2, .ref (e_a E 26)), (3, .ref (e_a E 36))]) hx hb dL_law_600 hl (by decide) rfl (fun ls hl => ?_)
  refine lv_aload_n hx hb dL_law_602 rfl (lv_at hl 4 rfl) ?_
  refine la_arg 1 hx hb hX hbl hB hS (lv_at hl 2 rfl) (lv_at hl 1 rfl) (by omega) hL rfl dL_law_603 dL_law_604 dL_law_606 dL_law_607 dL_law_608 ?_
  refine la_arg 2 hx hb hX hbl hB hS (lv_at hl 2 rfl) (lv_at hl 1 rfl) (by omega) hL rfl dL_law_609 dL_law_610 dL_law_612 dL_law_613 dL_law_614 ?_
  refine k_Vi (E := E) (σ := σ1) (o := o1) (As := [.int (xs (i + 1)), .int (xs (i + 2))]) (rest := []) ⟨hx, hb, hml, hown, hts⟩ (mtX2_chute l E hok σ1 o1 (xs (i + 1)) (xs (i + 2))) (cwV 2 hts gL_law_X2_chute rfl rfl rfl (by decide +kernel) ⟨Nat.le_of_ble_eq_true rfl, Nat.le_of_ble_eq_true rfl⟩) (va_recv hK.K hP (ci := 2) (q0 := 26) rfl at_26) hK hP hS rfl hl.1 rfl (Nat.le_of_ble_eq_true rfl) dL_law_615 ⟨hc, hs⟩ (fun r2 σ2 H2 locs2 h2 hP hS => ?_)
  have fin : σ2 26 0 = k ∧ (k = 0 → o1 0 = Int32.toInt64 r2) ∧ Inv σ2 σ2 (T + 1) := by
    rcases hw with ⟨rfl, r, h1, hz⟩ | ⟨u, hu, rfl, hz⟩
    · obtain ⟨s1, rfl, s3⟩ := sm_chute hN I0 h1 h2
      exact ⟨s1, fun _ => by rw [show o1 = _ from hz]; rfl, s3⟩
    · cases hz
      obtain ⟨s1, s2, s3⟩ := sx_chute I0 hu h2
      exact ⟨s1, fun z => absurd z s2, s3⟩
  obtain ⟨f1, f2, f3⟩ := fin
  refine lv_istore (lv' := [(6, .int r2), (5, .int k), (4, .int (nI i)), (0, .ref b), (1, .ref (e_a E 0)), (2, .ref (e_a E 26)), (3, .ref (e_a E 36))]) hx hb dL_law_618 hl (by decide) rfl (fun ls hl => ?_)
  refine lv_aload_n hx hb dL_law_620 rfl (lv_at hl 5 rfl) ?_
  refine k_Vi (E := E) (σ := σ2) (o := o1) (As := []) (rest := []) ⟨hx, hb, hml, hown, hts⟩ (mtX2_thrown l E hok σ2 o1) (cwV 0 hts gL_law_X2_thrown rfl rfl rfl (by decide +kernel) ⟨Nat.le_of_ble_eq_true rfl, Nat.le_of_ble_eq_true rfl⟩) (va_recv hK.K hP (ci := 2) (q0 := 26) rfl at_26) hK hP hS rfl hl.1 rfl (Nat.le_of_ble_eq_true rfl) dL_law_621 ⟨hc, hs⟩ (fun r3 σ3 H3 locs3 h3 hP hS => ?_)
  obtain ⟨h3, e3⟩ := h3
  rw [f1] at h3
  subst h3
  rw [e3] at hP
  refine lv_iload hx hb dL_law_624 (lv_at hl 1 rfl) ?_
  refine lv_icmp_eq (tgt := 631) hx hb dL_law_626 (by decide) (fun _ => ?_) (fun z => absurd rfl z)
  refine lv_iload hx hb dL_law_631 (lv_at hl 1 rfl) ?_
  have fin : ∀ (ls : Array Slot), lv_has ls 7 [(6, .int r2), (5, .int r3), (4, .int (nI i)), (0, .ref b), (1, .ref (e_a E 0)), (2, .ref (e_a E 26)), (3, .ref (e_a E 36))] → W p l e room_1 s m #[Value.ref b] below meth c H3 locs3 (cells + 5) (slots + 30) Q (F0 m 648 ls []) := fun ls hl => by
    refine lv_goto (tgt := 1239) hx hb dL_law_648 (by decide) ?_
    exact kk σ2 o1 H3 locs3 ls f3 hP hS (lv_sub hl [2, 3, 4, 5, 6] rfl)
  refine lv_if_ne (tgt := 648) hx hb dL_law_633 (by decide) (fun _ => fin ls hl) (fun z => ?_)
  have z0 := f2 z
  refine lv_aload_n hx hb dL_law_636 rfl (lv_at hl 6 rfl) ?_
  refine lv_iconst (v := 0) hx hb dL_law_637 (by decide) ?_
  refine q_lld hx hb hK hP dL_law_638 ?_
  refine lv_iload hx hb dL_law_639 (lv_at hl 0 rfl) ?_
  refine lv_i2l (v := r2.toInt64) hx hb dL_law_641 rfl ?_
  refine W.lcmp hx hb dL_law_642 ?_
  exact lv_if_eq (tgt := 648) hx hb dL_law_643 (by decide) (fun _ => fin ls hl) (fun z => absurd ((lg_cmp_eq _ _).mpr z0) z)
set_option maxHeartbeats 4000000 in
set_option maxRecDepth 100000 in
/-- weight -/
theorem law_weight {p : Program} {l : Launch} {e : Env} {s : State} {m : MethodId} {below : List Frame} {meth : Method} {c : Code} {b L : Nat} {xs : Nat → Int32} {Q : State → Prop} (F : LF p s m c b L xs) (hl0 : l.stackTraces = false) {E : Ev} (hok : e_ok E) (hB : e_B E = s.heap.size) (hK : KN E s) {σ : Mem} {o : Nat → Int64} {T i cells slots : Nat} (hT : T ≤ 512) (hi : i + 5 ≤ L) (hL : L ≤ 2560) (I : Inv σ σ T) {H : Heap} {locs : List Loc} {ls : Array Slot} (hP : va_P (e_D E) vwCl (wd E σ o) H) (hS : va_S (LB (e_B E)) s.heap H locs) (hl : lv_has ls 7 (lvL E b i)) (hc : cells + 5 ≤ 633918) (hs : slots + 30 ≤ 7194350) (kk : LK p l e s m below meth c b Q E T i cells slots) : W p l e room_1 s m #[Value.ref b] below meth c H locs cells slots Q (F0 m 651 ls []) := by
  obtain ⟨hx, hb, hml, hown, hts, hX, hbl⟩ := F
  have I0 := I
  obtain ⟨U, N, C, M, hC, hCT, hCR, hGR, hcl⟩ := I
  have hN := CR_okN M hCR
  refine lv_aload_n hx hb dL_law_651 rfl (lv_at hl 2 rfl) ?_
  refine la_arg 1 hx hb hX hbl hB hS (lv_at hl 1 rfl) (lv_at hl 0 rfl) (by omega) hL rfl dL_law_652 dL_law_653 dL_law_655 dL_law_656 dL_law_657 ?_
  refine la_arg 2 hx hb hX hbl hB hS (lv_at hl 1 rfl) (lv_at hl 0 rfl) (by omega) hL rfl dL_law_658 dL_law_659 dL_law_661 dL_law_662 dL_law_663 ?_
  refine lv_aload_n hx hb dL_law_664 rfl (lv_at hl 4 rfl) ?_
  refine va_calli (S := Mem × (Nat → Int64)) (vx_runSW (As := [.ref (e_a E 0), .int (xs (i + 1)), .int (xs (i + 2)), .ref (e_a E 36)]) (rest := []) ⟨hx, hb, hml, hown, hts⟩ (mtL_weight l hl0 E hok σ o (xs (i + 1)) (xs (i + 2)) N hN) (vx_cwSW 4 hts gL_law_L_weight rfl rfl rfl (by decide +kernel) ⟨Nat.le_of_ble_eq_true rfl, Nat.le_of_ble_eq_true rfl⟩) ⟨PW_blind, PW_pre hP hK hS⟩ rfl rfl hl.1 rfl (lv_room (Nat.le_of_ble_eq_true rfl)) dL_law_665 ⟨show cells + 2 ≤ 633918 by omega, show slots + 12 ≤ 7194350 by omega⟩) hS (fun _ _ h => h) (fun _ h => h) (fun k z t H1 locs1 ht _ hw hB1 _ _ hS => ?_)
  obtain ⟨σ1, o1⟩ := z
  have hP : va_P (e_D E) vwCl (wd E σ1 o1) H1 := by rw [← ht]; exact hB1
  refine W.widen (k := cells + 5) (n := slots + 30) (by omega) (by omega) ?_
  refine lv_istore (lv' := [(5, .int k), (4, .int (nI i)), (0, .ref b), (1, .ref (e_a E 0)), (2, .ref (e_a E 26)), (3, .ref (e_a E 36))]) hx hb dL_law_668 hl (by decide) rfl (fun ls hl => ?_)
  refine lv_aload_n hx hb dL_law_670 rfl (lv_at hl 4 rfl) ?_
  refine la_arg 1 hx hb hX hbl hB hS (lv_at hl 2 rfl) (lv_at hl 1 rfl) (by omega) hL rfl dL_law_671 dL_law_672 dL_law_674 dL_law_675 dL_law_676 ?_
  refine la_arg 2 hx hb hX hbl hB hS (lv_at hl 2 rfl) (lv_at hl 1 rfl) (by omega) hL rfl dL_law_677 dL_law_678 dL_law_680 dL_law_681 dL_law_682 ?_
  refine k_Vi (E := E) (σ := σ1) (o := o1) (As := [.int (xs (i + 1)), .int (xs (i + 2))]) (rest := []) ⟨hx, hb, hml, hown, hts⟩ (mtX2_weight l E hok σ1 o1 (xs (i + 1)) (xs (i + 2))) (cwV 2 hts gL_law_X2_weight rfl rfl rfl (by decide +kernel) ⟨Nat.le_of_ble_eq_true rfl, Nat.le_of_ble_eq_true rfl⟩) (va_recv hK.K hP (ci := 2) (q0 := 26) rfl at_26) hK hP hS rfl hl.1 rfl (Nat.le_of_ble_eq_true rfl) dL_law_683 ⟨hc, hs⟩ (fun r2 σ2 H2 locs2 h2 hP hS => ?_)
  have fin : σ2 26 0 = k ∧ (k = 0 → o1 0 = Int32.toInt64 r2) ∧ Inv σ2 σ2 (T + 1) := by
    rcases hw with ⟨rfl, r, h1, hz⟩ | ⟨u, hu, rfl, hz⟩
    · obtain ⟨s1, rfl, s3⟩ := sm_weight hN I0 h1 h2
      exact ⟨s1, fun _ => by rw [show o1 = _ from hz]; rfl, s3⟩
    · cases hz
      obtain ⟨s1, s2, s3⟩ := sx_weight hN I0 hu h2
      exact ⟨s1, fun z => absurd z s2, s3⟩
  obtain ⟨f1, f2, f3⟩ := fin
  refine lv_istore (lv' := [(6, .int r2), (5, .int k), (4, .int (nI i)), (0, .ref b), (1, .ref (e_a E 0)), (2, .ref (e_a E 26)), (3, .ref (e_a E 36))]) hx hb dL_law_686 hl (by decide) rfl (fun ls hl => ?_)
  refine lv_aload_n hx hb dL_law_688 rfl (lv_at hl 5 rfl) ?_
  refine k_Vi (E := E) (σ := σ2) (o := o1) (As := []) (rest := []) ⟨hx, hb, hml, hown, hts⟩ (mtX2_thrown l E hok σ2 o1) (cwV 0 hts gL_law_X2_thrown rfl rfl rfl (by decide +kernel) ⟨Nat.le_of_ble_eq_true rfl, Nat.le_of_ble_eq_true rfl⟩) (va_recv hK.K hP (ci := 2) (q0 := 26) rfl at_26) hK hP hS rfl hl.1 rfl (Nat.le_of_ble_eq_true rfl) dL_law_689 ⟨hc, hs⟩ (fun r3 σ3 H3 locs3 h3 hP hS => ?_)
  obtain ⟨h3, e3⟩ := h3
  rw [f1] at h3
  subst h3
  rw [e3] at hP
  refine lv_iload hx hb dL_law_692 (lv_at hl 1 rfl) ?_
  refine lv_icmp_eq (tgt := 699) hx hb dL_law_694 (by decide) (fun _ => ?_) (fun z => absurd rfl z)
  refine lv_iload hx hb dL_law_699 (lv_at hl 1 rfl) ?_
  have fin : ∀ (ls : Array Slot), lv_has ls 7 [(6, .int r2), (5, .int r3), (4, .int (nI i)), (0, .ref b), (1, .ref (e_a E 0)), (2, .ref (e_a E 26)), (3, .ref (e_a E 36))] → W p l e room_1 s m #[Value.ref b] below meth c H3 locs3 (cells + 5) (slots + 30) Q (F0 m 716 ls []) := fun ls hl => by
    refine lv_goto (tgt := 1239) hx hb dL_law_716 (by decide) ?_
    exact kk σ2 o1 H3 locs3 ls f3 hP hS (lv_sub hl [2, 3, 4, 5, 6] rfl)
  refine lv_if_ne (tgt := 716) hx hb dL_law_701 (by decide) (fun _ => fin ls hl) (fun z => ?_)
  have z0 := f2 z
  refine lv_aload_n hx hb dL_law_704 rfl (lv_at hl 6 rfl) ?_
  refine lv_iconst (v := 0) hx hb dL_law_705 (by decide) ?_
  refine q_lld hx hb hK hP dL_law_706 ?_
  refine lv_iload hx hb dL_law_707 (lv_at hl 0 rfl) ?_
  refine lv_i2l (v := r2.toInt64) hx hb dL_law_709 rfl ?_
  refine W.lcmp hx hb dL_law_710 ?_
  exact lv_if_eq (tgt := 716) hx hb dL_law_711 (by decide) (fun _ => fin ls hl) (fun z => absurd ((lg_cmp_eq _ _).mpr z0) z)
set_option maxHeartbeats 4000000 in
set_option maxRecDepth 100000 in
/-- girth -/
theorem law_girth {p : Program} {l : Launch} {e : Env} {s : State} {m : MethodId} {below : List Frame} {meth : Method} {c : Code} {b L : Nat} {xs : Nat → Int32} {Q : State → Prop} (F : LF p s m c b L xs) (hl0 : l.stackTraces = false) {E : Ev} (hok : e_ok E) (hB : e_B E = s.heap.size) (hK : KN E s) {σ : Mem} {o : Nat → Int64} {T i cells slots : Nat} (hT : T ≤ 512) (hi : i + 5 ≤ L) (hL : L ≤ 2560) (I : Inv σ σ T) {H : Heap} {locs : List Loc} {ls : Array Slot} (hP : va_P (e_D E) vwCl (wd E σ o) H) (hS : va_S (LB (e_B E)) s.heap H locs) (hl : lv_has ls 7 (lvL E b i)) (hc : cells + 5 ≤ 633918) (hs : slots + 30 ≤ 7194350) (kk : LK p l e s m below meth c b Q E T i cells slots) : W p l e room_1 s m #[Value.ref b] below meth c H locs cells slots Q (F0 m 719 ls []) := by
  obtain ⟨hx, hb, hml, hown, hts, hX, hbl⟩ := F
  have I0 := I
  obtain ⟨U, N, C, M, hC, hCT, hCR, hGR, hcl⟩ := I
  have hN := CR_okN M hCR
  refine lv_aload_n hx hb dL_law_719 rfl (lv_at hl 2 rfl) ?_
  refine la_arg 1 hx hb hX hbl hB hS (lv_at hl 1 rfl) (lv_at hl 0 rfl) (by omega) hL rfl dL_law_720 dL_law_721 dL_law_723 dL_law_724 dL_law_725 ?_
  refine la_arg 2 hx hb hX hbl hB hS (lv_at hl 1 rfl) (lv_at hl 0 rfl) (by omega) hL rfl dL_law_726 dL_law_727 dL_law_729 dL_law_730 dL_law_731 ?_
  refine lv_aload_n hx hb dL_law_732 rfl (lv_at hl 4 rfl) ?_
  refine va_calli (S := Mem × (Nat → Int64)) (vx_runSW (As := [.ref (e_a E 0), .int (xs (i + 1)), .int (xs (i + 2)), .ref (e_a E 36)]) (rest := []) ⟨hx, hb, hml, hown, hts⟩ (mtL_girth l hl0 E hok σ o (xs (i + 1)) (xs (i + 2)) N hN) (vx_cwSW 4 hts gL_law_L_girth rfl rfl rfl (by decide +kernel) ⟨Nat.le_of_ble_eq_true rfl, Nat.le_of_ble_eq_true rfl⟩) ⟨PW_blind, PW_pre hP hK hS⟩ rfl rfl hl.1 rfl (lv_room (Nat.le_of_ble_eq_true rfl)) dL_law_733 ⟨show cells + 2 ≤ 633918 by omega, show slots + 12 ≤ 7194350 by omega⟩) hS (fun _ _ h => h) (fun _ h => h) (fun k z t H1 locs1 ht _ hw hB1 _ _ hS => ?_)
  obtain ⟨σ1, o1⟩ := z
  have hP : va_P (e_D E) vwCl (wd E σ1 o1) H1 := by rw [← ht]; exact hB1
  refine W.widen (k := cells + 5) (n := slots + 30) (by omega) (by omega) ?_
  refine lv_istore (lv' := [(5, .int k), (4, .int (nI i)), (0, .ref b), (1, .ref (e_a E 0)), (2, .ref (e_a E 26)), (3, .ref (e_a E 36))]) hx hb dL_law_736 hl (by decide) rfl (fun ls hl => ?_)
  refine lv_aload_n hx hb dL_law_738 rfl (lv_at hl 4 rfl) ?_
  refine la_arg 1 hx hb hX hbl hB hS (lv_at hl 2 rfl) (lv_at hl 1 rfl) (by omega) hL rfl dL_law_739 dL_law_740 dL_law_742 dL_law_743 dL_law_744 ?_
  refine la_arg 2 hx hb hX hbl hB hS (lv_at hl 2 rfl) (lv_at hl 1 rfl) (by omega) hL rfl dL_law_745 dL_law_746 dL_law_748 dL_law_749 dL_law_750 ?_
  refine k_Vi (E := E) (σ := σ1) (o := o1) (As := [.int (xs (i + 1)), .int (xs (i + 2))]) (rest := []) ⟨hx, hb, hml, hown, hts⟩ (mtX2_girth l E hok σ1 o1 (xs (i + 1)) (xs (i + 2))) (cwV 2 hts gL_law_X2_girth rfl rfl rfl (by decide +kernel) ⟨Nat.le_of_ble_eq_true rfl, Nat.le_of_ble_eq_true rfl⟩) (va_recv hK.K hP (ci := 2) (q0 := 26) rfl at_26) hK hP hS rfl hl.1 rfl (Nat.le_of_ble_eq_true rfl) dL_law_751 ⟨hc, hs⟩ (fun r2 σ2 H2 locs2 h2 hP hS => ?_)
  have fin : σ2 26 0 = k ∧ (k = 0 → o1 0 = Int32.toInt64 r2) ∧ Inv σ2 σ2 (T + 1) := by
    rcases hw with ⟨rfl, r, h1, hz⟩ | ⟨u, hu, rfl, hz⟩
    · obtain ⟨s1, rfl, s3⟩ := sm_girth hN I0 h1 h2
      exact ⟨s1, fun _ => by rw [show o1 = _ from hz]; rfl, s3⟩
    · cases hz
      obtain ⟨s1, s2, s3⟩ := sx_girth hN I0 hu h2
      exact ⟨s1, fun z => absurd z s2, s3⟩
  obtain ⟨f1, f2, f3⟩ := fin
  refine lv_istore (lv' := [(6, .int r2), (5, .int k), (4, .int (nI i)), (0, .ref b), (1, .ref (e_a E 0)), (2, .ref (e_a E 26)), (3, .ref (e_a E 36))]) hx hb dL_law_754 hl (by decide) rfl (fun ls hl => ?_)
  refine lv_aload_n hx hb dL_law_756 rfl (lv_at hl 5 rfl) ?_
  refine k_Vi (E := E) (σ := σ2) (o := o1) (As := []) (rest := []) ⟨hx, hb, hml, hown, hts⟩ (mtX2_thrown l E hok σ2 o1) (cwV 0 hts gL_law_X2_thrown rfl rfl rfl (by decide +kernel) ⟨Nat.le_of_ble_eq_true rfl, Nat.le_of_ble_eq_true rfl⟩) (va_recv hK.K hP (ci := 2) (q0 := 26) rfl at_26) hK hP hS rfl hl.1 rfl (Nat.le_of_ble_eq_true rfl) dL_law_757 ⟨hc, hs⟩ (fun r3 σ3 H3 locs3 h3 hP hS => ?_)
  obtain ⟨h3, e3⟩ := h3
  rw [f1] at h3
  subst h3
  rw [e3] at hP
  refine lv_iload hx hb dL_law_760 (lv_at hl 1 rfl) ?_
  refine lv_icmp_eq (tgt := 767) hx hb dL_law_762 (by decide) (fun _ => ?_) (fun z => absurd rfl z)
  refine lv_iload hx hb dL_law_767 (lv_at hl 1 rfl) ?_
  have fin : ∀ (ls : Array Slot), lv_has ls 7 [(6, .int r2), (5, .int r3), (4, .int (nI i)), (0, .ref b), (1, .ref (e_a E 0)), (2, .ref (e_a E 26)), (3, .ref (e_a E 36))] → W p l e room_1 s m #[Value.ref b] below meth c H3 locs3 (cells + 5) (slots + 30) Q (F0 m 784 ls []) := fun ls hl => by
    refine lv_goto (tgt := 1239) hx hb dL_law_784 (by decide) ?_
    exact kk σ2 o1 H3 locs3 ls f3 hP hS (lv_sub hl [2, 3, 4, 5, 6] rfl)
  refine lv_if_ne (tgt := 784) hx hb dL_law_769 (by decide) (fun _ => fin ls hl) (fun z => ?_)
  have z0 := f2 z
  refine lv_aload_n hx hb dL_law_772 rfl (lv_at hl 6 rfl) ?_
  refine lv_iconst (v := 0) hx hb dL_law_773 (by decide) ?_
  refine q_lld hx hb hK hP dL_law_774 ?_
  refine lv_iload hx hb dL_law_775 (lv_at hl 0 rfl) ?_
  refine lv_i2l (v := r2.toInt64) hx hb dL_law_777 rfl ?_
  refine W.lcmp hx hb dL_law_778 ?_
  exact lv_if_eq (tgt := 784) hx hb dL_law_779 (by decide) (fun _ => fin ls hl) (fun z => absurd ((lg_cmp_eq _ _).mpr z0) z)
set_option maxHeartbeats 4000000 in
set_option maxRecDepth 100000 in
/-- below -/
theorem law_below {p : Program} {l : Launch} {e : Env} {s : State} {m : MethodId} {below : List Frame} {meth : Method} {c : Code} {b L : Nat} {xs : Nat → Int32} {Q : State → Prop} (F : LF p s m c b L xs) (hl0 : l.stackTraces = false) {E : Ev} (hok : e_ok E) (hB : e_B E = s.heap.size) (hK : KN E s) {σ : Mem} {o : Nat → Int64} {T i cells slots : Nat} (hT : T ≤ 512) (hi : i + 5 ≤ L) (hL : L ≤ 2560) (I : Inv σ σ T) {H : Heap} {locs : List Loc} {ls : Array Slot} (hP : va_P (e_D E) vwCl (wd E σ o) H) (hS : va_S (LB (e_B E)) s.heap H locs) (hl : lv_has ls 7 (lvL E b i)) (hc : cells + 5 ≤ 633918) (hs : slots + 30 ≤ 7194350) (kk : LK p l e s m below meth c b Q E T i cells slots) : W p l e room_1 s m #[Value.ref b] below meth c H locs cells slots Q (F0 m 787 ls []) := by
  obtain ⟨hx, hb, hml, hown, hts, hX, hbl⟩ := F
  have I0 := I
  obtain ⟨U, N, C, M, hC, hCT, hCR, hGR, hcl⟩ := I
  have hN := CR_okN M hCR
  refine lv_aload_n hx hb dL_law_787 rfl (lv_at hl 2 rfl) ?_
  refine la_arg 1 hx hb hX hbl hB hS (lv_at hl 1 rfl) (lv_at hl 0 rfl) (by omega) hL rfl dL_law_788 dL_law_789 dL_law_791 dL_law_792 dL_law_793 ?_
  refine la_arg 2 hx hb hX hbl hB hS (lv_at hl 1 rfl) (lv_at hl 0 rfl) (by omega) hL rfl dL_law_794 dL_law_795 dL_law_797 dL_law_798 dL_law_799 ?_
  refine lv_aload_n hx hb dL_law_800 rfl (lv_at hl 4 rfl) ?_
  refine va_calli (S := Mem × (Nat → Int64)) (vx_runSW (As := [.ref (e_a E 0), .int (xs (i + 1)), .int (xs (i + 2)), .ref (e_a E 36)]) (rest := []) ⟨hx, hb, hml, hown, hts⟩ (mtL_below l hl0 E hok σ o (xs (i + 1)) (xs (i + 2)) N hN) (vx_cwSW 4 hts gL_law_L_below rfl rfl rfl (by decide +kernel) ⟨Nat.le_of_ble_eq_true rfl, Nat.le_of_ble_eq_true rfl⟩) ⟨PW_blind, PW_pre hP hK hS⟩ rfl rfl hl.1 rfl (lv_room (Nat.le_of_ble_eq_true rfl)) dL_law_801 ⟨show cells + 2 ≤ 633918 by omega, show slots + 12 ≤ 7194350 by omega⟩) hS (fun _ _ h => h) (fun _ h => h) (fun k z t H1 locs1 ht _ hw hB1 _ _ hS => ?_)
  obtain ⟨σ1, o1⟩ := z
  have hP : va_P (e_D E) vwCl (wd E σ1 o1) H1 := by rw [← ht]; exact hB1
  refine W.widen (k := cells + 5) (n := slots + 30) (by omega) (by omega) ?_
  refine lv_istore (lv' := [(5, .int k), (4, .int (nI i)), (0, .ref b), (1, .ref (e_a E 0)), (2, .ref (e_a E 26)), (3, .ref (e_a E 36))]) hx hb dL_law_804 hl (by decide) rfl (fun ls hl => ?_)
  refine lv_aload_n hx hb dL_law_806 rfl (lv_at hl 4 rfl) ?_
  refine la_arg 1 hx hb hX hbl hB hS (lv_at hl 2 rfl) (lv_at hl 1 rfl) (by omega) hL rfl dL_law_807 dL_law_808 dL_law_810 dL_law_811 dL_law_812 ?_
  refine la_arg 2 hx hb hX hbl hB hS (lv_at hl 2 rfl) (lv_at hl 1 rfl) (by omega) hL rfl dL_law_813 dL_law_814 dL_law_816 dL_law_817 dL_law_818 ?_
  refine k_Vi (E := E) (σ := σ1) (o := o1) (As := [.int (xs (i + 1)), .int (xs (i + 2))]) (rest := []) ⟨hx, hb, hml, hown, hts⟩ (mtX2_below l E hok σ1 o1 (xs (i + 1)) (xs (i + 2))) (cwV 2 hts gL_law_X2_below rfl rfl rfl (by decide +kernel) ⟨Nat.le_of_ble_eq_true rfl, Nat.le_of_ble_eq_true rfl⟩) (va_recv hK.K hP (ci := 2) (q0 := 26) rfl at_26) hK hP hS rfl hl.1 rfl (Nat.le_of_ble_eq_true rfl) dL_law_819 ⟨hc, hs⟩ (fun r2 σ2 H2 locs2 h2 hP hS => ?_)
  have fin : σ2 26 0 = k ∧ (k = 0 → o1 0 = Int32.toInt64 r2) ∧ Inv σ2 σ2 (T + 1) := by
    rcases hw with ⟨rfl, r, h1, hz⟩ | ⟨u, hu, rfl, hz⟩
    · obtain ⟨s1, rfl, s3⟩ := sm_below hN I0 h1 h2
      exact ⟨s1, fun _ => by rw [show o1 = _ from hz]; rfl, s3⟩
    · cases hz
      obtain ⟨s1, s2, s3⟩ := sx_below I0 hu h2
      exact ⟨s1, fun z => absurd z s2, s3⟩
  obtain ⟨f1, f2, f3⟩ := fin
  refine lv_istore (lv' := [(6, .int r2), (5, .int k), (4, .int (nI i)), (0, .ref b), (1, .ref (e_a E 0)), (2, .ref (e_a E 26)), (3, .ref (e_a E 36))]) hx hb dL_law_822 hl (by decide) rfl (fun ls hl => ?_)
  refine lv_aload_n hx hb dL_law_824 rfl (lv_at hl 5 rfl) ?_
  refine k_Vi (E := E) (σ := σ2) (o := o1) (As := []) (rest := []) ⟨hx, hb, hml, hown, hts⟩ (mtX2_thrown l E hok σ2 o1) (cwV 0 hts gL_law_X2_thrown rfl rfl rfl (by decide +kernel) ⟨Nat.le_of_ble_eq_true rfl, Nat.le_of_ble_eq_true rfl⟩) (va_recv hK.K hP (ci := 2) (q0 := 26) rfl at_26) hK hP hS rfl hl.1 rfl (Nat.le_of_ble_eq_true rfl) dL_law_825 ⟨hc, hs⟩ (fun r3 σ3 H3 locs3 h3 hP hS => ?_)
  obtain ⟨h3, e3⟩ := h3
  rw [f1] at h3
  subst h3
  rw [e3] at hP
  refine lv_iload hx hb dL_law_828 (lv_at hl 1 rfl) ?_
  refine lv_icmp_eq (tgt := 835) hx hb dL_law_830 (by decide) (fun _ => ?_) (fun z => absurd rfl z)
  refine lv_iload hx hb dL_law_835 (lv_at hl 1 rfl) ?_
  have fin : ∀ (ls : Array Slot), lv_has ls 7 [(6, .int r2), (5, .int r3), (4, .int (nI i)), (0, .ref b), (1, .ref (e_a E 0)), (2, .ref (e_a E 26)), (3, .ref (e_a E 36))] → W p l e room_1 s m #[Value.ref b] below meth c H3 locs3 (cells + 5) (slots + 30) Q (F0 m 852 ls []) := fun ls hl => by
    refine lv_goto (tgt := 1239) hx hb dL_law_852 (by decide) ?_
    exact kk σ2 o1 H3 locs3 ls f3 hP hS (lv_sub hl [2, 3, 4, 5, 6] rfl)
  refine lv_if_ne (tgt := 852) hx hb dL_law_837 (by decide) (fun _ => fin ls hl) (fun z => ?_)
  have z0 := f2 z
  refine lv_aload_n hx hb dL_law_840 rfl (lv_at hl 6 rfl) ?_
  refine lv_iconst (v := 0) hx hb dL_law_841 (by decide) ?_
  refine q_lld hx hb hK hP dL_law_842 ?_
  refine lv_iload hx hb dL_law_843 (lv_at hl 0 rfl) ?_
  refine lv_i2l (v := r2.toInt64) hx hb dL_law_845 rfl ?_
  refine W.lcmp hx hb dL_law_846 ?_
  exact lv_if_eq (tgt := 852) hx hb dL_law_847 (by decide) (fun _ => fin ls hl) (fun z => absurd ((lg_cmp_eq _ _).mpr z0) z)
set_option maxHeartbeats 4000000 in
set_option maxRecDepth 100000 in
/-- take -/
theorem law_take {p : Program} {l : Launch} {e : Env} {s : State} {m : MethodId} {below : List Frame} {meth : Method} {c : Code} {b L : Nat} {xs : Nat → Int32} {Q : State → Prop} (F : LF p s m c b L xs) (hl0 : l.stackTraces = false) {E : Ev} (hok : e_ok E) (hB : e_B E = s.heap.size) (hK : KN E s) {σ : Mem} {o : Nat → Int64} {T i cells slots : Nat} (hT : T ≤ 512) (hi : i + 5 ≤ L) (hL : L ≤ 2560) (I : Inv σ σ T) {H : Heap} {locs : List Loc} {ls : Array Slot} (hP : va_P (e_D E) vwCl (wd E σ o) H) (hS : va_S (LB (e_B E)) s.heap H locs) (hl : lv_has ls 7 (lvL E b i)) (hc : cells + 5 ≤ 633918) (hs : slots + 30 ≤ 7194350) (kk : LK p l e s m below meth c b Q E T i cells slots) : W p l e room_1 s m #[Value.ref b] below meth c H locs cells slots Q (F0 m 855 ls []) := by
  obtain ⟨hx, hb, hml, hown, hts, hX, hbl⟩ := F
  have I0 := I
  obtain ⟨U, N, C, M, hC, hCT, hCR, hGR, hcl⟩ := I
  have hN := CR_okN M hCR
  refine lv_aload_n hx hb dL_law_855 rfl (lv_at hl 2 rfl) ?_
  refine la_arg 1 hx hb hX hbl hB hS (lv_at hl 1 rfl) (lv_at hl 0 rfl) (by omega) hL rfl dL_law_856 dL_law_857 dL_law_859 dL_law_860 dL_law_861 ?_
  refine la_arg 2 hx hb hX hbl hB hS (lv_at hl 1 rfl) (lv_at hl 0 rfl) (by omega) hL rfl dL_law_862 dL_law_863 dL_law_865 dL_law_866 dL_law_867 ?_
  refine lv_aload_n hx hb dL_law_868 rfl (lv_at hl 4 rfl) ?_
  refine va_calli (S := Mem × (Nat → Int64)) (vx_runSW (As := [.ref (e_a E 0), .int (xs (i + 1)), .int (xs (i + 2)), .ref (e_a E 36)]) (rest := []) ⟨hx, hb, hml, hown, hts⟩ (mtL_take l hl0 E hok σ o (xs (i + 1)) (xs (i + 2)) N hN) (vx_cwSW 4 hts gL_law_L_take rfl rfl rfl (by decide +kernel) ⟨Nat.le_of_ble_eq_true rfl, Nat.le_of_ble_eq_true rfl⟩) ⟨PW_blind, PW_pre hP hK hS⟩ rfl rfl hl.1 rfl (lv_room (Nat.le_of_ble_eq_true rfl)) dL_law_869 ⟨show cells + 3 ≤ 633918 by omega, show slots + 18 ≤ 7194350 by omega⟩) hS (fun _ _ h => h) (fun _ h => h) (fun k z t H1 locs1 ht _ hw hB1 _ _ hS => ?_)
  obtain ⟨σ1, o1⟩ := z
  have hP : va_P (e_D E) vwCl (wd E σ1 o1) H1 := by rw [← ht]; exact hB1
  refine W.widen (k := cells + 5) (n := slots + 30) (by omega) (by omega) ?_
  refine lv_istore (lv' := [(5, .int k), (4, .int (nI i)), (0, .ref b), (1, .ref (e_a E 0)), (2, .ref (e_a E 26)), (3, .ref (e_a E 36))]) hx hb dL_law_872 hl (by decide) rfl (fun ls hl => ?_)
  refine lv_aload_n hx hb dL_law_874 rfl (lv_at hl 4 rfl) ?_
  refine la_arg 1 hx hb hX hbl hB hS (lv_at hl 2 rfl) (lv_at hl 1 rfl) (by omega) hL rfl dL_law_875 dL_law_876 dL_law_878 dL_law_879 dL_law_880 ?_
  refine la_arg 2 hx hb hX hbl hB hS (lv_at hl 2 rfl) (lv_at hl 1 rfl) (by omega) hL rfl dL_law_881 dL_law_882 dL_law_884 dL_law_885 dL_law_886 ?_
  refine k_Vi (E := E) (σ := σ1) (o := o1) (As := [.int (xs (i + 1)), .int (xs (i + 2))]) (rest := []) ⟨hx, hb, hml, hown, hts⟩ (mtX2_take l E hok σ1 o1 (xs (i + 1)) (xs (i + 2))) (cwV 2 hts gL_law_X2_take rfl rfl rfl (by decide +kernel) ⟨Nat.le_of_ble_eq_true rfl, Nat.le_of_ble_eq_true rfl⟩) (va_recv hK.K hP (ci := 2) (q0 := 26) rfl at_26) hK hP hS rfl hl.1 rfl (Nat.le_of_ble_eq_true rfl) dL_law_887 ⟨hc, hs⟩ (fun r2 σ2 H2 locs2 h2 hP hS => ?_)
  have fin : σ2 26 0 = k ∧ (k = 0 → o1 0 = Int32.toInt64 r2) ∧ Inv σ2 σ2 (T + 1) := by
    rcases hw with ⟨rfl, r, h1, hz⟩ | ⟨u, hu, rfl, hz⟩
    · obtain ⟨s1, rfl, s3⟩ := sm_take hN I0 h1 h2
      exact ⟨s1, fun _ => by rw [show o1 = _ from hz]; rfl, s3⟩
    · cases hz
      obtain ⟨s1, s2, s3⟩ := sx_take hN I0 hu h2
      exact ⟨s1, fun z => absurd z s2, s3⟩
  obtain ⟨f1, f2, f3⟩ := fin
  refine lv_istore (lv' := [(6, .int r2), (5, .int k), (4, .int (nI i)), (0, .ref b), (1, .ref (e_a E 0)), (2, .ref (e_a E 26)), (3, .ref (e_a E 36))]) hx hb dL_law_890 hl (by decide) rfl (fun ls hl => ?_)
  refine lv_aload_n hx hb dL_law_892 rfl (lv_at hl 5 rfl) ?_
  refine k_Vi (E := E) (σ := σ2) (o := o1) (As := []) (rest := []) ⟨hx, hb, hml, hown, hts⟩ (mtX2_thrown l E hok σ2 o1) (cwV 0 hts gL_law_X2_thrown rfl rfl rfl (by decide +kernel) ⟨Nat.le_of_ble_eq_true rfl, Nat.le_of_ble_eq_true rfl⟩) (va_recv hK.K hP (ci := 2) (q0 := 26) rfl at_26) hK hP hS rfl hl.1 rfl (Nat.le_of_ble_eq_true rfl) dL_law_893 ⟨hc, hs⟩ (fun r3 σ3 H3 locs3 h3 hP hS => ?_)
  obtain ⟨h3, e3⟩ := h3
  rw [f1] at h3
  subst h3
  rw [e3] at hP
  refine lv_iload hx hb dL_law_896 (lv_at hl 1 rfl) ?_
  refine lv_icmp_eq (tgt := 903) hx hb dL_law_898 (by decide) (fun _ => ?_) (fun z => absurd rfl z)
  refine lv_iload hx hb dL_law_903 (lv_at hl 1 rfl) ?_
  have fin : ∀ (ls : Array Slot), lv_has ls 7 [(6, .int r2), (5, .int r3), (4, .int (nI i)), (0, .ref b), (1, .ref (e_a E 0)), (2, .ref (e_a E 26)), (3, .ref (e_a E 36))] → W p l e room_1 s m #[Value.ref b] below meth c H3 locs3 (cells + 5) (slots + 30) Q (F0 m 920 ls []) := fun ls hl => by
    refine lv_goto (tgt := 1239) hx hb dL_law_920 (by decide) ?_
    exact kk σ2 o1 H3 locs3 ls f3 hP hS (lv_sub hl [2, 3, 4, 5, 6] rfl)
  refine lv_if_ne (tgt := 920) hx hb dL_law_905 (by decide) (fun _ => fin ls hl) (fun z => ?_)
  have z0 := f2 z
  refine lv_aload_n hx hb dL_law_908 rfl (lv_at hl 6 rfl) ?_
  refine lv_iconst (v := 0) hx hb dL_law_909 (by decide) ?_
  refine q_lld hx hb hK hP dL_law_910 ?_
  refine lv_iload hx hb dL_law_911 (lv_at hl 0 rfl) ?_
  refine lv_i2l (v := r2.toInt64) hx hb dL_law_913 rfl ?_
  refine W.lcmp hx hb dL_law_914 ?_
  exact lv_if_eq (tgt := 920) hx hb dL_law_915 (by decide) (fun _ => fin ls hl) (fun z => absurd ((lg_cmp_eq _ _).mpr z0) z)
set_option maxHeartbeats 4000000 in
set_option maxRecDepth 100000 in
/-- pour -/
theorem law_pour {p : Program} {l : Launch} {e : Env} {s : State} {m : MethodId} {below : List Frame} {meth : Method} {c : Code} {b L : Nat} {xs : Nat → Int32} {Q : State → Prop} (F : LF p s m c b L xs) (hl0 : l.stackTraces = false) {E : Ev} (hok : e_ok E) (hB : e_B E = s.heap.size) (hK : KN E s) {σ : Mem} {o : Nat → Int64} {T i cells slots : Nat} (hT : T ≤ 512) (hi : i + 5 ≤ L) (hL : L ≤ 2560) (I : Inv σ σ T) {H : Heap} {locs : List Loc} {ls : Array Slot} (hP : va_P (e_D E) vwCl (wd E σ o) H) (hS : va_S (LB (e_B E)) s.heap H locs) (hl : lv_has ls 7 (lvL E b i)) (hc : cells + 5 ≤ 633918) (hs : slots + 30 ≤ 7194350) (kk : LK p l e s m below meth c b Q E T i cells slots) : W p l e room_1 s m #[Value.ref b] below meth c H locs cells slots Q (F0 m 923 ls []) := by
  obtain ⟨hx, hb, hml, hown, hts, hX, hbl⟩ := F
  have I0 := I
  obtain ⟨U, N, C, M, hC, hCT, hCR, hGR, hcl⟩ := I
  have hN := CR_okN M hCR
  refine lv_aload_n hx hb dL_law_923 rfl (lv_at hl 2 rfl) ?_
  refine la_arg 1 hx hb hX hbl hB hS (lv_at hl 1 rfl) (lv_at hl 0 rfl) (by omega) hL rfl dL_law_924 dL_law_925 dL_law_927 dL_law_928 dL_law_929 ?_
  refine la_arg 2 hx hb hX hbl hB hS (lv_at hl 1 rfl) (lv_at hl 0 rfl) (by omega) hL rfl dL_law_930 dL_law_931 dL_law_933 dL_law_934 dL_law_935 ?_
  refine lv_aload_n hx hb dL_law_936 rfl (lv_at hl 4 rfl) ?_
  refine va_calli (S := Mem × (Nat → Int64)) (vx_runSW (As := [.ref (e_a E 0), .int (xs (i + 1)), .int (xs (i + 2)), .ref (e_a E 36)]) (rest := []) ⟨hx, hb, hml, hown, hts⟩ (mtL_pour l hl0 E hok σ o (xs (i + 1)) (xs (i + 2)) N hN) (vx_cwSW 4 hts gL_law_L_pour rfl rfl rfl (by decide +kernel) ⟨Nat.le_of_ble_eq_true rfl, Nat.le_of_ble_eq_true rfl⟩) ⟨PW_blind, PW_pre hP hK hS⟩ rfl rfl hl.1 rfl (lv_room (Nat.le_of_ble_eq_true rfl)) dL_law_937 ⟨show cells + 3 ≤ 633918 by omega, show slots + 18 ≤ 7194350 by omega⟩) hS (fun _ _ h => h) (fun _ h => h) (fun k z t H1 locs1 ht _ hw hB1 _ _ hS => ?_)
  obtain ⟨σ1, o1⟩ := z
  have hP : va_P (e_D E) vwCl (wd E σ1 o1) H1 := by rw [← ht]; exact hB1
  refine W.widen (k := cells + 5) (n := slots + 30) (by omega) (by omega) ?_
  have hh : ∀ j, 26 ≤ j → σ1 j = σ j := by
    rcases hw with ⟨-, r, h1, -⟩ | ⟨u, -, -, hz⟩
    · exact ph_pour h1
    · cases hz; exact fun _ _ => rfl
  refine lv_istore (lv' := [(5, .int k), (4, .int (nI i)), (0, .ref b), (1, .ref (e_a E 0)), (2, .ref (e_a E 26)), (3, .ref (e_a E 36))]) hx hb dL_law_940 hl (by decide) rfl (fun ls hl => ?_)
  refine lv_aload_n hx hb dL_law_942 rfl (lv_at hl 4 rfl) ?_
  refine la_arg 1 hx hb hX hbl hB hS (lv_at hl 2 rfl) (lv_at hl 1 rfl) (by omega) hL rfl dL_law_943 dL_law_944 dL_law_946 dL_law_947 dL_law_948 ?_
  refine la_arg 2 hx hb hX hbl hB hS (lv_at hl 2 rfl) (lv_at hl 1 rfl) (by omega) hL rfl dL_law_949 dL_law_950 dL_law_952 dL_law_953 dL_law_954 ?_
  refine k_Vi (E := E) (σ := σ1) (o := o1) (As := [.int (xs (i + 1)), .int (xs (i + 2))]) (rest := []) ⟨hx, hb, hml, hown, hts⟩ (mtX2_pour l E hok σ1 o1 (xs (i + 1)) (xs (i + 2)) U N C (by rw [hh 27 (by omega), hh 28 (by omega), hh 30 (by omega)]; exact M) (by rw [hh 26 (by omega)]; exact hC) (by omega)) (cwV 2 hts gL_law_X2_pour rfl rfl rfl (by decide +kernel) ⟨Nat.le_of_ble_eq_true rfl, Nat.le_of_ble_eq_true rfl⟩) (va_recv hK.K hP (ci := 2) (q0 := 26) rfl at_26) hK hP hS rfl hl.1 rfl (Nat.le_of_ble_eq_true rfl) dL_law_955 ⟨hc, hs⟩ (fun r2 σ2 H2 locs2 h2 hP hS => ?_)
  have fin : σ2 26 0 = k ∧ (k = 0 → o1 0 = Int32.toInt64 r2) ∧ Inv σ2 σ2 (T + 1) := by
    rcases hw with ⟨rfl, r, h1, hz⟩ | ⟨u, hu, rfl, hz⟩
    · obtain ⟨s1, rfl, s3⟩ := sm_pour (by omega) M hC hCT hCR hGR hcl h1 h2
      exact ⟨s1, fun _ => by rw [show o1 = _ from hz]; rfl, s3⟩
    · cases hz
      obtain ⟨s1, s2, s3⟩ := sx_pour I0 hu h2
      exact ⟨s1, fun z => absurd z s2, s3⟩
  obtain ⟨f1, f2, f3⟩ := fin
  refine lv_istore (lv' := [(6, .int r2), (5, .int k), (4, .int (nI i)), (0, .ref b), (1, .ref (e_a E 0)), (2, .ref (e_a E 26)), (3, .ref (e_a E 36))]) hx hb dL_law_958 hl (by decide) rfl (fun ls hl => ?_)
  refine lv_aload_n hx hb dL_law_960 rfl (lv_at hl 5 rfl) ?_
  refine k_Vi (E := E) (σ := σ2) (o := o1) (As := []) (rest := []) ⟨hx, hb, hml, hown, hts⟩ (mtX2_thrown l E hok σ2 o1) (cwV 0 hts gL_law_X2_thrown rfl rfl rfl (by decide +kernel) ⟨Nat.le_of_ble_eq_true rfl, Nat.le_of_ble_eq_true rfl⟩) (va_recv hK.K hP (ci := 2) (q0 := 26) rfl at_26) hK hP hS rfl hl.1 rfl (Nat.le_of_ble_eq_true rfl) dL_law_961 ⟨hc, hs⟩ (fun r3 σ3 H3 locs3 h3 hP hS => ?_)
  obtain ⟨h3, e3⟩ := h3
  rw [f1] at h3
  subst h3
  rw [e3] at hP
  refine lv_iload hx hb dL_law_964 (lv_at hl 1 rfl) ?_
  refine lv_icmp_eq (tgt := 971) hx hb dL_law_966 (by decide) (fun _ => ?_) (fun z => absurd rfl z)
  refine lv_iload hx hb dL_law_971 (lv_at hl 1 rfl) ?_
  have fin : ∀ (ls : Array Slot), lv_has ls 7 [(6, .int r2), (5, .int r3), (4, .int (nI i)), (0, .ref b), (1, .ref (e_a E 0)), (2, .ref (e_a E 26)), (3, .ref (e_a E 36))] → W p l e room_1 s m #[Value.ref b] below meth c H3 locs3 (cells + 5) (slots + 30) Q (F0 m 988 ls []) := fun ls hl => by
    refine lv_goto (tgt := 1239) hx hb dL_law_988 (by decide) ?_
    exact kk σ2 o1 H3 locs3 ls f3 hP hS (lv_sub hl [2, 3, 4, 5, 6] rfl)
  refine lv_if_ne (tgt := 988) hx hb dL_law_973 (by decide) (fun _ => fin ls hl) (fun z => ?_)
  have z0 := f2 z
  refine lv_aload_n hx hb dL_law_976 rfl (lv_at hl 6 rfl) ?_
  refine lv_iconst (v := 0) hx hb dL_law_977 (by decide) ?_
  refine q_lld hx hb hK hP dL_law_978 ?_
  refine lv_iload hx hb dL_law_979 (lv_at hl 0 rfl) ?_
  refine lv_i2l (v := r2.toInt64) hx hb dL_law_981 rfl ?_
  refine W.lcmp hx hb dL_law_982 ?_
  exact lv_if_eq (tgt := 988) hx hb dL_law_983 (by decide) (fun _ => fin ls hl) (fun z => absurd ((lg_cmp_eq _ _).mpr z0) z)
set_option maxHeartbeats 4000000 in
set_option maxRecDepth 100000 in
/-- sweep -/
theorem law_sweep {p : Program} {l : Launch} {e : Env} {s : State} {m : MethodId} {below : List Frame} {meth : Method} {c : Code} {b L : Nat} {xs : Nat → Int32} {Q : State → Prop} (F : LF p s m c b L xs) (hl0 : l.stackTraces = false) {E : Ev} (hok : e_ok E) (hB : e_B E = s.heap.size) (hK : KN E s) {σ : Mem} {o : Nat → Int64} {T i cells slots : Nat} (hT : T ≤ 512) (hi : i + 5 ≤ L) (hL : L ≤ 2560) (I : Inv σ σ T) {H : Heap} {locs : List Loc} {ls : Array Slot} (hP : va_P (e_D E) vwCl (wd E σ o) H) (hS : va_S (LB (e_B E)) s.heap H locs) (hl : lv_has ls 7 (lvL E b i)) (hc : cells + 5 ≤ 633918) (hs : slots + 30 ≤ 7194350) (kk : LK p l e s m below meth c b Q E T i cells slots) : W p l e room_1 s m #[Value.ref b] below meth c H locs cells slots Q (F0 m 991 ls []) := by
  obtain ⟨hx, hb, hml, hown, hts, hX, hbl⟩ := F
  have I0 := I
  obtain ⟨U, N, C, M, hC, hCT, hCR, hGR, hcl⟩ := I
  have hN := CR_okN M hCR
  refine lv_aload_n hx hb dL_law_991 rfl (lv_at hl 2 rfl) ?_
  refine la_arg 1 hx hb hX hbl hB hS (lv_at hl 1 rfl) (lv_at hl 0 rfl) (by omega) hL rfl dL_law_992 dL_law_993 dL_law_995 dL_law_996 dL_law_997 ?_
  refine lv_aload_n hx hb dL_law_998 rfl (lv_at hl 4 rfl) ?_
  refine va_calli (S := Mem × (Nat → Int64)) (vx_runSW (As := [.ref (e_a E 0), .int (xs (i + 1)), .ref (e_a E 36)]) (rest := []) ⟨hx, hb, hml, hown, hts⟩ (mtL_sweep l hl0 E hok σ o (xs (i + 1)) N hN) (vx_cwSW 3 hts gL_law_L_sweep rfl rfl rfl (by decide +kernel) ⟨Nat.le_of_ble_eq_true rfl, Nat.le_of_ble_eq_true rfl⟩) ⟨PW_blind, PW_pre hP hK hS⟩ rfl rfl hl.1 rfl (lv_room (Nat.le_of_ble_eq_true rfl)) dL_law_999 ⟨show cells + 1 ≤ 633918 by omega, show slots + 6 ≤ 7194350 by omega⟩) hS (fun _ _ h => h) (fun _ h => h) (fun k z t H1 locs1 ht _ hw hB1 _ _ hS => ?_)
  obtain ⟨σ1, o1⟩ := z
  have hP : va_P (e_D E) vwCl (wd E σ1 o1) H1 := by rw [← ht]; exact hB1
  refine W.widen (k := cells + 5) (n := slots + 30) (by omega) (by omega) ?_
  have hh : ∀ j, 26 ≤ j → σ1 j = σ j := by
    rcases hw with ⟨-, r, h1, -⟩ | ⟨u, -, -, hz⟩
    · exact ph_sweep h1
    · cases hz; exact fun _ _ => rfl
  refine lv_istore (lv' := [(5, .int k), (4, .int (nI i)), (0, .ref b), (1, .ref (e_a E 0)), (2, .ref (e_a E 26)), (3, .ref (e_a E 36))]) hx hb dL_law_1002 hl (by decide) rfl (fun ls hl => ?_)
  refine lv_aload_n hx hb dL_law_1004 rfl (lv_at hl 4 rfl) ?_
  refine la_arg 1 hx hb hX hbl hB hS (lv_at hl 2 rfl) (lv_at hl 1 rfl) (by omega) hL rfl dL_law_1005 dL_law_1006 dL_law_1008 dL_law_1009 dL_law_1010 ?_
  refine k_Vi (E := E) (σ := σ1) (o := o1) (As := [.int (xs (i + 1))]) (rest := []) ⟨hx, hb, hml, hown, hts⟩ (mtX2_sweep l E hok σ1 o1 (xs (i + 1)) U N C (by rw [hh 27 (by omega), hh 28 (by omega), hh 30 (by omega)]; exact M) (by rw [hh 26 (by omega)]; exact hC) (by omega)) (cwV 1 hts gL_law_X2_sweep rfl rfl rfl (by decide +kernel) ⟨Nat.le_of_ble_eq_true rfl, Nat.le_of_ble_eq_true rfl⟩) (va_recv hK.K hP (ci := 2) (q0 := 26) rfl at_26) hK hP hS rfl hl.1 rfl (Nat.le_of_ble_eq_true rfl) dL_law_1011 ⟨hc, hs⟩ (fun r2 σ2 H2 locs2 h2 hP hS => ?_)
  have fin : σ2 26 0 = k ∧ (k = 0 → o1 0 = Int32.toInt64 r2) ∧ Inv σ2 σ2 (T + 1) := by
    rcases hw with ⟨rfl, r, h1, hz⟩ | ⟨u, hu, rfl, hz⟩
    · obtain ⟨s1, rfl, s3⟩ := sm_sweep M hC hCT hCR hGR hcl h1 h2
      exact ⟨s1, fun _ => by rw [show o1 = _ from hz]; rfl, s3⟩
    · cases hz
      obtain ⟨s1, s2, s3⟩ := sx_sweep I0 hu h2
      exact ⟨s1, fun z => absurd z s2, s3⟩
  obtain ⟨f1, f2, f3⟩ := fin
  refine lv_istore (lv' := [(6, .int r2), (5, .int k), (4, .int (nI i)), (0, .ref b), (1, .ref (e_a E 0)), (2, .ref (e_a E 26)), (3, .ref (e_a E 36))]) hx hb dL_law_1014 hl (by decide) rfl (fun ls hl => ?_)
  refine lv_aload_n hx hb dL_law_1016 rfl (lv_at hl 5 rfl) ?_
  refine k_Vi (E := E) (σ := σ2) (o := o1) (As := []) (rest := []) ⟨hx, hb, hml, hown, hts⟩ (mtX2_thrown l E hok σ2 o1) (cwV 0 hts gL_law_X2_thrown rfl rfl rfl (by decide +kernel) ⟨Nat.le_of_ble_eq_true rfl, Nat.le_of_ble_eq_true rfl⟩) (va_recv hK.K hP (ci := 2) (q0 := 26) rfl at_26) hK hP hS rfl hl.1 rfl (Nat.le_of_ble_eq_true rfl) dL_law_1017 ⟨hc, hs⟩ (fun r3 σ3 H3 locs3 h3 hP hS => ?_)
  obtain ⟨h3, e3⟩ := h3
  rw [f1] at h3
  subst h3
  rw [e3] at hP
  refine lv_iload hx hb dL_law_1020 (lv_at hl 1 rfl) ?_
  refine lv_icmp_eq (tgt := 1027) hx hb dL_law_1022 (by decide) (fun _ => ?_) (fun z => absurd rfl z)
  refine lv_iload hx hb dL_law_1027 (lv_at hl 1 rfl) ?_
  have fin : ∀ (ls : Array Slot), lv_has ls 7 [(6, .int r2), (5, .int r3), (4, .int (nI i)), (0, .ref b), (1, .ref (e_a E 0)), (2, .ref (e_a E 26)), (3, .ref (e_a E 36))] → W p l e room_1 s m #[Value.ref b] below meth c H3 locs3 (cells + 5) (slots + 30) Q (F0 m 1044 ls []) := fun ls hl => by
    refine lv_goto (tgt := 1239) hx hb dL_law_1044 (by decide) ?_
    exact kk σ2 o1 H3 locs3 ls f3 hP hS (lv_sub hl [2, 3, 4, 5, 6] rfl)
  refine lv_if_ne (tgt := 1044) hx hb dL_law_1029 (by decide) (fun _ => fin ls hl) (fun z => ?_)
  have z0 := f2 z
  refine lv_aload_n hx hb dL_law_1032 rfl (lv_at hl 6 rfl) ?_
  refine lv_iconst (v := 0) hx hb dL_law_1033 (by decide) ?_
  refine q_lld hx hb hK hP dL_law_1034 ?_
  refine lv_iload hx hb dL_law_1035 (lv_at hl 0 rfl) ?_
  refine lv_i2l (v := r2.toInt64) hx hb dL_law_1037 rfl ?_
  refine W.lcmp hx hb dL_law_1038 ?_
  exact lv_if_eq (tgt := 1044) hx hb dL_law_1039 (by decide) (fun _ => fin ls hl) (fun z => absurd ((lg_cmp_eq _ _).mpr z0) z)
set_option maxHeartbeats 4000000 in
set_option maxRecDepth 100000 in
/-- heavier -/
theorem law_heavier {p : Program} {l : Launch} {e : Env} {s : State} {m : MethodId} {below : List Frame} {meth : Method} {c : Code} {b L : Nat} {xs : Nat → Int32} {Q : State → Prop} (F : LF p s m c b L xs) (hl0 : l.stackTraces = false) {E : Ev} (hok : e_ok E) (hB : e_B E = s.heap.size) (hK : KN E s) {σ : Mem} {o : Nat → Int64} {T i cells slots : Nat} (hT : T ≤ 512) (hi : i + 5 ≤ L) (hL : L ≤ 2560) (I : Inv σ σ T) {H : Heap} {locs : List Loc} {ls : Array Slot} (hP : va_P (e_D E) vwCl (wd E σ o) H) (hS : va_S (LB (e_B E)) s.heap H locs) (hl : lv_has ls 7 (lvL E b i)) (hc : cells + 5 ≤ 633918) (hs : slots + 30 ≤ 7194350) (kk : LK p l e s m below meth c b Q E T i cells slots) : W p l e room_1 s m #[Value.ref b] below meth c H locs cells slots Q (F0 m 1047 ls []) := by
  obtain ⟨hx, hb, hml, hown, hts, hX, hbl⟩ := F
  have I0 := I
  obtain ⟨U, N, C, M, hC, hCT, hCR, hGR, hcl⟩ := I
  have hN := CR_okN M hCR
  refine lv_aload_n hx hb dL_law_1047 rfl (lv_at hl 2 rfl) ?_
  refine la_arg 1 hx hb hX hbl hB hS (lv_at hl 1 rfl) (lv_at hl 0 rfl) (by omega) hL rfl dL_law_1048 dL_law_1049 dL_law_1051 dL_law_1052 dL_law_1053 ?_
  refine la_arg 2 hx hb hX hbl hB hS (lv_at hl 1 rfl) (lv_at hl 0 rfl) (by omega) hL rfl dL_law_1054 dL_law_1055 dL_law_1057 dL_law_1058 dL_law_1059 ?_
  refine lv_aload_n hx hb dL_law_1060 rfl (lv_at hl 4 rfl) ?_
  refine va_calli (S := Mem × (Nat → Int64)) (vx_runSW (As := [.ref (e_a E 0), .int (xs (i + 1)), .int (xs (i + 2)), .ref (e_a E 36)]) (rest := []) ⟨hx, hb, hml, hown, hts⟩ (mtL_heavier l hl0 E hok σ o (xs (i + 1)) (xs (i + 2)) N hN) (vx_cwSW 4 hts gL_law_L_heavier rfl rfl rfl (by decide +kernel) ⟨Nat.le_of_ble_eq_true rfl, Nat.le_of_ble_eq_true rfl⟩) ⟨PW_blind, PW_pre hP hK hS⟩ rfl rfl hl.1 rfl (lv_room (Nat.le_of_ble_eq_true rfl)) dL_law_1061 ⟨show cells + 2 ≤ 633918 by omega, show slots + 12 ≤ 7194350 by omega⟩) hS (fun _ _ h => h) (fun _ h => h) (fun k z t H1 locs1 ht _ hw hB1 _ _ hS => ?_)
  obtain ⟨σ1, o1⟩ := z
  have hP : va_P (e_D E) vwCl (wd E σ1 o1) H1 := by rw [← ht]; exact hB1
  refine W.widen (k := cells + 5) (n := slots + 30) (by omega) (by omega) ?_
  refine lv_istore (lv' := [(5, .int k), (4, .int (nI i)), (0, .ref b), (1, .ref (e_a E 0)), (2, .ref (e_a E 26)), (3, .ref (e_a E 36))]) hx hb dL_law_1064 hl (by decide) rfl (fun ls hl => ?_)
  refine lv_aload_n hx hb dL_law_1066 rfl (lv_at hl 4 rfl) ?_
  refine la_arg 1 hx hb hX hbl hB hS (lv_at hl 2 rfl) (lv_at hl 1 rfl) (by omega) hL rfl dL_law_1067 dL_law_1068 dL_law_1070 dL_law_1071 dL_law_1072 ?_
  refine la_arg 2 hx hb hX hbl hB hS (lv_at hl 2 rfl) (lv_at hl 1 rfl) (by omega) hL rfl dL_law_1073 dL_law_1074 dL_law_1076 dL_law_1077 dL_law_1078 ?_
  refine k_Vi (E := E) (σ := σ1) (o := o1) (As := [.int (xs (i + 1)), .int (xs (i + 2))]) (rest := []) ⟨hx, hb, hml, hown, hts⟩ (mtX2_heavier l E hok σ1 o1 (xs (i + 1)) (xs (i + 2))) (cwV 2 hts gL_law_X2_heavier rfl rfl rfl (by decide +kernel) ⟨Nat.le_of_ble_eq_true rfl, Nat.le_of_ble_eq_true rfl⟩) (va_recv hK.K hP (ci := 2) (q0 := 26) rfl at_26) hK hP hS rfl hl.1 rfl (Nat.le_of_ble_eq_true rfl) dL_law_1079 ⟨hc, hs⟩ (fun r2 σ2 H2 locs2 h2 hP hS => ?_)
  have fin : σ2 26 0 = k ∧ (k = 0 → o1 0 = Int32.toInt64 r2) ∧ Inv σ2 σ2 (T + 1) := by
    rcases hw with ⟨rfl, r, h1, hz⟩ | ⟨u, hu, rfl, hz⟩
    · obtain ⟨s1, rfl, s3⟩ := sm_heavier hN I0 h1 h2
      exact ⟨s1, fun _ => by rw [show o1 = _ from hz]; rfl, s3⟩
    · cases hz
      obtain ⟨s1, s2, s3⟩ := sx_heavier I0 hu h2
      exact ⟨s1, fun z => absurd z s2, s3⟩
  obtain ⟨f1, f2, f3⟩ := fin
  refine lv_istore (lv' := [(6, .int r2), (5, .int k), (4, .int (nI i)), (0, .ref b), (1, .ref (e_a E 0)), (2, .ref (e_a E 26)), (3, .ref (e_a E 36))]) hx hb dL_law_1082 hl (by decide) rfl (fun ls hl => ?_)
  refine lv_aload_n hx hb dL_law_1084 rfl (lv_at hl 5 rfl) ?_
  refine k_Vi (E := E) (σ := σ2) (o := o1) (As := []) (rest := []) ⟨hx, hb, hml, hown, hts⟩ (mtX2_thrown l E hok σ2 o1) (cwV 0 hts gL_law_X2_thrown rfl rfl rfl (by decide +kernel) ⟨Nat.le_of_ble_eq_true rfl, Nat.le_of_ble_eq_true rfl⟩) (va_recv hK.K hP (ci := 2) (q0 := 26) rfl at_26) hK hP hS rfl hl.1 rfl (Nat.le_of_ble_eq_true rfl) dL_law_1085 ⟨hc, hs⟩ (fun r3 σ3 H3 locs3 h3 hP hS => ?_)
  obtain ⟨h3, e3⟩ := h3
  rw [f1] at h3
  subst h3
  rw [e3] at hP
  refine lv_iload hx hb dL_law_1088 (lv_at hl 1 rfl) ?_
  refine lv_icmp_eq (tgt := 1095) hx hb dL_law_1090 (by decide) (fun _ => ?_) (fun z => absurd rfl z)
  refine lv_iload hx hb dL_law_1095 (lv_at hl 1 rfl) ?_
  have fin : ∀ (ls : Array Slot), lv_has ls 7 [(6, .int r2), (5, .int r3), (4, .int (nI i)), (0, .ref b), (1, .ref (e_a E 0)), (2, .ref (e_a E 26)), (3, .ref (e_a E 36))] → W p l e room_1 s m #[Value.ref b] below meth c H3 locs3 (cells + 5) (slots + 30) Q (F0 m 1112 ls []) := fun ls hl => by
    refine lv_goto (tgt := 1239) hx hb dL_law_1112 (by decide) ?_
    exact kk σ2 o1 H3 locs3 ls f3 hP hS (lv_sub hl [2, 3, 4, 5, 6] rfl)
  refine lv_if_ne (tgt := 1112) hx hb dL_law_1097 (by decide) (fun _ => fin ls hl) (fun z => ?_)
  have z0 := f2 z
  refine lv_aload_n hx hb dL_law_1100 rfl (lv_at hl 6 rfl) ?_
  refine lv_iconst (v := 0) hx hb dL_law_1101 (by decide) ?_
  refine q_lld hx hb hK hP dL_law_1102 ?_
  refine lv_iload hx hb dL_law_1103 (lv_at hl 0 rfl) ?_
  refine lv_i2l (v := r2.toInt64) hx hb dL_law_1105 rfl ?_
  refine W.lcmp hx hb dL_law_1106 ?_
  exact lv_if_eq (tgt := 1112) hx hb dL_law_1107 (by decide) (fun _ => fin ls hl) (fun z => absurd ((lg_cmp_eq _ _).mpr z0) z)
set_option maxHeartbeats 4000000 in
set_option maxRecDepth 100000 in
/-- alike -/
theorem law_alike {p : Program} {l : Launch} {e : Env} {s : State} {m : MethodId} {below : List Frame} {meth : Method} {c : Code} {b L : Nat} {xs : Nat → Int32} {Q : State → Prop} (F : LF p s m c b L xs) (hl0 : l.stackTraces = false) {E : Ev} (hok : e_ok E) (hB : e_B E = s.heap.size) (hK : KN E s) {σ : Mem} {o : Nat → Int64} {T i cells slots : Nat} (hT : T ≤ 512) (hi : i + 5 ≤ L) (hL : L ≤ 2560) (I : Inv σ σ T) {H : Heap} {locs : List Loc} {ls : Array Slot} (hP : va_P (e_D E) vwCl (wd E σ o) H) (hS : va_S (LB (e_B E)) s.heap H locs) (hl : lv_has ls 7 (lvL E b i)) (hc : cells + 5 ≤ 633918) (hs : slots + 30 ≤ 7194350) (kk : LK p l e s m below meth c b Q E T i cells slots) : W p l e room_1 s m #[Value.ref b] below meth c H locs cells slots Q (F0 m 1115 ls []) := by
  obtain ⟨hx, hb, hml, hown, hts, hX, hbl⟩ := F
  have I0 := I
  obtain ⟨U, N, C, M, hC, hCT, hCR, hGR, hcl⟩ := I
  have hN := CR_okN M hCR
  refine lv_aload_n hx hb dL_law_1115 rfl (lv_at hl 2 rfl) ?_
  refine la_arg 1 hx hb hX hbl hB hS (lv_at hl 1 rfl) (lv_at hl 0 rfl) (by omega) hL rfl dL_law_1116 dL_law_1117 dL_law_1119 dL_law_1120 dL_law_1121 ?_
  refine la_arg 2 hx hb hX hbl hB hS (lv_at hl 1 rfl) (lv_at hl 0 rfl) (by omega) hL rfl dL_law_1122 dL_law_1123 dL_law_1125 dL_law_1126 dL_law_1127 ?_
  refine lv_aload_n hx hb dL_law_1128 rfl (lv_at hl 4 rfl) ?_
  refine va_calli (S := Mem × (Nat → Int64)) (vx_runSW (As := [.ref (e_a E 0), .int (xs (i + 1)), .int (xs (i + 2)), .ref (e_a E 36)]) (rest := []) ⟨hx, hb, hml, hown, hts⟩ (mtL_alike l hl0 E hok σ o (xs (i + 1)) (xs (i + 2)) N hN) (vx_cwSW 4 hts gL_law_L_alike rfl rfl rfl (by decide +kernel) ⟨Nat.le_of_ble_eq_true rfl, Nat.le_of_ble_eq_true rfl⟩) ⟨PW_blind, PW_pre hP hK hS⟩ rfl rfl hl.1 rfl (lv_room (Nat.le_of_ble_eq_true rfl)) dL_law_1129 ⟨show cells + 2 ≤ 633918 by omega, show slots + 12 ≤ 7194350 by omega⟩) hS (fun _ _ h => h) (fun _ h => h) (fun k z t H1 locs1 ht _ hw hB1 _ _ hS => ?_)
  obtain ⟨σ1, o1⟩ := z
  have hP : va_P (e_D E) vwCl (wd E σ1 o1) H1 := by rw [← ht]; exact hB1
  refine W.widen (k := cells + 5) (n := slots + 30) (by omega) (by omega) ?_
  refine lv_istore (lv' := [(5, .int k), (4, .int (nI i)), (0, .ref b), (1, .ref (e_a E 0)), (2, .ref (e_a E 26)), (3, .ref (e_a E 36))]) hx hb dL_law_1132 hl (by decide) rfl (fun ls hl => ?_)
  refine lv_aload_n hx hb dL_law_1134 rfl (lv_at hl 4 rfl) ?_
  refine la_arg 1 hx hb hX hbl hB hS (lv_at hl 2 rfl) (lv_at hl 1 rfl) (by omega) hL rfl dL_law_1135 dL_law_1136 dL_law_1138 dL_law_1139 dL_law_1140 ?_
  refine la_arg 2 hx hb hX hbl hB hS (lv_at hl 2 rfl) (lv_at hl 1 rfl) (by omega) hL rfl dL_law_1141 dL_law_1142 dL_law_1144 dL_law_1145 dL_law_1146 ?_
  refine k_Vi (E := E) (σ := σ1) (o := o1) (As := [.int (xs (i + 1)), .int (xs (i + 2))]) (rest := []) ⟨hx, hb, hml, hown, hts⟩ (mtX2_alike l E hok σ1 o1 (xs (i + 1)) (xs (i + 2))) (cwV 2 hts gL_law_X2_alike rfl rfl rfl (by decide +kernel) ⟨Nat.le_of_ble_eq_true rfl, Nat.le_of_ble_eq_true rfl⟩) (va_recv hK.K hP (ci := 2) (q0 := 26) rfl at_26) hK hP hS rfl hl.1 rfl (Nat.le_of_ble_eq_true rfl) dL_law_1147 ⟨hc, hs⟩ (fun r2 σ2 H2 locs2 h2 hP hS => ?_)
  have fin : σ2 26 0 = k ∧ (k = 0 → o1 0 = Int32.toInt64 r2) ∧ Inv σ2 σ2 (T + 1) := by
    rcases hw with ⟨rfl, r, h1, hz⟩ | ⟨u, hu, rfl, hz⟩
    · obtain ⟨s1, rfl, s3⟩ := sm_alike hN I0 h1 h2
      exact ⟨s1, fun _ => by rw [show o1 = _ from hz]; rfl, s3⟩
    · cases hz
      obtain ⟨s1, s2, s3⟩ := sx_alike I0 hu h2
      exact ⟨s1, fun z => absurd z s2, s3⟩
  obtain ⟨f1, f2, f3⟩ := fin
  refine lv_istore (lv' := [(6, .int r2), (5, .int k), (4, .int (nI i)), (0, .ref b), (1, .ref (e_a E 0)), (2, .ref (e_a E 26)), (3, .ref (e_a E 36))]) hx hb dL_law_1150 hl (by decide) rfl (fun ls hl => ?_)
  refine lv_aload_n hx hb dL_law_1152 rfl (lv_at hl 5 rfl) ?_
  refine k_Vi (E := E) (σ := σ2) (o := o1) (As := []) (rest := []) ⟨hx, hb, hml, hown, hts⟩ (mtX2_thrown l E hok σ2 o1) (cwV 0 hts gL_law_X2_thrown rfl rfl rfl (by decide +kernel) ⟨Nat.le_of_ble_eq_true rfl, Nat.le_of_ble_eq_true rfl⟩) (va_recv hK.K hP (ci := 2) (q0 := 26) rfl at_26) hK hP hS rfl hl.1 rfl (Nat.le_of_ble_eq_true rfl) dL_law_1153 ⟨hc, hs⟩ (fun r3 σ3 H3 locs3 h3 hP hS => ?_)
  obtain ⟨h3, e3⟩ := h3
  rw [f1] at h3
  subst h3
  rw [e3] at hP
  refine lv_iload hx hb dL_law_1156 (lv_at hl 1 rfl) ?_
  refine lv_icmp_eq (tgt := 1163) hx hb dL_law_1158 (by decide) (fun _ => ?_) (fun z => absurd rfl z)
  refine lv_iload hx hb dL_law_1163 (lv_at hl 1 rfl) ?_
  have fin : ∀ (ls : Array Slot), lv_has ls 7 [(6, .int r2), (5, .int r3), (4, .int (nI i)), (0, .ref b), (1, .ref (e_a E 0)), (2, .ref (e_a E 26)), (3, .ref (e_a E 36))] → W p l e room_1 s m #[Value.ref b] below meth c H3 locs3 (cells + 5) (slots + 30) Q (F0 m 1180 ls []) := fun ls hl => by
    refine lv_goto (tgt := 1239) hx hb dL_law_1180 (by decide) ?_
    exact kk σ2 o1 H3 locs3 ls f3 hP hS (lv_sub hl [2, 3, 4, 5, 6] rfl)
  refine lv_if_ne (tgt := 1180) hx hb dL_law_1165 (by decide) (fun _ => fin ls hl) (fun z => ?_)
  have z0 := f2 z
  refine lv_aload_n hx hb dL_law_1168 rfl (lv_at hl 6 rfl) ?_
  refine lv_iconst (v := 0) hx hb dL_law_1169 (by decide) ?_
  refine q_lld hx hb hK hP dL_law_1170 ?_
  refine lv_iload hx hb dL_law_1171 (lv_at hl 0 rfl) ?_
  refine lv_i2l (v := r2.toInt64) hx hb dL_law_1173 rfl ?_
  refine W.lcmp hx hb dL_law_1174 ?_
  exact lv_if_eq (tgt := 1180) hx hb dL_law_1175 (by decide) (fun _ => fin ls hl) (fun z => absurd ((lg_cmp_eq _ _).mpr z0) z)
set_option maxHeartbeats 4000000 in
set_option maxRecDepth 100000 in
/-- gauge -/
theorem law_gauge {p : Program} {l : Launch} {e : Env} {s : State} {m : MethodId} {below : List Frame} {meth : Method} {c : Code} {b L : Nat} {xs : Nat → Int32} {Q : State → Prop} (F : LF p s m c b L xs) (hl0 : l.stackTraces = false) {E : Ev} (hok : e_ok E) (hB : e_B E = s.heap.size) (hK : KN E s) {σ : Mem} {o : Nat → Int64} {T i cells slots : Nat} (hT : T ≤ 512) (hi : i + 5 ≤ L) (hL : L ≤ 2560) (I : Inv σ σ T) {H : Heap} {locs : List Loc} {ls : Array Slot} (hP : va_P (e_D E) vwCl (wd E σ o) H) (hS : va_S (LB (e_B E)) s.heap H locs) (hl : lv_has ls 7 (lvL E b i)) (hc : cells + 5 ≤ 633918) (hs : slots + 30 ≤ 7194350) (kk : LK p l e s m below meth c b Q E T i cells slots) : W p l e room_1 s m #[Value.ref b] below meth c H locs cells slots Q (F0 m 1183 ls []) := by
  obtain ⟨hx, hb, hml, hown, hts, hX, hbl⟩ := F
  have I0 := I
  obtain ⟨U, N, C, M, hC, hCT, hCR, hGR, hcl⟩ := I
  have hN := CR_okN M hCR
  refine lv_aload_n hx hb dL_law_1183 rfl (lv_at hl 2 rfl) ?_
  refine la_arg 1 hx hb hX hbl hB hS (lv_at hl 1 rfl) (lv_at hl 0 rfl) (by omega) hL rfl dL_law_1184 dL_law_1185 dL_law_1187 dL_law_1188 dL_law_1189 ?_
  refine lv_aload_n hx hb dL_law_1190 rfl (lv_at hl 4 rfl) ?_
  refine va_calli (S := Mem × (Nat → Int64)) (vx_runSW (As := [.ref (e_a E 0), .int (xs (i + 1)), .ref (e_a E 36)]) (rest := []) ⟨hx, hb, hml, hown, hts⟩ (mtL_gauge l hl0 E hok σ o (xs (i + 1))) (vx_cwSW 3 hts gL_law_L_gauge rfl rfl rfl (by decide +kernel) ⟨Nat.le_of_ble_eq_true rfl, Nat.le_of_ble_eq_true rfl⟩) ⟨PW_blind, PW_pre hP hK hS⟩ rfl rfl hl.1 rfl (lv_room (Nat.le_of_ble_eq_true rfl)) dL_law_1191 ⟨show cells + 1 ≤ 633918 by omega, show slots + 6 ≤ 7194350 by omega⟩) hS (fun _ _ h => h) (fun _ h => h) (fun k z t H1 locs1 ht _ hw hB1 _ _ hS => ?_)
  obtain ⟨σ1, o1⟩ := z
  have hP : va_P (e_D E) vwCl (wd E σ1 o1) H1 := by rw [← ht]; exact hB1
  refine W.widen (k := cells + 5) (n := slots + 30) (by omega) (by omega) ?_
  refine lv_istore (lv' := [(5, .int k), (4, .int (nI i)), (0, .ref b), (1, .ref (e_a E 0)), (2, .ref (e_a E 26)), (3, .ref (e_a E 36))]) hx hb dL_law_1194 hl (by decide) rfl (fun ls hl => ?_)
  refine lv_aload_n hx hb dL_law_1196 rfl (lv_at hl 4 rfl) ?_
  refine la_arg 1 hx hb hX hbl hB hS (lv_at hl 2 rfl) (lv_at hl 1 rfl) (by omega) hL rfl dL_law_1197 dL_law_1198 dL_law_1200 dL_law_1201 dL_law_1202 ?_
  refine k_Vi (E := E) (σ := σ1) (o := o1) (As := [.int (xs (i + 1))]) (rest := []) ⟨hx, hb, hml, hown, hts⟩ (mtX2_gauge l E hok σ1 o1 (xs (i + 1))) (cwV 1 hts gL_law_X2_gauge rfl rfl rfl (by decide +kernel) ⟨Nat.le_of_ble_eq_true rfl, Nat.le_of_ble_eq_true rfl⟩) (va_recv hK.K hP (ci := 2) (q0 := 26) rfl at_26) hK hP hS rfl hl.1 rfl (Nat.le_of_ble_eq_true rfl) dL_law_1203 ⟨hc, hs⟩ (fun r2 σ2 H2 locs2 h2 hP hS => ?_)
  have fin : σ2 26 0 = k ∧ (k = 0 → o1 0 = Int32.toInt64 r2) ∧ Inv σ2 σ2 (T + 1) := by
    rcases hw with ⟨rfl, r, h1, hz⟩ | ⟨u, hu, rfl, hz⟩
    · obtain ⟨s1, rfl, s3⟩ := sm_gauge I0 h1 h2
      exact ⟨s1, fun _ => by rw [show o1 = _ from hz]; rfl, s3⟩
    · cases hz
      obtain ⟨s1, s2, s3⟩ := sx_gauge I0 hu h2
      exact ⟨s1, fun z => absurd z s2, s3⟩
  obtain ⟨f1, f2, f3⟩ := fin
  refine lv_istore (lv' := [(6, .int r2), (5, .int k), (4, .int (nI i)), (0, .ref b), (1, .ref (e_a E 0)), (2, .ref (e_a E 26)), (3, .ref (e_a E 36))]) hx hb dL_law_1206 hl (by decide) rfl (fun ls hl => ?_)
  refine lv_aload_n hx hb dL_law_1208 rfl (lv_at hl 5 rfl) ?_
  refine k_Vi (E := E) (σ := σ2) (o := o1) (As := []) (rest := []) ⟨hx, hb, hml, hown, hts⟩ (mtX2_thrown l E hok σ2 o1) (cwV 0 hts gL_law_X2_thrown rfl rfl rfl (by decide +kernel) ⟨Nat.le_of_ble_eq_true rfl, Nat.le_of_ble_eq_true rfl⟩) (va_recv hK.K hP (ci := 2) (q0 := 26) rfl at_26) hK hP hS rfl hl.1 rfl (Nat.le_of_ble_eq_true rfl) dL_law_1209 ⟨hc, hs⟩ (fun r3 σ3 H3 locs3 h3 hP hS => ?_)
  obtain ⟨h3, e3⟩ := h3
  rw [f1] at h3
  subst h3
  rw [e3] at hP
  refine lv_iload hx hb dL_law_1212 (lv_at hl 1 rfl) ?_
  refine lv_icmp_eq (tgt := 1219) hx hb dL_law_1214 (by decide) (fun _ => ?_) (fun z => absurd rfl z)
  refine lv_iload hx hb dL_law_1219 (lv_at hl 1 rfl) ?_
  have fin : ∀ (ls : Array Slot), lv_has ls 7 [(6, .int r2), (5, .int r3), (4, .int (nI i)), (0, .ref b), (1, .ref (e_a E 0)), (2, .ref (e_a E 26)), (3, .ref (e_a E 36))] → W p l e room_1 s m #[Value.ref b] below meth c H3 locs3 (cells + 5) (slots + 30) Q (F0 m 1236 ls []) := fun ls hl => by
    refine lv_goto (tgt := 1239) hx hb dL_law_1236 (by decide) ?_
    exact kk σ2 o1 H3 locs3 ls f3 hP hS (lv_sub hl [2, 3, 4, 5, 6] rfl)
  refine lv_if_ne (tgt := 1236) hx hb dL_law_1221 (by decide) (fun _ => fin ls hl) (fun z => ?_)
  have z0 := f2 z
  refine lv_aload_n hx hb dL_law_1224 rfl (lv_at hl 6 rfl) ?_
  refine lv_iconst (v := 0) hx hb dL_law_1225 (by decide) ?_
  refine q_lld hx hb hK hP dL_law_1226 ?_
  refine lv_iload hx hb dL_law_1227 (lv_at hl 0 rfl) ?_
  refine lv_i2l (v := r2.toInt64) hx hb dL_law_1229 rfl ?_
  refine W.lcmp hx hb dL_law_1230 ?_
  exact lv_if_eq (tgt := 1236) hx hb dL_law_1231 (by decide) (fun _ => fin ls hl) (fun z => absurd ((lg_cmp_eq _ _).mpr z0) z)

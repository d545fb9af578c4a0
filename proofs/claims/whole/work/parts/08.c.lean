theorem wxX1_chute_24 : ∀ w ∈ (vx_atS RX1 24 "java/lang/IllegalArgumentException" ["java/lang/RuntimeException", "java/lang/Exception"]).filter goodWord, w ∈ wsX1_chute := fun w h => by
  simp only [wsX1_chute, List.mem_cons, List.mem_append, h, or_true, true_or]
set_option maxHeartbeats 4000000 in
set_option maxRecDepth 100000 in
/-- chute -/
theorem mtX1_chute (l : Launch) (hl0 : l.stackTraces = false) (E : Ev) (hok : e_ok E) (σ : Mem) (o : Nat → Int64) (x v : Int32) (N : Nat → Nat) (hN : okN σ N) : vx_Met l yX1_chute wsX1_chute ({ frames := 7, cells := 2, slots := 12, locals := 111 } : Room) (PW E σ o [.ref (e_a E (0)), .int (x), .int (v)]) (va_Qi (fun (r : Int32) (σ' : Mem) => ∃ k : Nat, k < 8 ∧ x = nI k ∧ okV v ∧ r = chC σ N k v ∧ σ' = σ) (BW E o) (LB (e_B E))) (XW E σ o (fun u => (u = xIO ∧ ¬ isCh x) ∨ (u = xIA ∧ isCh x ∧ ¬ okV v))) 2 12 (LB (e_B E)) := by
  refine vx_ofW (cc := cX1_chute) (maxL := 4) (ret := (some .int)) (by decide) rfl ?_
  intro p e s m args below meth c s₁ B hml hno hv
  obtain ⟨rfl, hP, hK⟩ := hv
  have hx := B.exec
  have hb := B.bytes
  have hr := B.returns
  have hts := atoms_spec (ws := wsX1_chute) B.pre
  have hown : s.vm.findClass RX1 = some m.cls := findClass_of_methodNamed B.named
  have hlocks := B.notSynchronized
  have hS : va_S (LB (e_B E)) s.heap s.heap [] := va_S.rf
  have hinX0 : ∀ w ∈ wsX00, w ∈ wsX1_chute := fun w h => by simp only [wsX1_chute, List.mem_cons, List.mem_append, h, or_true, true_or]
  have hf27 := hts (.fieldLink RX1 27 "ParcelChutes$Chute" "count" "I") (by decide +kernel)
  have hf36 := hts (.fieldLink RX1 36 "ParcelChutes$Chute" "kind" "I") (by decide +kernel)
  have hf52 := hts (.fieldLink RX1 52 "ParcelChutes$Chute" "low" "I") (by decide +kernel)
  have hf55 := hts (.fieldLink RX1 55 "ParcelChutes$Chute" "high" "I") (by decide +kernel)
  have hf58 := hts (.fieldLink RX1 58 "ParcelChutes$Chute" "wide" "I") (by decide +kernel)
  have hf65 := hts (.fieldLink RX1 65 "ParcelChutes$Chute" "closed" "Z") (by decide +kernel)
  have hf89 := hts (.fieldLink RX1 89 "ParcelChutes$Chute" "weights" "[I") (by decide +kernel)
  have hf97 := hts (.fieldLink RX1 97 "ParcelChutes$Chute" "girths" "[I") (by decide +kernel)
  have hl := lv_entry ([.ref (e_a E (0)), .int (x), .int (v)]) (n := 4) (Nat.le_of_ble_eq_true rfl)
  rw [lg_entry_eq]
  generalize (lg_sl ([.ref (e_a E (0)), .int (x), .int (v)]) ++ List.replicate (4 - (lg_sl ([.ref (e_a E (0)), .int (x), .int (v)])).length) Slot.unset).toArray = ls at hl ⊢
  have hl : lv_has ls 4 [(0, .ref (e_a E (0))), (1, .int (x)), (2, .int (v))] := hl
  refine lv_aload_n hx hb dX1_chute_0 rfl (lv_at hl 0 rfl) ?_
  refine lv_iload_n hx hb dX1_chute_1 rfl (lv_at hl 1 rfl) ?_
  refine x_Vc (As := [.int (x)]) (rest := []) ⟨hx, hb, hml, hown, hts⟩ (mtX1_chuteAt l hl0 E hok σ o x) (cwV 1 hts gX1_chute_X1_chuteAt rfl rfl rfl (by decide +kernel) ⟨Nat.le_of_ble_eq_true rfl, Nat.le_of_ble_eq_true rfl⟩) (va_recv hK.K hP (ci := 1) (q0 := 0) rfl at_0) hno hlocks hK hP hS rfl hl.1 rfl (Nat.le_of_ble_eq_true rfl) dX1_chute_2 ⟨Nat.le_of_ble_eq_true rfl, Nat.le_of_ble_eq_true rfl⟩ (fun u h => Or.inl h) ⟨Nat.le_of_ble_eq_true rfl, Nat.le_of_ble_eq_true rfl⟩ (fun k1 H locs hk1 hP hS => ?_)
  obtain ⟨hk1k, hk1e⟩ := hk1
  have h12k1 := (hN k1 hk1k).2
  refine lv_astore_n (lv' := [(3, .ref (e_a E (k1 + 2))), (0, .ref (e_a E (0))), (1, .int (x)), (2, .int (v))]) hx hb dX1_chute_5 rfl hl (by decide) rfl (fun ls hl => ?_)
  refine lv_iload_n hx hb dX1_chute_6 rfl (lv_at hl 3 rfl) ?_
  by_cases k7_0 : v = 0
  · skip
    refine lv_tableIn (off := 45) (tgt := 52) hx hb dX1_chute_7 (by rw [k7_0]; decide) (by rw [k7_0]; decide) (by rw [k7_0]; rfl) (by decide) ?_
    refine lv_aload_n hx hb dX1_chute_52 rfl (lv_at hl 0 rfl) ?_
    refine q_get (C := RX0) (T := TX0) (N := 8) (ci := 0) (v := .int (σ (k1 + 2) 3)) hx hb hts hinX0 hown hK hP (at_ch hk1k) rfl 3 (by decide) hf36 rfl dX1_chute_53 ?_
    refine W.widen (k := 2) (n := 12) (Nat.le_of_ble_eq_true rfl) (Nat.le_of_ble_eq_true rfl) ?_
    exact vx_ret (r_i hx hb hr hlocks hP hS dX1_chute_56 ⟨k1, hk1k, hk1e, okV_j (j := 0) (by decide) k7_0, by simp [chC, k7_0], rfl⟩)
  by_cases k7_1 : v = 1
  · skip
    refine lv_tableIn (off := 50) (tgt := 57) hx hb dX1_chute_7 (by rw [k7_1]; decide) (by rw [k7_1]; decide) (by rw [k7_1]; rfl) (by decide) ?_
    refine lv_aload_n hx hb dX1_chute_57 rfl (lv_at hl 0 rfl) ?_
    refine q_get (C := RX0) (T := TX0) (N := 8) (ci := 0) (v := .int (σ (k1 + 2) 4)) hx hb hts hinX0 hown hK hP (at_ch hk1k) rfl 4 (by decide) hf52 rfl dX1_chute_58 ?_
    refine W.widen (k := 2) (n := 12) (Nat.le_of_ble_eq_true rfl) (Nat.le_of_ble_eq_true rfl) ?_
    exact vx_ret (r_i hx hb hr hlocks hP hS dX1_chute_61 ⟨k1, hk1k, hk1e, okV_j (j := 1) (by decide) k7_1, by simp [chC, k7_1], rfl⟩)
  by_cases k7_2 : v = 2
  · skip
    refine lv_tableIn (off := 55) (tgt := 62) hx hb dX1_chute_7 (by rw [k7_2]; decide) (by rw [k7_2]; decide) (by rw [k7_2]; rfl) (by decide) ?_
    refine lv_aload_n hx hb dX1_chute_62 rfl (lv_at hl 0 rfl) ?_
    refine q_get (C := RX0) (T := TX0) (N := 8) (ci := 0) (v := .int (σ (k1 + 2) 5)) hx hb hts hinX0 hown hK hP (at_ch hk1k) rfl 5 (by decide) hf55 rfl dX1_chute_63 ?_
    refine W.widen (k := 2) (n := 12) (Nat.le_of_ble_eq_true rfl) (Nat.le_of_ble_eq_true rfl) ?_
    exact vx_ret (r_i hx hb hr hlocks hP hS dX1_chute_66 ⟨k1, hk1k, hk1e, okV_j (j := 2) (by decide) k7_2, by simp [chC, k7_2], rfl⟩)
  by_cases k7_3 : v = 3
  · skip
    refine lv_tableIn (off := 60) (tgt := 67) hx hb dX1_chute_7 (by rw [k7_3]; decide) (by rw [k7_3]; decide) (by rw [k7_3]; rfl) (by decide) ?_
    refine lv_aload_n hx hb dX1_chute_67 rfl (lv_at hl 0 rfl) ?_
    refine q_get (C := RX0) (T := TX0) (N := 8) (ci := 0) (v := .int (σ (k1 + 2) 6)) hx hb hts hinX0 hown hK hP (at_ch hk1k) rfl 6 (by decide) hf58 rfl dX1_chute_68 ?_
    refine W.widen (k := 2) (n := 12) (Nat.le_of_ble_eq_true rfl) (Nat.le_of_ble_eq_true rfl) ?_
    exact vx_ret (r_i hx hb hr hlocks hP hS dX1_chute_71 ⟨k1, hk1k, hk1e, okV_j (j := 3) (by decide) k7_3, by simp [chC, k7_3], rfl⟩)
  by_cases k7_4 : v = 4
  · skip
    refine lv_tableIn (off := 65) (tgt := 72) hx hb dX1_chute_7 (by rw [k7_4]; decide) (by rw [k7_4]; decide) (by rw [k7_4]; rfl) (by decide) ?_
    refine lv_aload_n hx hb dX1_chute_72 rfl (lv_at hl 0 rfl) ?_
    refine q_get (C := RX0) (T := TX0) (N := 8) (ci := 0) (v := .int (σ (k1 + 2) 7)) hx hb hts hinX0 hown hK hP (at_ch hk1k) rfl 7 (by decide) hf65 rfl dX1_chute_73 ?_
    refine k_Si (As := [.int (σ (k1 + 2) 7)]) (rest := []) ⟨hx, hb, hml, hown, hts⟩ (mtX1_oneIf l (σ (k1 + 2) 7)) (va_cwS 1 hts gX1_chute_X1_oneIf rfl rfl rfl (by decide +kernel) ⟨Nat.le_of_ble_eq_true rfl, Nat.le_of_ble_eq_true rfl⟩) rfl hl.1 rfl (Nat.le_of_ble_eq_true rfl) dX1_chute_76 ⟨Nat.le_of_ble_eq_true rfl, Nat.le_of_ble_eq_true rfl⟩ (fun r2 er2 => ?_)
    subst er2
    refine W.widen (k := 2) (n := 12) (Nat.le_of_ble_eq_true rfl) (Nat.le_of_ble_eq_true rfl) ?_
    exact vx_ret (r_i hx hb hr hlocks hP hS dX1_chute_79 ⟨k1, hk1k, hk1e, okV_j (j := 4) (by decide) k7_4, by simp [chC, k7_4], rfl⟩)
  by_cases k7_5 : v = 5
  · skip
    refine lv_tableIn (off := 73) (tgt := 80) hx hb dX1_chute_7 (by rw [k7_5]; decide) (by rw [k7_5]; decide) (by rw [k7_5]; rfl) (by decide) ?_
    refine lv_aload_n hx hb dX1_chute_80 rfl (lv_at hl 0 rfl) ?_
    refine q_get (C := RX0) (T := TX0) (N := 8) (ci := 0) (v := .int (σ (k1 + 2) 2)) hx hb hts hinX0 hown hK hP (at_ch hk1k) rfl 2 (by decide) hf27 rfl dX1_chute_81 ?_
    refine W.widen (k := 2) (n := 12) (Nat.le_of_ble_eq_true rfl) (Nat.le_of_ble_eq_true rfl) ?_
    exact vx_ret (r_i hx hb hr hlocks hP hS dX1_chute_84 ⟨k1, hk1k, hk1e, okV_j (j := 5) (by decide) k7_5, by simp [chC, k7_5], rfl⟩)
  by_cases k7_6 : v = 6
  · skip
    refine lv_tableIn (off := 78) (tgt := 85) hx hb dX1_chute_7 (by rw [k7_6]; decide) (by rw [k7_6]; decide) (by rw [k7_6]; rfl) (by decide) ?_
    refine lv_aload_n hx hb dX1_chute_85 rfl (lv_at hl 0 rfl) ?_
    refine lv_aload_n hx hb dX1_chute_86 rfl (lv_at hl 0 rfl) ?_
    refine q_get (C := RX0) (T := TX0) (N := 8) (ci := 0) (v := .ref (e_a E (k1 + 10))) hx hb hts hinX0 hown hK hP (at_ch hk1k) rfl 0 (by decide) hf89 rfl dX1_chute_87 ?_
    refine k_Vi (As := [.ref (e_a E (k1 + 10))]) (rest := []) ⟨hx, hb, hml, hown, hts⟩ (mtX0_unknownIn_w l E hok σ o k1 hk1k (N k1) (hN k1 hk1k).1 (hN k1 hk1k).2) (cwV 1 hts gX1_chute_X0_unknownIn rfl rfl rfl (by decide +kernel) ⟨Nat.le_of_ble_eq_true rfl, Nat.le_of_ble_eq_true rfl⟩) (va_recv hK.K hP (ci := 0) (q0 := k1 + 2) rfl (at_ch hk1k)) hK hP hS rfl hl.1 rfl (Nat.le_of_ble_eq_true rfl) dX1_chute_90 ⟨Nat.le_of_ble_eq_true rfl, Nat.le_of_ble_eq_true rfl⟩ (fun r3 σ_4 H locs hr3 hP hS => ?_)
    obtain ⟨rfl, ehr3⟩ := hr3
    rw [ehr3] at hP
    refine W.widen (k := 2) (n := 12) (Nat.le_of_ble_eq_true rfl) (Nat.le_of_ble_eq_true rfl) ?_
    exact vx_ret (r_i hx hb hr hlocks hP hS dX1_chute_93 ⟨k1, hk1k, hk1e, okV_j (j := 6) (by decide) k7_6, by simp [chC, k7_6], rfl⟩)
  by_cases k7_7 : v = 7
  · skip
    refine lv_tableIn (off := 87) (tgt := 94) hx hb dX1_chute_7 (by rw [k7_7]; decide) (by rw [k7_7]; decide) (by rw [k7_7]; rfl) (by decide) ?_
    refine lv_aload_n hx hb dX1_chute_94 rfl (lv_at hl 0 rfl) ?_
    refine lv_aload_n hx hb dX1_chute_95 rfl (lv_at hl 0 rfl) ?_
    refine q_get (C := RX0) (T := TX0) (N := 8) (ci := 0) (v := .ref (e_a E (k1 + 18))) hx hb hts hinX0 hown hK hP (at_ch hk1k) rfl 1 (by decide) hf97 rfl dX1_chute_96 ?_
    refine k_Vi (As := [.ref (e_a E (k1 + 18))]) (rest := []) ⟨hx, hb, hml, hown, hts⟩ (mtX0_unknownIn_g l E hok σ o k1 hk1k (N k1) (hN k1 hk1k).1 (hN k1 hk1k).2) (cwV 1 hts gX1_chute_X0_unknownIn rfl rfl rfl (by decide +kernel) ⟨Nat.le_of_ble_eq_true rfl, Nat.le_of_ble_eq_true rfl⟩) (va_recv hK.K hP (ci := 0) (q0 := k1 + 2) rfl (at_ch hk1k)) hK hP hS rfl hl.1 rfl (Nat.le_of_ble_eq_true rfl) dX1_chute_99 ⟨Nat.le_of_ble_eq_true rfl, Nat.le_of_ble_eq_true rfl⟩ (fun r5 σ_6 H locs hr5 hP hS => ?_)
    obtain ⟨rfl, ehr5⟩ := hr5
    rw [ehr5] at hP
    refine W.widen (k := 2) (n := 12) (Nat.le_of_ble_eq_true rfl) (Nat.le_of_ble_eq_true rfl) ?_
    exact vx_ret (r_i hx hb hr hlocks hP hS dX1_chute_102 ⟨k1, hk1k, hk1e, okV_j (j := 7) (by decide) k7_7, by simp [chC, k7_7], rfl⟩)
  refine lv_tableOut (tgt := 103) hx hb dX1_chute_7 (tb_out7 _ k7_0 k7_1 k7_2 k7_3 k7_4 k7_5 k7_6 k7_7) (by decide) ?_
  exact x_throw hx hb hl0 (ik := 20) (is := 87) (ic := 24) hown (by decide +kernel) (hts (.classLink RX1 20 "java/lang/IllegalArgumentException") (by decide +kernel)) (hts (.initialized "java/lang/IllegalArgumentException") (by decide +kernel)) hK.s87 (vx_hat (B := [.castable "java/lang/IllegalArgumentException" "java/lang/IllegalArgumentException", .declares (Bundle.initS "java/lang/RuntimeException"), .declares (Bundle.initS "java/lang/Exception"), .declares (Bundle.initS "java/lang/Throwable")]) (fun w h => hts w (wxX1_chute_24 w h)) (by decide +kernel) (vx_c (hK.c (by decide)) (vx_c (hK.d (by decide)) (vx_c (hK.d (by decide)) (vx_c (hK.d (by decide)) vx_n))))) (by decide +kernel) hK hP hS hl.1 hml dX1_chute_103 dX1_chute_106 dX1_chute_107 dX1_chute_109 dX1_chute_112 hno (Nat.le_of_ble_eq_true rfl) (Nat.le_of_ble_eq_true rfl) (Nat.le_of_ble_eq_true rfl) (Nat.le_of_ble_eq_true rfl) hlocks (Or.inr ⟨rfl, ⟨k1, hk1k, hk1e⟩, okV_no k7_0 k7_1 k7_2 k7_3 k7_4 k7_5 k7_6 k7_7⟩) (Nat.le_of_ble_eq_true rfl) (Nat.le_of_ble_eq_true rfl)
set_option maxHeartbeats 4000000 in
set_option maxRecDepth 100000 in
/-- weight -/
theorem mtX1_weight (l : Launch) (hl0 : l.stackTraces = false) (E : Ev) (hok : e_ok E) (σ : Mem) (o : Nat → Int64) (x v : Int32) (N : Nat → Nat) (hN : okN σ N) : vx_Met l yX1_weight wsX1_weight ({ frames := 7, cells := 2, slots := 12, locals := 111 } : Room) (PW E σ o [.ref (e_a E (0)), .int (x), .int (v)]) (va_Qi (fun (r : Int32) (σ' : Mem) => ∃ k : Nat, k < 8 ∧ x = nI k ∧ ∃ q : Nat, q < N k ∧ v = nI q ∧ r = σ (k + 10) q ∧ σ' = σ) (BW E o) (LB (e_B E))) (XW E σ o (fun u => (u = xIO ∧ ¬ isCh x) ∨ (u = xNS ∧ ∃ k : Nat, k < 8 ∧ x = nI k ∧ ¬ ∃ q : Nat, q < N k ∧ v = nI q))) 2 12 (LB (e_B E)) := by
  refine vx_ofW (cc := cX1_weight) (maxL := 4) (ret := (some .int)) (by decide) rfl ?_
  intro p e s m args below meth c s₁ B hml hno hv
  obtain ⟨rfl, hP, hK⟩ := hv
  have hx := B.exec
  have hb := B.bytes
  have hr := B.returns
  have hts := atoms_spec (ws := wsX1_weight) B.pre
  have hown : s.vm.findClass RX1 = some m.cls := findClass_of_methodNamed B.named
  have hlocks := B.notSynchronized
  have hS : va_S (LB (e_B E)) s.heap s.heap [] := va_S.rf
  have hinX0 : ∀ w ∈ wsX00, w ∈ wsX1_weight := fun w h => by simp only [wsX1_weight, List.mem_cons, List.mem_append, h, or_true, true_or]
  have hf89 := hts (.fieldLink RX1 89 "ParcelChutes$Chute" "weights" "[I") (by decide +kernel)
  have hl := lv_entry ([.ref (e_a E (0)), .int (x), .int (v)]) (n := 4) (Nat.le_of_ble_eq_true rfl)
  rw [lg_entry_eq]
  generalize (lg_sl ([.ref (e_a E (0)), .int (x), .int (v)]) ++ List.replicate (4 - (lg_sl ([.ref (e_a E (0)), .int (x), .int (v)])).length) Slot.unset).toArray = ls at hl ⊢
  have hl : lv_has ls 4 [(0, .ref (e_a E (0))), (1, .int (x)), (2, .int (v))] := hl
  refine lv_aload_n hx hb dX1_weight_0 rfl (lv_at hl 0 rfl) ?_
  refine lv_iload_n hx hb dX1_weight_1 rfl (lv_at hl 1 rfl) ?_
  refine x_Vc (As := [.int (x)]) (rest := []) ⟨hx, hb, hml, hown, hts⟩ (mtX1_chuteAt l hl0 E hok σ o x) (cwV 1 hts gX1_weight_X1_chuteAt rfl rfl rfl (by decide +kernel) ⟨Nat.le_of_ble_eq_true rfl, Nat.le_of_ble_eq_true rfl⟩) (va_recv hK.K hP (ci := 1) (q0 := 0) rfl at_0) hno hlocks hK hP hS rfl hl.1 rfl (Nat.le_of_ble_eq_true rfl) dX1_weight_2 ⟨Nat.le_of_ble_eq_true rfl, Nat.le_of_ble_eq_true rfl⟩ (fun u h => Or.inl h) ⟨Nat.le_of_ble_eq_true rfl, Nat.le_of_ble_eq_true rfl⟩ (fun k1 H locs hk1 hP hS => ?_)
  obtain ⟨hk1k, hk1e⟩ := hk1
  have h12k1 := (hN k1 hk1k).2
  refine lv_astore_n (lv' := [(3, .ref (e_a E (k1 + 2))), (0, .ref (e_a E (0))), (1, .int (x)), (2, .int (v))]) hx hb dX1_weight_5 rfl hl (by decide) rfl (fun ls hl => ?_)
  refine lv_aload_n hx hb dX1_weight_6 rfl (lv_at hl 0 rfl) ?_
  refine lv_iload_n hx hb dX1_weight_7 rfl (lv_at hl 3 rfl) ?_
  refine x_Sv (As := [.ref (e_a E (k1 + 2)), .int (v)]) (rest := []) ⟨hx, hb, hml, hown, hts⟩ (mtX1_requirePlace l hl0 E hok σ o (k1) hk1k v) (va_cwS 2 hts gX1_weight_X1_requirePlace rfl rfl rfl (by decide +kernel) ⟨Nat.le_of_ble_eq_true rfl, Nat.le_of_ble_eq_true rfl⟩) hno hlocks hK hP hS rfl hl.1 rfl (Nat.le_of_ble_eq_true rfl) dX1_weight_8 ⟨Nat.le_of_ble_eq_true rfl, Nat.le_of_ble_eq_true rfl⟩ (fun u h => Or.inr ⟨h.1, k1, hk1k, hk1e, fun ⟨q, hq, eq⟩ => h.2 (pl_to (hN k1 hk1k).1 (hN k1 hk1k).2 hq eq)⟩) ⟨Nat.le_of_ble_eq_true rfl, Nat.le_of_ble_eq_true rfl⟩ (fun σ_2 H locs hσ_2 hP hS => ?_)
  obtain ⟨hσ_2a, ehσ_2⟩ := hσ_2
  rw [ehσ_2] at hP
  obtain ⟨q, hq, eq⟩ := pl_of (hN k1 hk1k).1 (hN k1 hk1k).2 hσ_2a
  refine lv_aload_n hx hb dX1_weight_11 rfl (lv_at hl 0 rfl) ?_
  refine q_get (C := RX0) (T := TX0) (N := 8) (ci := 0) (v := .ref (e_a E (k1 + 10))) hx hb hts hinX0 hown hK hP (at_ch hk1k) rfl 0 (by decide) hf89 rfl dX1_weight_12 ?_
  refine lv_iload_n hx hb dX1_weight_15 rfl (lv_at hl 3 rfl) ?_
  refine q_ld hx hb hK hP (at_wt hk1k) (i := q) eq (by omega) (by decide) dX1_weight_16 ?_
  refine W.widen (k := 2) (n := 12) (Nat.le_of_ble_eq_true rfl) (Nat.le_of_ble_eq_true rfl) ?_
  exact vx_ret (r_i hx hb hr hlocks hP hS dX1_weight_17 ⟨k1, hk1k, hk1e, q, hq, eq, rfl, rfl⟩)
set_option maxHeartbeats 4000000 in
set_option maxRecDepth 100000 in
/-- girth -/
theorem mtX1_girth (l : Launch) (hl0 : l.stackTraces = false) (E : Ev) (hok : e_ok E) (σ : Mem) (o : Nat → Int64) (x v : Int32) (N : Nat → Nat) (hN : okN σ N) : vx_Met l yX1_girth wsX1_girth ({ frames := 7, cells := 2, slots := 12, locals := 111 } : Room) (PW E σ o [.ref (e_a E (0)), .int (x), .int (v)]) (va_Qi (fun (r : Int32) (σ' : Mem) => ∃ k : Nat, k < 8 ∧ x = nI k ∧ ∃ q : Nat, q < N k ∧ v = nI q ∧ r = σ (k + 18) q ∧ σ' = σ) (BW E o) (LB (e_B E))) (XW E σ o (fun u => (u = xIO ∧ ¬ isCh x) ∨ (u = xNS ∧ ∃ k : Nat, k < 8 ∧ x = nI k ∧ ¬ ∃ q : Nat, q < N k ∧ v = nI q))) 2 12 (LB (e_B E)) := by
  refine vx_ofW (cc := cX1_girth) (maxL := 4) (ret := (some .int)) (by decide) rfl ?_
  intro p e s m args below meth c s₁ B hml hno hv
  obtain ⟨rfl, hP, hK⟩ := hv
  have hx := B.exec
  have hb := B.bytes
  have hr := B.returns
  have hts := atoms_spec (ws := wsX1_girth) B.pre
  have hown : s.vm.findClass RX1 = some m.cls := findClass_of_methodNamed B.named
  have hlocks := B.notSynchronized
  have hS : va_S (LB (e_B E)) s.heap s.heap [] := va_S.rf
  have hinX0 : ∀ w ∈ wsX00, w ∈ wsX1_girth := fun w h => by simp only [wsX1_girth, List.mem_cons, List.mem_append, h, or_true, true_or]
  have hf97 := hts (.fieldLink RX1 97 "ParcelChutes$Chute" "girths" "[I") (by decide +kernel)
  have hl := lv_entry ([.ref (e_a E (0)), .int (x), .int (v)]) (n := 4) (Nat.le_of_ble_eq_true rfl)
  rw [lg_entry_eq]
  generalize (lg_sl ([.ref (e_a E (0)), .int (x), .int (v)]) ++ List.replicate (4 - (lg_sl ([.ref (e_a E (0)), .int (x), .int (v)])).length) Slot.unset).toArray = ls at hl ⊢
  have hl : lv_has ls 4 [(0, .ref (e_a E (0))), (1, .int (x)), (2, .int (v))] := hl
  refine lv_aload_n hx hb dX1_girth_0 rfl (lv_at hl 0 rfl) ?_
  refine lv_iload_n hx hb dX1_girth_1 rfl (lv_at hl 1 rfl) ?_
  refine x_Vc (As := [.int (x)]) (rest := []) ⟨hx, hb, hml, hown, hts⟩ (mtX1_chuteAt l hl0 E hok σ o x) (cwV 1 hts gX1_girth_X1_chuteAt rfl rfl rfl (by decide +kernel) ⟨Nat.le_of_ble_eq_true rfl, Nat.le_of_ble_eq_true rfl⟩) (va_recv hK.K hP (ci := 1) (q0 := 0) rfl at_0) hno hlocks hK hP hS rfl hl.1 rfl (Nat.le_of_ble_eq_true rfl) dX1_girth_2 ⟨Nat.le_of_ble_eq_true rfl, Nat.le_of_ble_eq_true rfl⟩ (fun u h => Or.inl h) ⟨Nat.le_of_ble_eq_true rfl, Nat.le_of_ble_eq_true rfl⟩ (fun k1 H locs hk1 hP hS => ?_)
  obtain ⟨hk1k, hk1e⟩ := hk1
  have h12k1 := (hN k1 hk1k).2
  refine lv_astore_n (lv' := [(3, .ref (e_a E (k1 + 2))), (0, .ref (e_a E (0))), (1, .int (x)), (2, .int (v))]) hx hb dX1_girth_5 rfl hl (by decide) rfl (fun ls hl => ?_)
  refine lv_aload_n hx hb dX1_girth_6 rfl (lv_at hl 0 rfl) ?_
  refine lv_iload_n hx hb dX1_girth_7 rfl (lv_at hl 3 rfl) ?_
  refine x_Sv (As := [.ref (e_a E (k1 + 2)), .int (v)]) (rest := []) ⟨hx, hb, hml, hown, hts⟩ (mtX1_requirePlace l hl0 E hok σ o (k1) hk1k v) (va_cwS 2 hts gX1_girth_X1_requirePlace rfl rfl rfl (by decide +kernel) ⟨Nat.le_of_ble_eq_true rfl, Nat.le_of_ble_eq_true rfl⟩) hno hlocks hK hP hS rfl hl.1 rfl (Nat.le_of_ble_eq_true rfl) dX1_girth_8 ⟨Nat.le_of_ble_eq_true rfl, Nat.le_of_ble_eq_true rfl⟩ (fun u h => Or.inr ⟨h.1, k1, hk1k, hk1e, fun ⟨q, hq, eq⟩ => h.2 (pl_to (hN k1 hk1k).1 (hN k1 hk1k).2 hq eq)⟩) ⟨Nat.le_of_ble_eq_true rfl, Nat.le_of_ble_eq_true rfl⟩ (fun σ_2 H locs hσ_2 hP hS => ?_)
  obtain ⟨hσ_2a, ehσ_2⟩ := hσ_2
  rw [ehσ_2] at hP
  obtain ⟨q, hq, eq⟩ := pl_of (hN k1 hk1k).1 (hN k1 hk1k).2 hσ_2a
  refine lv_aload_n hx hb dX1_girth_11 rfl (lv_at hl 0 rfl) ?_
  refine q_get (C := RX0) (T := TX0) (N := 8) (ci := 0) (v := .ref (e_a E (k1 + 18))) hx hb hts hinX0 hown hK hP (at_ch hk1k) rfl 1 (by decide) hf97 rfl dX1_girth_12 ?_
  refine lv_iload_n hx hb dX1_girth_15 rfl (lv_at hl 3 rfl) ?_
  refine q_ld hx hb hK hP (at_gi hk1k) (i := q) eq (by omega) (by decide) dX1_girth_16 ?_
  refine W.widen (k := 2) (n := 12) (Nat.le_of_ble_eq_true rfl) (Nat.le_of_ble_eq_true rfl) ?_
  exact vx_ret (r_i hx hb hr hlocks hP hS dX1_girth_17 ⟨k1, hk1k, hk1e, q, hq, eq, rfl, rfl⟩)
set_option maxHeartbeats 4000000 in
set_option maxRecDepth 100000 in
/-- below -/
theorem mtX1_below (l : Launch) (hl0 : l.stackTraces = false) (E : Ev) (hok : e_ok E) (σ : Mem) (o : Nat → Int64) (x w : Int32) (N : Nat → Nat) (hN : okN σ N) : vx_Met l yX1_below wsX1_below ({ frames := 7, cells := 2, slots := 12, locals := 111 } : Room) (PW E σ o [.ref (e_a E (0)), .int (x), .int (w)]) (va_Qi (fun (r : Int32) (σ' : Mem) => ∃ k : Nat, k < 8 ∧ x = nI k ∧ okW w ∧ r = blw (σ (k + 10)) w (N k) ∧ σ' = σ) (BW E o) (LB (e_B E))) (XW E σ o (fun u => (u = xIO ∧ ¬ isCh x) ∨ (u = xIA ∧ isCh x ∧ ¬ okW w))) 2 12 (LB (e_B E)) := by
  refine vx_ofW (cc := cX1_below) (maxL := 6) (ret := (some .int)) (by decide) rfl ?_
  intro p e s m args below meth c s₁ B hml hno hv
  obtain ⟨rfl, hP, hK⟩ := hv
  have hx := B.exec
  have hb := B.bytes
  have hr := B.returns
  have hts := atoms_spec (ws := wsX1_below) B.pre
  have hown : s.vm.findClass RX1 = some m.cls := findClass_of_methodNamed B.named
  have hlocks := B.notSynchronized
  have hS : va_S (LB (e_B E)) s.heap s.heap [] := va_S.rf
  have hinX0 : ∀ w ∈ wsX00, w ∈ wsX1_below := fun w h => by simp only [wsX1_below, List.mem_cons, List.mem_append, h, or_true, true_or]
  have hf27 := hts (.fieldLink RX1 27 "ParcelChutes$Chute" "count" "I") (by decide +kernel)
  have hf89 := hts (.fieldLink RX1 89 "ParcelChutes$Chute" "weights" "[I") (by decide +kernel)
  have hl := lv_entry ([.ref (e_a E (0)), .int (x), .int (w)]) (n := 6) (Nat.le_of_ble_eq_true rfl)
  rw [lg_entry_eq]
  generalize (lg_sl ([.ref (e_a E (0)), .int (x), .int (w)]) ++ List.replicate (6 - (lg_sl ([.ref (e_a E (0)), .int (x), .int (w)])).length) Slot.unset).toArray = ls at hl ⊢
  have hl : lv_has ls 6 [(0, .ref (e_a E (0))), (1, .int (x)), (2, .int (w))] := hl
  refine lv_aload_n hx hb dX1_below_0 rfl (lv_at hl 0 rfl) ?_
  refine lv_iload_n hx hb dX1_below_1 rfl (lv_at hl 1 rfl) ?_
  refine x_Vc (As := [.int (x)]) (rest := []) ⟨hx, hb, hml, hown, hts⟩ (mtX1_chuteAt l hl0 E hok σ o x) (cwV 1 hts gX1_below_X1_chuteAt rfl rfl rfl (by decide +kernel) ⟨Nat.le_of_ble_eq_true rfl, Nat.le_of_ble_eq_true rfl⟩) (va_recv hK.K hP (ci := 1) (q0 := 0) rfl at_0) hno hlocks hK hP hS rfl hl.1 rfl (Nat.le_of_ble_eq_true rfl) dX1_below_2 ⟨Nat.le_of_ble_eq_true rfl, Nat.le_of_ble_eq_true rfl⟩ (fun u h => Or.inl h) ⟨Nat.le_of_ble_eq_true rfl, Nat.le_of_ble_eq_true rfl⟩ (fun k1 H locs hk1 hP hS => ?_)
  obtain ⟨hk1k, hk1e⟩ := hk1
  have h12k1 := (hN k1 hk1k).2
  refine lv_astore_n (lv' := [(3, .ref (e_a E (k1 + 2))), (0, .ref (e_a E (0))), (1, .int (x)), (2, .int (w))]) hx hb dX1_below_5 rfl hl (by decide) rfl (fun ls hl => ?_)
  refine lv_iload_n hx hb dX1_below_6 rfl (lv_at hl 3 rfl) ?_
  refine x_Sv (As := [.int (w)]) (rest := []) ⟨hx, hb, hml, hown, hts⟩ (mtX1_requireWeight l hl0 E hok σ o w) (va_cwS 1 hts gX1_below_X1_requireWeight rfl rfl rfl (by decide +kernel) ⟨Nat.le_of_ble_eq_true rfl, Nat.le_of_ble_eq_true rfl⟩) hno hlocks hK hP hS rfl hl.1 rfl (Nat.le_of_ble_eq_true rfl) dX1_below_7 ⟨Nat.le_of_ble_eq_true rfl, Nat.le_of_ble_eq_true rfl⟩ (fun u h => Or.inr ⟨h.1, ⟨k1, hk1k, hk1e⟩, h.2⟩) ⟨Nat.le_of_ble_eq_true rfl, Nat.le_of_ble_eq_true rfl⟩ (fun σ_2 H locs hσ_2 hP hS => ?_)
  obtain ⟨hσ_2a, ehσ_2⟩ := hσ_2
  rw [ehσ_2] at hP
  refine lv_iconst (v := 0) hx hb dX1_below_10 (by decide) ?_
  refine lv_istore (lv' := [(4, .int (0)), (3, .ref (e_a E (k1 + 2))), (0, .ref (e_a E (0))), (1, .int (x)), (2, .int (w))]) hx hb dX1_below_11 hl (by decide) rfl (fun ls hl => ?_)
  refine lv_iconst (v := 0) hx hb dX1_below_13 (by decide) ?_
  refine lv_istore (lv' := [(5, .int (0)), (4, .int (0)), (3, .ref (e_a E (k1 + 2))), (0, .ref (e_a E (0))), (1, .int (x)), (2, .int (w))]) hx hb dX1_below_14 hl (by decide) rfl (fun ls hl => ?_)
  refine w_loop (E := E) (o := o) (ι := Nat × Int32) (μ := fun (i, y) => 12 - i) (I := fun (i, y) => i ≤ N k1 ∧ y = blw (σ (k1 + 10)) w i) (mem := fun _ => σ) (lv := fun (i, y) => [(5, .int (nI (i))), (4, .int (y)), (3, .ref (e_a E (k1 + 2))), (0, .ref (e_a E (0))), (1, .int (x)), (2, .int (w))]) (nL := 6) (pch := 16) ?_ ((0), (0)) (show (0) ≤ N k1 ∧ (0) = blw (σ (k1 + 10)) w (0) from ⟨Nat.zero_le _, rfl⟩) hP hS (lv_sub hl [0, 1, 2, 3, 4, 5] rfl)
  rintro ⟨i, y⟩ hI IH H locs ls hP hS hl
  have hP : va_P (e_D E) vwCl (wd E σ o) H := hP
  have hl : lv_has ls 6 [(5, .int (nI (i))), (4, .int (y)), (3, .ref (e_a E (k1 + 2))), (0, .ref (e_a E (0))), (1, .int (x)), (2, .int (w))] := hl
  have hI : i ≤ N k1 ∧ y = blw (σ (k1 + 10)) w i := hI
  refine lv_iload hx hb dX1_below_16 (lv_at hl 0 rfl) ?_
  refine lv_aload_n hx hb dX1_below_18 rfl (lv_at hl 2 rfl) ?_
  refine q_get (C := RX0) (T := TX0) (N := 8) (ci := 0) (v := .int (σ (k1 + 2) 2)) hx hb hts hinX0 hown hK hP (at_ch hk1k) rfl 2 (by decide) hf27 rfl dX1_below_19 ?_
  refine nb_ge (i := i) (j := N k1) hx hb rfl (hN k1 hk1k).1 (by omega) (by omega) dX1_below_22 (tgt := 51) (by decide) (fun c22 => ?_) (fun c22 => ?_)
  · skip
    refine lv_iload hx hb dX1_below_51 (lv_at hl 1 rfl) ?_
    refine W.widen (k := 2) (n := 12) (Nat.le_of_ble_eq_true rfl) (Nat.le_of_ble_eq_true rfl) ?_
    exact vx_ret (r_i hx hb hr hlocks hP hS dX1_below_53 ⟨k1, hk1k, hk1e, hσ_2a, by rw [hI.2, show i = N k1 by omega], rfl⟩)
  · skip
    refine lv_iload hx hb dX1_below_25 (lv_at hl 1 rfl) ?_
    refine lv_aload_n hx hb dX1_below_27 rfl (lv_at hl 2 rfl) ?_
    refine q_get (C := RX0) (T := TX0) (N := 8) (ci := 0) (v := .ref (e_a E (k1 + 10))) hx hb hts hinX0 hown hK hP (at_ch hk1k) rfl 0 (by decide) hf89 rfl dX1_below_28 ?_
    refine lv_iload hx hb dX1_below_31 (lv_at hl 0 rfl) ?_
    refine q_ld hx hb hK hP (at_wt hk1k) (i := i) rfl (by omega) (by decide) dX1_below_33 ?_
    refine lv_iconst (v := 1) hx hb dX1_below_34 (by decide) ?_
    refine lv_iload_n hx hb dX1_below_35 rfl (lv_at hl 5 rfl) ?_
    refine k_Si (As := [.int (σ (k1 + 10) (i)), .int (1), .int (w)]) (rest := [.int (y)]) ⟨hx, hb, hml, hown, hts⟩ (mtX1_holds l (σ (k1 + 10) (i)) 1 w) (va_cwS 3 hts gX1_below_X1_holds rfl rfl rfl (by decide +kernel) ⟨Nat.le_of_ble_eq_true rfl, Nat.le_of_ble_eq_true rfl⟩) rfl hl.1 rfl (Nat.le_of_ble_eq_true rfl) dX1_below_36 ⟨Nat.le_of_ble_eq_true rfl, Nat.le_of_ble_eq_true rfl⟩ (fun r3 er3 => ?_)
    subst er3
    refine k_Si (As := [.int (hd (σ (k1 + 10) (i)) w 1)]) (rest := [.int (y)]) ⟨hx, hb, hml, hown, hts⟩ (mtX1_oneIf l (hd (σ (k1 + 10) (i)) w 1)) (va_cwS 1 hts gX1_below_X1_oneIf rfl rfl rfl (by decide +kernel) ⟨Nat.le_of_ble_eq_true rfl, Nat.le_of_ble_eq_true rfl⟩) rfl hl.1 rfl (Nat.le_of_ble_eq_true rfl) dX1_below_39 ⟨Nat.le_of_ble_eq_true rfl, Nat.le_of_ble_eq_true rfl⟩ (fun r4 er4 => ?_)
    subst er4
    refine lv_iadd hx hb dX1_below_42 ?_
    refine lv_istore (lv' := [(4, .int (y + (b1 (hd (σ (k1 + 10) (i)) w 1)))), (5, .int (nI (i))), (3, .ref (e_a E (k1 + 2))), (0, .ref (e_a E (0))), (1, .int (x)), (2, .int (w))]) hx hb dX1_below_43 hl (by decide) rfl (fun ls hl => ?_)
    refine lv_iinc (v := nI (i + 1)) (lv' := [(5, .int (nI (i + 1))), (4, .int (y + (b1 (hd (σ (k1 + 10) (i)) w 1)))), (3, .ref (e_a E (k1 + 2))), (0, .ref (e_a E (0))), (1, .int (x)), (2, .int (w))]) hx hb dX1_below_45 hl (k := 1) rfl (by exact nI_add (i) 1) (by decide) rfl (fun ls hl => ?_)
    refine lv_goto (tgt := 16) hx hb dX1_below_48 (by decide) ?_
    exact IH ((i + 1), (y + (b1 (hd (σ (k1 + 10) (i)) w 1)))) (show (i + 1) ≤ N k1 ∧ (y + (b1 (hd (σ (k1 + 10) (i)) w 1))) = blw (σ (k1 + 10)) w (i + 1) from ⟨by omega, by rw [hI.2]; rfl⟩) (by (try dsimp only); omega) _ _ _ hP hS (lv_sub hl [0, 1, 2, 3, 4, 5] rfl)
set_option maxHeartbeats 4000000 in
set_option maxRecDepth 100000 in
/-- take -/
theorem mtX1_take (l : Launch) (hl0 : l.stackTraces = false) (E : Ev) (hok : e_ok E) (σ : Mem) (o : Nat → Int64) (x w : Int32) (N : Nat → Nat) (hN : okN σ N) : vx_Met l yX1_take wsX1_take ({ frames := 7, cells := 3, slots := 18, locals := 111 } : Room) (PW E σ o [.ref (e_a E (0)), .int (x), .int (w)]) (va_Qi (fun (r : Int32) (σ' : Mem) => ∃ k : Nat, k < 8 ∧ x = nI k ∧ okW w ∧ ∃ q : Nat, q < N k ∧ σ (k + 10) q = w ∧ (∀ a, a < q → σ (k + 10) a ≠ w) ∧ r = σ (k + 18) q ∧ σ' = m_rem σ k q (N k)) (BW E o) (LB (e_B E))) (XW E σ o (fun u => (u = xIO ∧ ¬ isCh x) ∨ (u = xIA ∧ isCh x ∧ ¬ okW w) ∨ (u = xNS ∧ okW w ∧ ∃ k : Nat, k < 8 ∧ x = nI k ∧ ∀ a, a < N k → σ (k + 10) a ≠ w))) 3 18 (LB (e_B E)) := by
  refine vx_ofW (cc := cX1_take) (maxL := 6) (ret := (some .int)) (by decide) rfl ?_
  intro p e s m args below meth c s₁ B hml hno hv
  obtain ⟨rfl, hP, hK⟩ := hv
  have hx := B.exec
  have hb := B.bytes
  have hr := B.returns
  have hts := atoms_spec (ws := wsX1_take) B.pre
  have hown : s.vm.findClass RX1 = some m.cls := findClass_of_methodNamed B.named
  have hlocks := B.notSynchronized
  have hS : va_S (LB (e_B E)) s.heap s.heap [] := va_S.rf
  have hinX0 : ∀ w ∈ wsX00, w ∈ wsX1_take := fun w h => by simp only [wsX1_take, List.mem_cons, List.mem_append, h, or_true, true_or]
  have hf97 := hts (.fieldLink RX1 97 "ParcelChutes$Chute" "girths" "[I") (by decide +kernel)
  have hl := lv_entry ([.ref (e_a E (0)), .int (x), .int (w)]) (n := 6) (Nat.le_of_ble_eq_true rfl)
  rw [lg_entry_eq]
  generalize (lg_sl ([.ref (e_a E (0)), .int (x), .int (w)]) ++ List.replicate (6 - (lg_sl ([.ref (e_a E (0)), .int (x), .int (w)])).length) Slot.unset).toArray = ls at hl ⊢
  have hl : lv_has ls 6 [(0, .ref (e_a E (0))), (1, .int (x)), (2, .int (w))] := hl
  refine lv_aload_n hx hb dX1_take_0 rfl (lv_at hl 0 rfl) ?_
  refine lv_iload_n hx hb dX1_take_1 rfl (lv_at hl 1 rfl) ?_
  refine x_Vc (As := [.int (x)]) (rest := []) ⟨hx, hb, hml, hown, hts⟩ (mtX1_chuteAt l hl0 E hok σ o x) (cwV 1 hts gX1_take_X1_chuteAt rfl rfl rfl (by decide +kernel) ⟨Nat.le_of_ble_eq_true rfl, Nat.le_of_ble_eq_true rfl⟩) (va_recv hK.K hP (ci := 1) (q0 := 0) rfl at_0) hno hlocks hK hP hS rfl hl.1 rfl (Nat.le_of_ble_eq_true rfl) dX1_take_2 ⟨Nat.le_of_ble_eq_true rfl, Nat.le_of_ble_eq_true rfl⟩ (fun u h => Or.inl h) ⟨Nat.le_of_ble_eq_true rfl, Nat.le_of_ble_eq_true rfl⟩ (fun k1 H locs hk1 hP hS => ?_)
  obtain ⟨hk1k, hk1e⟩ := hk1
  have h12k1 := (hN k1 hk1k).2
  refine lv_astore_n (lv' := [(3, .ref (e_a E (k1 + 2))), (0, .ref (e_a E (0))), (1, .int (x)), (2, .int (w))]) hx hb dX1_take_5 rfl hl (by decide) rfl (fun ls hl => ?_)
  refine lv_iload_n hx hb dX1_take_6 rfl (lv_at hl 3 rfl) ?_
  refine x_Sv (As := [.int (w)]) (rest := []) ⟨hx, hb, hml, hown, hts⟩ (mtX1_requireWeight l hl0 E hok σ o w) (va_cwS 1 hts gX1_take_X1_requireWeight rfl rfl rfl (by decide +kernel) ⟨Nat.le_of_ble_eq_true rfl, Nat.le_of_ble_eq_true rfl⟩) hno hlocks hK hP hS rfl hl.1 rfl (Nat.le_of_ble_eq_true rfl) dX1_take_7 ⟨Nat.le_of_ble_eq_true rfl, Nat.le_of_ble_eq_true rfl⟩ (fun u h => Or.inr (Or.inl ⟨h.1, ⟨k1, hk1k, hk1e⟩, h.2⟩)) ⟨Nat.le_of_ble_eq_true rfl, Nat.le_of_ble_eq_true rfl⟩ (fun σ_2 H locs hσ_2 hP hS => ?_)
  obtain ⟨hσ_2a, ehσ_2⟩ := hσ_2
  rw [ehσ_2] at hP
  refine lv_aload_n hx hb dX1_take_10 rfl (lv_at hl 0 rfl) ?_
  refine lv_iload_n hx hb dX1_take_11 rfl (lv_at hl 3 rfl) ?_
  refine k_Vi (As := [.int (w)]) (rest := []) ⟨hx, hb, hml, hown, hts⟩ (mtX0_firstOf l E hok σ o k1 hk1k (N k1) (hN k1 hk1k).1 (hN k1 hk1k).2 w) (cwV 1 hts gX1_take_X0_firstOf rfl rfl rfl (by decide +kernel) ⟨Nat.le_of_ble_eq_true rfl, Nat.le_of_ble_eq_true rfl⟩) (va_recv hK.K hP (ci := 0) (q0 := k1 + 2) rfl (at_ch hk1k)) hK hP hS rfl hl.1 rfl (Nat.le_of_ble_eq_true rfl) dX1_take_12 ⟨Nat.le_of_ble_eq_true rfl, Nat.le_of_ble_eq_true rfl⟩ (fun r3 σ_4 H locs hr3 hP hS => ?_)
  obtain ⟨hfo, ehr3⟩ := hr3
  rw [ehr3] at hP
  rcases hfo with ⟨q, hq, rfl, hqe, hqa⟩ | ⟨rfl, hna⟩
  · skip
    refine lv_istore (lv' := [(4, .int (nI (q))), (3, .ref (e_a E (k1 + 2))), (0, .ref (e_a E (0))), (1, .int (x)), (2, .int (w))]) hx hb dX1_take_15 hl (by decide) rfl (fun ls hl => ?_)
    refine lv_aload_n hx hb dX1_take_17 rfl (lv_at hl 1 rfl) ?_
    refine lv_iload hx hb dX1_take_18 (lv_at hl 0 rfl) ?_
    refine x_Sv (As := [.ref (e_a E (k1 + 2)), .int (nI (q))]) (rest := []) ⟨hx, hb, hml, hown, hts⟩ (mtX1_requirePlace l hl0 E hok σ o (k1) hk1k (nI (q))) (va_cwS 2 hts gX1_take_X1_requirePlace rfl rfl rfl (by decide +kernel) ⟨Nat.le_of_ble_eq_true rfl, Nat.le_of_ble_eq_true rfl⟩) hno hlocks hK hP hS rfl hl.1 rfl (Nat.le_of_ble_eq_true rfl) dX1_take_20 ⟨Nat.le_of_ble_eq_true rfl, Nat.le_of_ble_eq_true rfl⟩ (fun u h => absurd (pl_to (hN k1 hk1k).1 (hN k1 hk1k).2 hq rfl) h.2) ⟨Nat.le_of_ble_eq_true rfl, Nat.le_of_ble_eq_true rfl⟩ (fun σ_5 H locs hσ_5 hP hS => ?_)
    obtain ⟨hσ_5a, ehσ_5⟩ := hσ_5
    rw [ehσ_5] at hP
    refine lv_aload_n hx hb dX1_take_23 rfl (lv_at hl 1 rfl) ?_
    refine q_get (C := RX0) (T := TX0) (N := 8) (ci := 0) (v := .ref (e_a E (k1 + 18))) hx hb hts hinX0 hown hK hP (at_ch hk1k) rfl 1 (by decide) hf97 rfl dX1_take_24 ?_
    refine lv_iload hx hb dX1_take_27 (lv_at hl 0 rfl) ?_
    refine q_ld hx hb hK hP (at_gi hk1k) (i := q) rfl (by omega) (by decide) dX1_take_29 ?_
    refine lv_istore (lv' := [(5, .int (σ (k1 + 18) (q))), (4, .int (nI (q))), (3, .ref (e_a E (k1 + 2))), (0, .ref (e_a E (0))), (1, .int (x)), (2, .int (w))]) hx hb dX1_take_30 hl (by decide) rfl (fun ls hl => ?_)
    refine lv_aload_n hx hb dX1_take_32 rfl (lv_at hl 2 rfl) ?_
    refine lv_iload hx hb dX1_take_33 (lv_at hl 1 rfl) ?_
    refine k_Vv (As := [.int (nI (q))]) (rest := []) ⟨hx, hb, hml, hown, hts⟩ (mtX0_removeAt l E hok σ o k1 hk1k (N k1) q (hN k1 hk1k).1 (hN k1 hk1k).2 hq) (cwV 1 hts gX1_take_X0_removeAt rfl rfl rfl (by decide +kernel) ⟨Nat.le_of_ble_eq_true rfl, Nat.le_of_ble_eq_true rfl⟩) (va_recv hK.K hP (ci := 0) (q0 := k1 + 2) rfl (at_ch hk1k)) hK hP hS rfl hl.1 rfl (Nat.le_of_ble_eq_true rfl) dX1_take_35 ⟨Nat.le_of_ble_eq_true rfl, Nat.le_of_ble_eq_true rfl⟩ (fun σ_6 H locs hσ_6 hP hS => ?_)
    subst hσ_6
    refine lv_iload hx hb dX1_take_38 (lv_at hl 0 rfl) ?_
    refine W.widen (k := 3) (n := 18) (Nat.le_of_ble_eq_true rfl) (Nat.le_of_ble_eq_true rfl) ?_
    exact vx_ret (r_i hx hb hr hlocks hP hS dX1_take_40 ⟨k1, hk1k, hk1e, hσ_2a, q, hq, hqe, hqa, rfl, rfl⟩)
  · skip
    refine lv_istore (lv' := [(4, .int (-1)), (3, .ref (e_a E (k1 + 2))), (0, .ref (e_a E (0))), (1, .int (x)), (2, .int (w))]) hx hb dX1_take_15 hl (by decide) rfl (fun ls hl => ?_)
    refine lv_aload_n hx hb dX1_take_17 rfl (lv_at hl 1 rfl) ?_
    refine lv_iload hx hb dX1_take_18 (lv_at hl 0 rfl) ?_
    refine x_Sv (As := [.ref (e_a E (k1 + 2)), .int (-1)]) (rest := []) ⟨hx, hb, hml, hown, hts⟩ (mtX1_requirePlace l hl0 E hok σ o (k1) hk1k (-1)) (va_cwS 2 hts gX1_take_X1_requirePlace rfl rfl rfl (by decide +kernel) ⟨Nat.le_of_ble_eq_true rfl, Nat.le_of_ble_eq_true rfl⟩) hno hlocks hK hP hS rfl hl.1 rfl (Nat.le_of_ble_eq_true rfl) dX1_take_20 ⟨Nat.le_of_ble_eq_true rfl, Nat.le_of_ble_eq_true rfl⟩ (fun u h => Or.inr (Or.inr ⟨h.1, hσ_2a, k1, hk1k, hk1e, hna⟩)) ⟨Nat.le_of_ble_eq_true rfl, Nat.le_of_ble_eq_true rfl⟩ (fun σ_7 H locs hσ_7 hP hS => ?_)
    obtain ⟨hσ_7a, ehσ_7⟩ := hσ_7
    rw [ehσ_7] at hP
    exact absurd (by decide) hσ_7a.1
set_option maxHeartbeats 4000000 in
set_option maxRecDepth 100000 in
/-- heavier -/
theorem mtX1_heavier (l : Launch) (hl0 : l.stackTraces = false) (E : Ev) (hok : e_ok E) (σ : Mem) (o : Nat → Int64) (x y : Int32) (N : Nat → Nat) (hN : okN σ N) : vx_Met l yX1_heavier wsX1_heavier ({ frames := 7, cells := 2, slots := 12, locals := 111 } : Room) (PW E σ o [.ref (e_a E (0)), .int (x), .int (y)]) (va_Qi (fun (r : Int32) (σ' : Mem) => ∃ a : Nat, a < 8 ∧ x = nI a ∧ ∃ b : Nat, b < 8 ∧ y = nI b ∧ r = cmC (hvC (σ (a + 10)) (N a)) (hvC (σ (b + 10)) (N b)) ∧ σ' = σ) (BW E o) (LB (e_B E))) (XW E σ o (fun u => u = xIO ∧ ¬ (isCh x ∧ isCh y))) 2 12 (LB (e_B E)) := by
  refine vx_ofW (cc := cX1_heavier) (maxL := 5) (ret := (some .int)) (by decide) rfl ?_
  intro p e s m args below meth c s₁ B hml hno hv
  obtain ⟨rfl, hP, hK⟩ := hv
  have hx := B.exec
  have hb := B.bytes
  have hr := B.returns
  have hts := atoms_spec (ws := wsX1_heavier) B.pre
  have hown : s.vm.findClass RX1 = some m.cls := findClass_of_methodNamed B.named
  have hlocks := B.notSynchronized
  have hS : va_S (LB (e_B E)) s.heap s.heap [] := va_S.rf
  have hl := lv_entry ([.ref (e_a E (0)), .int (x), .int (y)]) (n := 5) (Nat.le_of_ble_eq_true rfl)
  rw [lg_entry_eq]
  generalize (lg_sl ([.ref (e_a E (0)), .int (x), .int (y)]) ++ List.replicate (5 - (lg_sl ([.ref (e_a E (0)), .int (x), .int (y)])).length) Slot.unset).toArray = ls at hl ⊢
  have hl : lv_has ls 5 [(0, .ref (e_a E (0))), (1, .int (x)), (2, .int (y))] := hl
  refine lv_aload_n hx hb dX1_heavier_0 rfl (lv_at hl 0 rfl) ?_
  refine lv_iload_n hx hb dX1_heavier_1 rfl (lv_at hl 1 rfl) ?_
  refine x_Vc (As := [.int (x)]) (rest := []) ⟨hx, hb, hml, hown, hts⟩ (mtX1_chuteAt l hl0 E hok σ o x) (cwV 1 hts gX1_heavier_X1_chuteAt rfl rfl rfl (by decide +kernel) ⟨Nat.le_of_ble_eq_true rfl, Nat.le_of_ble_eq_true rfl⟩) (va_recv hK.K hP (ci := 1) (q0 := 0) rfl at_0) hno hlocks hK hP hS rfl hl.1 rfl (Nat.le_of_ble_eq_true rfl) dX1_heavier_2 ⟨Nat.le_of_ble_eq_true rfl, Nat.le_of_ble_eq_true rfl⟩ (fun u h => ⟨h.1, fun z => h.2 z.1⟩) ⟨Nat.le_of_ble_eq_true rfl, Nat.le_of_ble_eq_true rfl⟩ (fun k1 H locs hk1 hP hS => ?_)
  obtain ⟨hk1k, hk1e⟩ := hk1
  have h12k1 := (hN k1 hk1k).2
  refine k_Vi (As := []) (rest := []) ⟨hx, hb, hml, hown, hts⟩ (mtX0_heaviestKnown l E hok σ o k1 hk1k (N k1) (hN k1 hk1k).1 (hN k1 hk1k).2) (cwV 0 hts gX1_heavier_X0_heaviestKnown rfl rfl rfl (by decide +kernel) ⟨Nat.le_of_ble_eq_true rfl, Nat.le_of_ble_eq_true rfl⟩) (va_recv hK.K hP (ci := 0) (q0 := k1 + 2) rfl (at_ch hk1k)) hK hP hS rfl hl.1 rfl (Nat.le_of_ble_eq_true rfl) dX1_heavier_5 ⟨Nat.le_of_ble_eq_true rfl, Nat.le_of_ble_eq_true rfl⟩ (fun r2 σ_3 H locs hr2 hP hS => ?_)
  obtain ⟨rfl, ehr2⟩ := hr2
  rw [ehr2] at hP
  refine lv_istore_n (lv' := [(3, .int (hvC (σ (k1 + 10)) (N k1))), (0, .ref (e_a E (0))), (1, .int (x)), (2, .int (y))]) hx hb dX1_heavier_8 rfl hl (by decide) rfl (fun ls hl => ?_)
  refine lv_aload_n hx hb dX1_heavier_9 rfl (lv_at hl 1 rfl) ?_
  refine lv_iload_n hx hb dX1_heavier_10 rfl (lv_at hl 3 rfl) ?_
  refine x_Vc (As := [.int (y)]) (rest := []) ⟨hx, hb, hml, hown, hts⟩ (mtX1_chuteAt l hl0 E hok σ o y) (cwV 1 hts gX1_heavier_X1_chuteAt rfl rfl rfl (by decide +kernel) ⟨Nat.le_of_ble_eq_true rfl, Nat.le_of_ble_eq_true rfl⟩) (va_recv hK.K hP (ci := 1) (q0 := 0) rfl at_0) hno hlocks hK hP hS rfl hl.1 rfl (Nat.le_of_ble_eq_true rfl) dX1_heavier_11 ⟨Nat.le_of_ble_eq_true rfl, Nat.le_of_ble_eq_true rfl⟩ (fun u h => ⟨h.1, fun z => h.2 z.2⟩) ⟨Nat.le_of_ble_eq_true rfl, Nat.le_of_ble_eq_true rfl⟩ (fun k4 H locs hk4 hP hS => ?_)
  obtain ⟨hk4k, hk4e⟩ := hk4
  have h12k4 := (hN k4 hk4k).2
  refine k_Vi (As := []) (rest := []) ⟨hx, hb, hml, hown, hts⟩ (mtX0_heaviestKnown l E hok σ o k4 hk4k (N k4) (hN k4 hk4k).1 (hN k4 hk4k).2) (cwV 0 hts gX1_heavier_X0_heaviestKnown rfl rfl rfl (by decide +kernel) ⟨Nat.le_of_ble_eq_true rfl, Nat.le_of_ble_eq_true rfl⟩) (va_recv hK.K hP (ci := 0) (q0 := k4 + 2) rfl (at_ch hk4k)) hK hP hS rfl hl.1 rfl (Nat.le_of_ble_eq_true rfl) dX1_heavier_14 ⟨Nat.le_of_ble_eq_true rfl, Nat.le_of_ble_eq_true rfl⟩ (fun r5 σ_6 H locs hr5 hP hS => ?_)
  obtain ⟨rfl, ehr5⟩ := hr5
  rw [ehr5] at hP
  refine lv_istore (lv' := [(4, .int (hvC (σ (k4 + 10)) (N k4))), (3, .int (hvC (σ (k1 + 10)) (N k1))), (0, .ref (e_a E (0))), (1, .int (x)), (2, .int (y))]) hx hb dX1_heavier_17 hl (by decide) rfl (fun ls hl => ?_)
  refine lv_iload_n hx hb dX1_heavier_19 rfl (lv_at hl 1 rfl) ?_
  refine lv_iconst (v := 4) hx hb dX1_heavier_20 (by decide) ?_
  refine lv_iload hx hb dX1_heavier_21 (lv_at hl 0 rfl) ?_
  refine k_Si (As := [.int (hvC (σ (k1 + 10)) (N k1)), .int (4), .int (hvC (σ (k4 + 10)) (N k4))]) (rest := []) ⟨hx, hb, hml, hown, hts⟩ (mtX1_holds l (hvC (σ (k1 + 10)) (N k1)) 4 (hvC (σ (k4 + 10)) (N k4))) (va_cwS 3 hts gX1_heavier_X1_holds rfl rfl rfl (by decide +kernel) ⟨Nat.le_of_ble_eq_true rfl, Nat.le_of_ble_eq_true rfl⟩) rfl hl.1 rfl (Nat.le_of_ble_eq_true rfl) dX1_heavier_23 ⟨Nat.le_of_ble_eq_true rfl, Nat.le_of_ble_eq_true rfl⟩ (fun r7 er7 => ?_)
  subst er7
  refine lv_if_eq (tgt := 31) hx hb dX1_heavier_26 (by decide) (fun c26 => ?_) (fun c26 => ?_)
  · skip
    refine lv_iload_n hx hb dX1_heavier_31 rfl (lv_at hl 1 rfl) ?_
    refine lv_iconst (v := 1) hx hb dX1_heavier_32 (by decide) ?_
    refine lv_iload hx hb dX1_heavier_33 (lv_at hl 0 rfl) ?_
    refine k_Si (As := [.int (hvC (σ (k1 + 10)) (N k1)), .int (1), .int (hvC (σ (k4 + 10)) (N k4))]) (rest := []) ⟨hx, hb, hml, hown, hts⟩ (mtX1_holds l (hvC (σ (k1 + 10)) (N k1)) 1 (hvC (σ (k4 + 10)) (N k4))) (va_cwS 3 hts gX1_heavier_X1_holds rfl rfl rfl (by decide +kernel) ⟨Nat.le_of_ble_eq_true rfl, Nat.le_of_ble_eq_true rfl⟩) rfl hl.1 rfl (Nat.le_of_ble_eq_true rfl) dX1_heavier_35 ⟨Nat.le_of_ble_eq_true rfl, Nat.le_of_ble_eq_true rfl⟩ (fun r8 er8 => ?_)
    subst er8
    refine lv_if_eq (tgt := 43) hx hb dX1_heavier_38 (by decide) (fun c38 => ?_) (fun c38 => ?_)
    · skip
      refine lv_iload_n hx hb dX1_heavier_43 rfl (lv_at hl 1 rfl) ?_
      refine lv_bipush (v := 16) hx hb dX1_heavier_44 (by decide) ?_
      refine lv_iload hx hb dX1_heavier_46 (lv_at hl 0 rfl) ?_
      refine k_Si (As := [.int (hvC (σ (k1 + 10)) (N k1)), .int (16), .int (hvC (σ (k4 + 10)) (N k4))]) (rest := []) ⟨hx, hb, hml, hown, hts⟩ (mtX1_holds l (hvC (σ (k1 + 10)) (N k1)) 16 (hvC (σ (k4 + 10)) (N k4))) (va_cwS 3 hts gX1_heavier_X1_holds rfl rfl rfl (by decide +kernel) ⟨Nat.le_of_ble_eq_true rfl, Nat.le_of_ble_eq_true rfl⟩) rfl hl.1 rfl (Nat.le_of_ble_eq_true rfl) dX1_heavier_48 ⟨Nat.le_of_ble_eq_true rfl, Nat.le_of_ble_eq_true rfl⟩ (fun r9 er9 => ?_)
      subst er9
      refine lv_if_eq (tgt := 58) hx hb dX1_heavier_51 (by decide) (fun c51 => ?_) (fun c51 => ?_)
      · skip
        refine lv_iconst (v := 2) hx hb dX1_heavier_58 (by decide) ?_
        refine W.widen (k := 2) (n := 12) (Nat.le_of_ble_eq_true rfl) (Nat.le_of_ble_eq_true rfl) ?_
        exact vx_ret (r_i hx hb hr hlocks hP hS dX1_heavier_59 ⟨k1, hk1k, hk1e, k4, hk4k, hk4e, by simp [cmC, c26, c38, c51], rfl⟩)
      · skip
        refine lv_iconst (v := 0) hx hb dX1_heavier_54 (by decide) ?_
        refine lv_goto (tgt := 59) hx hb dX1_heavier_55 (by decide) ?_
        refine W.widen (k := 2) (n := 12) (Nat.le_of_ble_eq_true rfl) (Nat.le_of_ble_eq_true rfl) ?_
        exact vx_ret (r_i hx hb hr hlocks hP hS dX1_heavier_59 ⟨k1, hk1k, hk1e, k4, hk4k, hk4e, by simp [cmC, c26, c38, c51], rfl⟩)
    · skip
      refine lv_iconst (v := (-1)) hx hb dX1_heavier_41 (by decide) ?_
      refine W.widen (k := 2) (n := 12) (Nat.le_of_ble_eq_true rfl) (Nat.le_of_ble_eq_true rfl) ?_
      exact vx_ret (r_i hx hb hr hlocks hP hS dX1_heavier_42 ⟨k1, hk1k, hk1e, k4, hk4k, hk4e, by simp [cmC, c26, c38], rfl⟩)
  · skip
    refine lv_iconst (v := 1) hx hb dX1_heavier_29 (by decide) ?_
    refine W.widen (k := 2) (n := 12) (Nat.le_of_ble_eq_true rfl) (Nat.le_of_ble_eq_true rfl) ?_
    exact vx_ret (r_i hx hb hr hlocks hP hS dX1_heavier_30 ⟨k1, hk1k, hk1e, k4, hk4k, hk4e, by simp [cmC, c26], rfl⟩)
set_option maxHeartbeats 4000000 in
set_option maxRecDepth 100000 in
/-- alike -/
theorem mtX1_alike (l : Launch) (hl0 : l.stackTraces = false) (E : Ev) (hok : e_ok E) (σ : Mem) (o : Nat → Int64) (x y : Int32) (N : Nat → Nat) (hN : okN σ N) : vx_Met l yX1_alike wsX1_alike ({ frames := 7, cells := 2, slots := 12, locals := 111 } : Room) (PW E σ o [.ref (e_a E (0)), .int (x), .int (y)]) (va_Qi (fun (r : Int32) (σ' : Mem) => ∃ a : Nat, a < 8 ∧ x = nI a ∧ ∃ b : Nat, b < 8 ∧ y = nI b ∧ ∃ i : Nat, r = nI i ∧ i ≤ min (N a) (N b) ∧ (∀ t, t < i → hd (σ (a + 10) t) (σ (b + 10) t) 16 ≠ 0 ∧ hd (σ (a + 18) t) (σ (b + 18) t) 16 ≠ 0) ∧ (i < min (N a) (N b) → hd (σ (a + 10) i) (σ (b + 10) i) 16 = 0 ∨ hd (σ (a + 18) i) (σ (b + 18) i) 16 = 0) ∧ σ' = σ) (BW E o) (LB (e_B E))) (XW E σ o (fun u => u = xIO ∧ ¬ (isCh x ∧ isCh y))) 2 12 (LB (e_B E)) := by
  refine vx_ofW (cc := cX1_alike) (maxL := 7) (ret := (some .int)) (by decide) rfl ?_
  intro p e s m args below meth c s₁ B hml hno hv
  obtain ⟨rfl, hP, hK⟩ := hv
  have hx := B.exec
  have hb := B.bytes
  have hr := B.returns
  have hts := atoms_spec (ws := wsX1_alike) B.pre
  have hown : s.vm.findClass RX1 = some m.cls := findClass_of_methodNamed B.named
  have hlocks := B.notSynchronized
  have hS : va_S (LB (e_B E)) s.heap s.heap [] := va_S.rf
  have hinX0 : ∀ w ∈ wsX00, w ∈ wsX1_alike := fun w h => by simp only [wsX1_alike, List.mem_cons, List.mem_append, h, or_true, true_or]
  have hf27 := hts (.fieldLink RX1 27 "ParcelChutes$Chute" "count" "I") (by decide +kernel)
  have hf89 := hts (.fieldLink RX1 89 "ParcelChutes$Chute" "weights" "[I") (by decide +kernel)
  have hf97 := hts (.fieldLink RX1 97 "ParcelChutes$Chute" "girths" "[I") (by decide +kernel)
  have hl := lv_entry ([.ref (e_a E (0)), .int (x), .int (y)]) (n := 7) (Nat.le_of_ble_eq_true rfl)
  rw [lg_entry_eq]
  generalize (lg_sl ([.ref (e_a E (0)), .int (x), .int (y)]) ++ List.replicate (7 - (lg_sl ([.ref (e_a E (0)), .int (x), .int (y)])).length) Slot.unset).toArray = ls at hl ⊢
  have hl : lv_has ls 7 [(0, .ref (e_a E (0))), (1, .int (x)), (2, .int (y))] := hl
  refine lv_aload_n hx hb dX1_alike_0 rfl (lv_at hl 0 rfl) ?_
  refine lv_iload_n hx hb dX1_alike_1 rfl (lv_at hl 1 rfl) ?_
  refine x_Vc (As := [.int (x)]) (rest := []) ⟨hx, hb, hml, hown, hts⟩ (mtX1_chuteAt l hl0 E hok σ o x) (cwV 1 hts gX1_alike_X1_chuteAt rfl rfl rfl (by decide +kernel) ⟨Nat.le_of_ble_eq_true rfl, Nat.le_of_ble_eq_true rfl⟩) (va_recv hK.K hP (ci := 1) (q0 := 0) rfl at_0) hno hlocks hK hP hS rfl hl.1 rfl (Nat.le_of_ble_eq_true rfl) dX1_alike_2 ⟨Nat.le_of_ble_eq_true rfl, Nat.le_of_ble_eq_true rfl⟩ (fun u h => ⟨h.1, fun z => h.2 z.1⟩) ⟨Nat.le_of_ble_eq_true rfl, Nat.le_of_ble_eq_true rfl⟩ (fun k1 H locs hk1 hP hS => ?_)
  obtain ⟨hk1k, hk1e⟩ := hk1
  have h12k1 := (hN k1 hk1k).2
  refine lv_astore_n (lv' := [(3, .ref (e_a E (k1 + 2))), (0, .ref (e_a E (0))), (1, .int (x)), (2, .int (y))]) hx hb dX1_alike_5 rfl hl (by decide) rfl (fun ls hl => ?_)
  refine lv_aload_n hx hb dX1_alike_6 rfl (lv_at hl 1 rfl) ?_
  refine lv_iload_n hx hb dX1_alike_7 rfl (lv_at hl 3 rfl) ?_
  refine x_Vc (As := [.int (y)]) (rest := []) ⟨hx, hb, hml, hown, hts⟩ (mtX1_chuteAt l hl0 E hok σ o y) (cwV 1 hts gX1_alike_X1_chuteAt rfl rfl rfl (by decide +kernel) ⟨Nat.le_of_ble_eq_true rfl, Nat.le_of_ble_eq_true rfl⟩) (va_recv hK.K hP (ci := 1) (q0 := 0) rfl at_0) hno hlocks hK hP hS rfl hl.1 rfl (Nat.le_of_ble_eq_true rfl) dX1_alike_8 ⟨Nat.le_of_ble_eq_true rfl, Nat.le_of_ble_eq_true rfl⟩ (fun u h => ⟨h.1, fun z => h.2 z.2⟩) ⟨Nat.le_of_ble_eq_true rfl, Nat.le_of_ble_eq_true rfl⟩ (fun k2 H locs hk2 hP hS => ?_)
  obtain ⟨hk2k, hk2e⟩ := hk2
  have h12k2 := (hN k2 hk2k).2
  refine lv_astore (lv' := [(4, .ref (e_a E (k2 + 2))), (3, .ref (e_a E (k1 + 2))), (0, .ref (e_a E (0))), (1, .int (x)), (2, .int (y))]) hx hb dX1_alike_11 hl (by decide) rfl (fun ls hl => ?_)
  refine lv_aload_n hx hb dX1_alike_13 rfl (lv_at hl 1 rfl) ?_
  refine q_get (C := RX0) (T := TX0) (N := 8) (ci := 0) (v := .int (σ (k1 + 2) 2)) hx hb hts hinX0 hown hK hP (at_ch hk1k) rfl 2 (by decide) hf27 rfl dX1_alike_14 ?_
  refine lv_aload hx hb dX1_alike_17 (lv_at hl 0 rfl) ?_
  refine q_get (C := RX0) (T := TX0) (N := 8) (ci := 0) (v := .int (σ (k2 + 2) 2)) hx hb hts hinX0 hown hK hP (at_ch hk2k) rfl 2 (by decide) hf27 rfl dX1_alike_19 ?_
  refine va_mmin hx hb (hml.trans hl.1.symm) hown (hts (.methodLink RX1 117 Lib.Math.min.name) (by decide +kernel)) (hts (.static Lib.Math.min.name) (by decide +kernel)) (hts (.initialized "java/lang/Math") (by decide +kernel)) (hts (.code Lib.Math.min.name Lib.Math.min.code 2 (some .int)) (by decide +kernel)) (Nat.le_of_ble_eq_true rfl) (Nat.le_of_ble_eq_true rfl) (Nat.le_of_ble_eq_true rfl) (Nat.le_of_ble_eq_true rfl) dX1_alike_22 ?_
  rw [min_I (hN k1 hk1k).1 (hN k2 hk2k).1 (hN k1 hk1k).2 (hN k2 hk2k).2]
  refine lv_istore (lv' := [(5, .int (nI (min (N k1) (N k2)))), (4, .ref (e_a E (k2 + 2))), (3, .ref (e_a E (k1 + 2))), (0, .ref (e_a E (0))), (1, .int (x)), (2, .int (y))]) hx hb dX1_alike_25 hl (by decide) rfl (fun ls hl => ?_)
  refine lv_iconst (v := 0) hx hb dX1_alike_27 (by decide) ?_
  refine lv_istore (lv' := [(6, .int (0)), (5, .int (nI (min (N k1) (N k2)))), (4, .ref (e_a E (k2 + 2))), (3, .ref (e_a E (k1 + 2))), (0, .ref (e_a E (0))), (1, .int (x)), (2, .int (y))]) hx hb dX1_alike_28 hl (by decide) rfl (fun ls hl => ?_)
  refine w_loop (E := E) (o := o) (ι := Nat) (μ := fun i => 12 - i) (I := fun i => i ≤ min (N k1) (N k2) ∧ ∀ t, t < i → hd (σ (k1 + 10) t) (σ (k2 + 10) t) 16 ≠ 0 ∧ hd (σ (k1 + 18) t) (σ (k2 + 18) t) 16 ≠ 0) (mem := fun _ => σ) (lv := fun i => [(6, .int (nI (i))), (5, .int (nI (min (N k1) (N k2)))), (4, .ref (e_a E (k2 + 2))), (3, .ref (e_a E (k1 + 2))), (0, .ref (e_a E (0))), (1, .int (x)), (2, .int (y))]) (nL := 7) (pch := 30) ?_ (0) (show (0) ≤ min (N k1) (N k2) ∧ ∀ t, t < (0) → hd (σ (k1 + 10) t) (σ (k2 + 10) t) 16 ≠ 0 ∧ hd (σ (k1 + 18) t) (σ (k2 + 18) t) 16 ≠ 0 from ⟨Nat.zero_le _, fun a h => absurd h (Nat.not_lt_zero a)⟩) hP hS (lv_sub hl [0, 1, 2, 3, 4, 5, 6] rfl)
  rintro i hI IH H locs ls hP hS hl
  have hP : va_P (e_D E) vwCl (wd E σ o) H := hP
  have hl : lv_has ls 7 [(6, .int (nI (i))), (5, .int (nI (min (N k1) (N k2)))), (4, .ref (e_a E (k2 + 2))), (3, .ref (e_a E (k1 + 2))), (0, .ref (e_a E (0))), (1, .int (x)), (2, .int (y))] := hl
  have hI : i ≤ min (N k1) (N k2) ∧ ∀ t, t < i → hd (σ (k1 + 10) t) (σ (k2 + 10) t) 16 ≠ 0 ∧ hd (σ (k1 + 18) t) (σ (k2 + 18) t) 16 ≠ 0 := hI
  refine lv_iload hx hb dX1_alike_30 (lv_at hl 0 rfl) ?_
  refine lv_iload hx hb dX1_alike_32 (lv_at hl 1 rfl) ?_
  refine nb_ge (i := i) (j := min (N k1) (N k2)) hx hb rfl rfl (by omega) (by omega) dX1_alike_34 (tgt := 92) (by decide) (fun c34 => ?_) (fun c34 => ?_)
  · skip
    refine lv_iload hx hb dX1_alike_92 (lv_at hl 1 rfl) ?_
    refine W.widen (k := 2) (n := 12) (Nat.le_of_ble_eq_true rfl) (Nat.le_of_ble_eq_true rfl) ?_
    exact vx_ret (r_i hx hb hr hlocks hP hS dX1_alike_94 ⟨k1, hk1k, hk1e, k2, hk2k, hk2e, min (N k1) (N k2), rfl, Nat.le_refl _, fun t h => hI.2 t (by omega), fun h => absurd h (Nat.lt_irrefl _), rfl⟩)
  · skip
    refine lv_aload_n hx hb dX1_alike_37 rfl (lv_at hl 3 rfl) ?_
    refine q_get (C := RX0) (T := TX0) (N := 8) (ci := 0) (v := .ref (e_a E (k1 + 10))) hx hb hts hinX0 hown hK hP (at_ch hk1k) rfl 0 (by decide) hf89 rfl dX1_alike_38 ?_
    refine lv_iload hx hb dX1_alike_41 (lv_at hl 0 rfl) ?_
    refine q_ld hx hb hK hP (at_wt hk1k) (i := i) rfl (by omega) (by decide) dX1_alike_43 ?_
    refine lv_bipush (v := 16) hx hb dX1_alike_44 (by decide) ?_
    refine lv_aload hx hb dX1_alike_46 (lv_at hl 2 rfl) ?_
    refine q_get (C := RX0) (T := TX0) (N := 8) (ci := 0) (v := .ref (e_a E (k2 + 10))) hx hb hts hinX0 hown hK hP (at_ch hk2k) rfl 0 (by decide) hf89 rfl dX1_alike_48 ?_
    refine lv_iload hx hb dX1_alike_51 (lv_at hl 0 rfl) ?_
    refine q_ld hx hb hK hP (at_wt hk2k) (i := i) rfl (by omega) (by decide) dX1_alike_53 ?_
    refine k_Si (As := [.int (σ (k1 + 10) (i)), .int (16), .int (σ (k2 + 10) (i))]) (rest := []) ⟨hx, hb, hml, hown, hts⟩ (mtX1_holds l (σ (k1 + 10) (i)) 16 (σ (k2 + 10) (i))) (va_cwS 3 hts gX1_alike_X1_holds rfl rfl rfl (by decide +kernel) ⟨Nat.le_of_ble_eq_true rfl, Nat.le_of_ble_eq_true rfl⟩) rfl hl.1 rfl (Nat.le_of_ble_eq_true rfl) dX1_alike_54 ⟨Nat.le_of_ble_eq_true rfl, Nat.le_of_ble_eq_true rfl⟩ (fun r3 er3 => ?_)
    subst er3
    refine lv_if_eq (tgt := 83) hx hb dX1_alike_57 (by decide) (fun c57 => ?_) (fun c57 => ?_)
    · skip
      refine lv_iload hx hb dX1_alike_83 (lv_at hl 0 rfl) ?_
      refine W.widen (k := 2) (n := 12) (Nat.le_of_ble_eq_true rfl) (Nat.le_of_ble_eq_true rfl) ?_
      exact vx_ret (r_i hx hb hr hlocks hP hS dX1_alike_85 ⟨k1, hk1k, hk1e, k2, hk2k, hk2e, i, rfl, hI.1, hI.2, fun _ => Or.inl c57, rfl⟩)
    · skip
      refine lv_aload_n hx hb dX1_alike_60 rfl (lv_at hl 3 rfl) ?_
      refine q_get (C := RX0) (T := TX0) (N := 8) (ci := 0) (v := .ref (e_a E (k1 + 18))) hx hb hts hinX0 hown hK hP (at_ch hk1k) rfl 1 (by decide) hf97 rfl dX1_alike_61 ?_
      refine lv_iload hx hb dX1_alike_64 (lv_at hl 0 rfl) ?_
      refine q_ld hx hb hK hP (at_gi hk1k) (i := i) rfl (by omega) (by decide) dX1_alike_66 ?_
      refine lv_bipush (v := 16) hx hb dX1_alike_67 (by decide) ?_
      refine lv_aload hx hb dX1_alike_69 (lv_at hl 2 rfl) ?_
      refine q_get (C := RX0) (T := TX0) (N := 8) (ci := 0) (v := .ref (e_a E (k2 + 18))) hx hb hts hinX0 hown hK hP (at_ch hk2k) rfl 1 (by decide) hf97 rfl dX1_alike_71 ?_
      refine lv_iload hx hb dX1_alike_74 (lv_at hl 0 rfl) ?_
      refine q_ld hx hb hK hP (at_gi hk2k) (i := i) rfl (by omega) (by decide) dX1_alike_76 ?_
      refine k_Si (As := [.int (σ (k1 + 18) (i)), .int (16), .int (σ (k2 + 18) (i))]) (rest := []) ⟨hx, hb, hml, hown, hts⟩ (mtX1_holds l (σ (k1 + 18) (i)) 16 (σ (k2 + 18) (i))) (va_cwS 3 hts gX1_alike_X1_holds rfl rfl rfl (by decide +kernel) ⟨Nat.le_of_ble_eq_true rfl, Nat.le_of_ble_eq_true rfl⟩) rfl hl.1 rfl (Nat.le_of_ble_eq_true rfl) dX1_alike_77 ⟨Nat.le_of_ble_eq_true rfl, Nat.le_of_ble_eq_true rfl⟩ (fun r4 er4 => ?_)
      subst er4
      refine lv_if_ne (tgt := 86) hx hb dX1_alike_80 (by decide) (fun c80 => ?_) (fun c80 => ?_)
      · skip
        refine lv_iinc (v := nI (i + 1)) (lv' := [(6, .int (nI (i + 1))), (5, .int (nI (min (N k1) (N k2)))), (4, .ref (e_a E (k2 + 2))), (3, .ref (e_a E (k1 + 2))), (0, .ref (e_a E (0))), (1, .int (x)), (2, .int (y))]) hx hb dX1_alike_86 hl (k := 0) rfl (by exact nI_add (i) 1) (by decide) rfl (fun ls hl => ?_)
        refine lv_goto (tgt := 30) hx hb dX1_alike_89 (by decide) ?_
        exact IH (i + 1) (show (i + 1) ≤ min (N k1) (N k2) ∧ ∀ t, t < (i + 1) → hd (σ (k1 + 10) t) (σ (k2 + 10) t) 16 ≠ 0 ∧ hd (σ (k1 + 18) t) (σ (k2 + 18) t) 16 ≠ 0 from ⟨by omega, lt_s hI.2 ⟨c57, c80⟩⟩) (by (try dsimp only); omega) _ _ _ hP hS (lv_sub hl [0, 1, 2, 3, 4, 5, 6] rfl)
      · skip
        refine lv_iload hx hb dX1_alike_83 (lv_at hl 0 rfl) ?_
        refine W.widen (k := 2) (n := 12) (Nat.le_of_ble_eq_true rfl) (Nat.le_of_ble_eq_true rfl) ?_
        exact vx_ret (r_i hx hb hr hlocks hP hS dX1_alike_85 ⟨k1, hk1k, hk1e, k2, hk2k, hk2e, i, rfl, hI.1, hI.2, fun _ => Or.inr c80, rfl⟩)
theorem wxX1_gauge_24 : ∀ w ∈ (vx_atS RX1 24 "java/lang/IllegalArgumentException" ["java/lang/RuntimeException", "java/lang/Exception"]).filter goodWord, w ∈ wsX1_gauge := fun w h => by
  simp only [wsX1_gauge, List.mem_cons, List.mem_append, h, or_true, true_or]
set_option maxHeartbeats 4000000 in
set_option maxRecDepth 100000 in
/-- gauge -/
theorem mtX1_gauge (l : Launch) (hl0 : l.stackTraces = false) (E : Ev) (hok : e_ok E) (σ : Mem) (o : Nat → Int64) (v : Int32) : vx_Met l yX1_gauge wsX1_gauge ({ frames := 6, cells := 1, slots := 6, locals := 90 } : Room) (PW E σ o [.ref (e_a E (0)), .int (v)]) (va_Qi (fun (r : Int32) (σ' : Mem) => okV v ∧ r = gC σ v ∧ σ' = σ) (BW E o) (LB (e_B E))) (XW E σ o (fun u => u = xIA ∧ ¬ okV v)) 1 6 (LB (e_B E)) := by
  refine vx_ofW (cc := cX1_gauge) (maxL := 2) (ret := (some .int)) (by decide) rfl ?_
  intro p e s m args below meth c s₁ B hml hno hv
  obtain ⟨rfl, hP, hK⟩ := hv
  have hx := B.exec
  have hb := B.bytes
  have hr := B.returns
  have hts := atoms_spec (ws := wsX1_gauge) B.pre
  have hown : s.vm.findClass RX1 = some m.cls := findClass_of_methodNamed B.named
  have hlocks := B.notSynchronized
  have hS : va_S (LB (e_B E)) s.heap s.heap [] := va_S.rf
  have hinX1 : ∀ w ∈ wsX10, w ∈ wsX1_gauge := fun w h => by simp only [wsX1_gauge, List.mem_cons, List.mem_append, h, or_true, true_or]
  have hf122 := hts (.fieldLink RX1 122 "ParcelChutes" "lightest" "I") (by decide +kernel)
  have hf125 := hts (.fieldLink RX1 125 "ParcelChutes" "heaviest" "I") (by decide +kernel)
  have hf128 := hts (.fieldLink RX1 128 "ParcelChutes" "widest" "I") (by decide +kernel)
  have hf131 := hts (.fieldLink RX1 131 "ParcelChutes" "streak" "I") (by decide +kernel)
  have hf134 := hts (.fieldLink RX1 134 "ParcelChutes" "came" "I") (by decide +kernel)
  have hf137 := hts (.fieldLink RX1 137 "ParcelChutes" "asideCount" "I") (by decide +kernel)
  have hf140 := hts (.fieldLink RX1 140 "ParcelChutes" "asideWeight" "I") (by decide +kernel)
  have hf143 := hts (.fieldLink RX1 143 "ParcelChutes" "asideGirth" "I") (by decide +kernel)
  have hl := lv_entry ([.ref (e_a E (0)), .int (v)]) (n := 2) (Nat.le_of_ble_eq_true rfl)
  rw [lg_entry_eq]
  generalize (lg_sl ([.ref (e_a E (0)), .int (v)]) ++ List.replicate (2 - (lg_sl ([.ref (e_a E (0)), .int (v)])).length) Slot.unset).toArray = ls at hl ⊢
  have hl : lv_has ls 2 [(0, .ref (e_a E (0))), (1, .int (v))] := hl
  refine lv_iload_n hx hb dX1_gauge_0 rfl (lv_at hl 1 rfl) ?_
  by_cases k1_0 : v = 0
  · skip
    refine lv_tableIn (off := 47) (tgt := 48) hx hb dX1_gauge_1 (by rw [k1_0]; decide) (by rw [k1_0]; decide) (by rw [k1_0]; rfl) (by decide) ?_
    refine lv_aload_n hx hb dX1_gauge_48 rfl (lv_at hl 0 rfl) ?_
    refine q_get (C := RX1) (T := TX1) (N := 10) (ci := 1) (v := .int (σ (0) 1)) hx hb hts hinX1 hown hK hP at_0 rfl 1 (by decide) hf122 rfl dX1_gauge_49 ?_
    refine W.widen (k := 1) (n := 6) (Nat.le_of_ble_eq_true rfl) (Nat.le_of_ble_eq_true rfl) ?_
    exact vx_ret (r_i hx hb hr hlocks hP hS dX1_gauge_52 ⟨okV_j (j := 0) (by decide) k1_0, by simp [gC, k1_0], rfl⟩)
  by_cases k1_1 : v = 1
  · skip
    refine lv_tableIn (off := 52) (tgt := 53) hx hb dX1_gauge_1 (by rw [k1_1]; decide) (by rw [k1_1]; decide) (by rw [k1_1]; rfl) (by decide) ?_
    refine lv_aload_n hx hb dX1_gauge_53 rfl (lv_at hl 0 rfl) ?_
    refine q_get (C := RX1) (T := TX1) (N := 10) (ci := 1) (v := .int (σ (0) 2)) hx hb hts hinX1 hown hK hP at_0 rfl 2 (by decide) hf125 rfl dX1_gauge_54 ?_
    refine W.widen (k := 1) (n := 6) (Nat.le_of_ble_eq_true rfl) (Nat.le_of_ble_eq_true rfl) ?_
    exact vx_ret (r_i hx hb hr hlocks hP hS dX1_gauge_57 ⟨okV_j (j := 1) (by decide) k1_1, by simp [gC, k1_1], rfl⟩)
  by_cases k1_2 : v = 2
  · skip
    refine lv_tableIn (off := 57) (tgt := 58) hx hb dX1_gauge_1 (by rw [k1_2]; decide) (by rw [k1_2]; decide) (by rw [k1_2]; rfl) (by decide) ?_
    refine lv_aload_n hx hb dX1_gauge_58 rfl (lv_at hl 0 rfl) ?_
    refine q_get (C := RX1) (T := TX1) (N := 10) (ci := 1) (v := .int (σ (0) 3)) hx hb hts hinX1 hown hK hP at_0 rfl 3 (by decide) hf128 rfl dX1_gauge_59 ?_
    refine W.widen (k := 1) (n := 6) (Nat.le_of_ble_eq_true rfl) (Nat.le_of_ble_eq_true rfl) ?_
    exact vx_ret (r_i hx hb hr hlocks hP hS dX1_gauge_62 ⟨okV_j (j := 2) (by decide) k1_2, by simp [gC, k1_2], rfl⟩)
  by_cases k1_3 : v = 3
  · skip
    refine lv_tableIn (off := 62) (tgt := 63) hx hb dX1_gauge_1 (by rw [k1_3]; decide) (by rw [k1_3]; decide) (by rw [k1_3]; rfl) (by decide) ?_
    refine lv_aload_n hx hb dX1_gauge_63 rfl (lv_at hl 0 rfl) ?_
    refine q_get (C := RX1) (T := TX1) (N := 10) (ci := 1) (v := .int (σ (0) 4)) hx hb hts hinX1 hown hK hP at_0 rfl 4 (by decide) hf131 rfl dX1_gauge_64 ?_
    refine W.widen (k := 1) (n := 6) (Nat.le_of_ble_eq_true rfl) (Nat.le_of_ble_eq_true rfl) ?_
    exact vx_ret (r_i hx hb hr hlocks hP hS dX1_gauge_67 ⟨okV_j (j := 3) (by decide) k1_3, by simp [gC, k1_3], rfl⟩)
  by_cases k1_4 : v = 4
  · skip
    refine lv_tableIn (off := 67) (tgt := 68) hx hb dX1_gauge_1 (by rw [k1_4]; decide) (by rw [k1_4]; decide) (by rw [k1_4]; rfl) (by decide) ?_
    refine lv_aload_n hx hb dX1_gauge_68 rfl (lv_at hl 0 rfl) ?_
    refine q_get (C := RX1) (T := TX1) (N := 10) (ci := 1) (v := .int (σ (0) 5)) hx hb hts hinX1 hown hK hP at_0 rfl 5 (by decide) hf134 rfl dX1_gauge_69 ?_
    refine W.widen (k := 1) (n := 6) (Nat.le_of_ble_eq_true rfl) (Nat.le_of_ble_eq_true rfl) ?_
    exact vx_ret (r_i hx hb hr hlocks hP hS dX1_gauge_72 ⟨okV_j (j := 4) (by decide) k1_4, by simp [gC, k1_4], rfl⟩)
  by_cases k1_5 : v = 5
  · skip
    refine lv_tableIn (off := 72) (tgt := 73) hx hb dX1_gauge_1 (by rw [k1_5]; decide) (by rw [k1_5]; decide) (by rw [k1_5]; rfl) (by decide) ?_
    refine lv_aload_n hx hb dX1_gauge_73 rfl (lv_at hl 0 rfl) ?_
    refine q_get (C := RX1) (T := TX1) (N := 10) (ci := 1) (v := .int (σ (0) 7)) hx hb hts hinX1 hown hK hP at_0 rfl 7 (by decide) hf137 rfl dX1_gauge_74 ?_
    refine W.widen (k := 1) (n := 6) (Nat.le_of_ble_eq_true rfl) (Nat.le_of_ble_eq_true rfl) ?_
    exact vx_ret (r_i hx hb hr hlocks hP hS dX1_gauge_77 ⟨okV_j (j := 5) (by decide) k1_5, by simp [gC, k1_5], rfl⟩)
  by_cases k1_6 : v = 6
  · skip
    refine lv_tableIn (off := 77) (tgt := 78) hx hb dX1_gauge_1 (by rw [k1_6]; decide) (by rw [k1_6]; decide) (by rw [k1_6]; rfl) (by decide) ?_
    refine lv_aload_n hx hb dX1_gauge_78 rfl (lv_at hl 0 rfl) ?_
    refine q_get (C := RX1) (T := TX1) (N := 10) (ci := 1) (v := .int (σ (0) 8)) hx hb hts hinX1 hown hK hP at_0 rfl 8 (by decide) hf140 rfl dX1_gauge_79 ?_
    refine W.widen (k := 1) (n := 6) (Nat.le_of_ble_eq_true rfl) (Nat.le_of_ble_eq_true rfl) ?_
    exact vx_ret (r_i hx hb hr hlocks hP hS dX1_gauge_82 ⟨okV_j (j := 6) (by decide) k1_6, by simp [gC, k1_6], rfl⟩)
  by_cases k1_7 : v = 7
  · skip
    refine lv_tableIn (off := 82) (tgt := 83) hx hb dX1_gauge_1 (by rw [k1_7]; decide) (by rw [k1_7]; decide) (by rw [k1_7]; rfl) (by decide) ?_
    refine lv_aload_n hx hb dX1_gauge_83 rfl (lv_at hl 0 rfl) ?_
    refine q_get (C := RX1) (T := TX1) (N := 10) (ci := 1) (v := .int (σ (0) 9)) hx hb hts hinX1 hown hK hP at_0 rfl 9 (by decide) hf143 rfl dX1_gauge_84 ?_
    refine W.widen (k := 1) (n := 6) (Nat.le_of_ble_eq_true rfl) (Nat.le_of_ble_eq_true rfl) ?_
    exact vx_ret (r_i hx hb hr hlocks hP hS dX1_gauge_87 ⟨okV_j (j := 7) (by decide) k1_7, by simp [gC, k1_7], rfl⟩)
  refine lv_tableOut (tgt := 88) hx hb dX1_gauge_1 (tb_out7 _ k1_0 k1_1 k1_2 k1_3 k1_4 k1_5 k1_6 k1_7) (by decide) ?_
  exact x_throw hx hb hl0 (ik := 20) (is := 87) (ic := 24) hown (by decide +kernel) (hts (.classLink RX1 20 "java/lang/IllegalArgumentException") (by decide +kernel)) (hts (.initialized "java/lang/IllegalArgumentException") (by decide +kernel)) hK.s87 (vx_hat (B := [.castable "java/lang/IllegalArgumentException" "java/lang/IllegalArgumentException", .declares (Bundle.initS "java/lang/RuntimeException"), .declares (Bundle.initS "java/lang/Exception"), .declares (Bundle.initS "java/lang/Throwable")]) (fun w h => hts w (wxX1_gauge_24 w h)) (by decide +kernel) (vx_c (hK.c (by decide)) (vx_c (hK.d (by decide)) (vx_c (hK.d (by decide)) (vx_c (hK.d (by decide)) vx_n))))) (by decide +kernel) hK hP hS hl.1 hml dX1_gauge_88 dX1_gauge_91 dX1_gauge_92 dX1_gauge_94 dX1_gauge_97 hno (Nat.le_of_ble_eq_true rfl) (Nat.le_of_ble_eq_true rfl) (Nat.le_of_ble_eq_true rfl) (Nat.le_of_ble_eq_true rfl) hlocks ⟨rfl, okV_no k1_0 k1_1 k1_2 k1_3 k1_4 k1_5 k1_6 k1_7⟩ (Nat.le_of_ble_eq_true rfl) (Nat.le_of_ble_eq_true rfl)
theorem wxX1_pour_24 : ∀ w ∈ (vx_atS RX1 24 "java/lang/IllegalArgumentException" ["java/lang/RuntimeException", "java/lang/Exception"]).filter goodWord, w ∈ wsX1_pour := fun w h => by
  simp only [wsX1_pour, List.mem_cons, List.mem_append, h, or_true, true_or]
set_option maxHeartbeats 4000000 in
set_option maxRecDepth 100000 in
/-- pour -/
theorem mtX1_pour (l : Launch) (hl0 : l.stackTraces = false) (E : Ev) (hok : e_ok E) (σ : Mem) (o : Nat → Int64) (x y : Int32) (N : Nat → Nat) (hN : okN σ N) : vx_Met l yX1_pour wsX1_pour ({ frames := 7, cells := 3, slots := 18, locals := 111 } : Room) (PW E σ o [.ref (e_a E (0)), .int (x), .int (y)]) (va_Qi (fun (r : Int32) (σ' : Mem) => ∃ a : Nat, a < 8 ∧ x = nI a ∧ ∃ b : Nat, b < 8 ∧ y = nI b ∧ a ≠ b ∧ ∃ (N' : Nat → Nat) (p' : Nat), p' ≤ N a ∧ r = nI (N a - p') ∧ okN σ' N' ∧ psteps a b (N a) σ N 0 σ' N' p') (BW E o) (LB (e_B E))) (XW E σ o (fun u => (u = xIO ∧ ¬ (isCh x ∧ isCh y)) ∨ (u = xIA ∧ isCh x ∧ isCh y ∧ x = y))) 3 18 (LB (e_B E)) := by
  refine vx_ofW (cc := cX1_pour) (maxL := 8) (ret := (some .int)) (by decide) rfl ?_
  intro p e s m args below meth c s₁ B hml hno hv
  obtain ⟨rfl, hP, hK⟩ := hv
  have hx := B.exec
  have hb := B.bytes
  have hr := B.returns
  have hts := atoms_spec (ws := wsX1_pour) B.pre
  have hown : s.vm.findClass RX1 = some m.cls := findClass_of_methodNamed B.named
  have hlocks := B.notSynchronized
  have hS : va_S (LB (e_B E)) s.heap s.heap [] := va_S.rf
  have hinX0 : ∀ w ∈ wsX00, w ∈ wsX1_pour := fun w h => by simp only [wsX1_pour, List.mem_cons, List.mem_append, h, or_true, true_or]
  have hf27 := hts (.fieldLink RX1 27 "ParcelChutes$Chute" "count" "I") (by decide +kernel)
  have hf89 := hts (.fieldLink RX1 89 "ParcelChutes$Chute" "weights" "[I") (by decide +kernel)
  have hf97 := hts (.fieldLink RX1 97 "ParcelChutes$Chute" "girths" "[I") (by decide +kernel)
  have hl := lv_entry ([.ref (e_a E (0)), .int (x), .int (y)]) (n := 8) (Nat.le_of_ble_eq_true rfl)
  rw [lg_entry_eq]
  generalize (lg_sl ([.ref (e_a E (0)), .int (x), .int (y)]) ++ List.replicate (8 - (lg_sl ([.ref (e_a E (0)), .int (x), .int (y)])).length) Slot.unset).toArray = ls at hl ⊢
  have hl : lv_has ls 8 [(0, .ref (e_a E (0))), (1, .int (x)), (2, .int (y))] := hl
  refine lv_aload_n hx hb dX1_pour_0 rfl (lv_at hl 0 rfl) ?_
  refine lv_iload_n hx hb dX1_pour_1 rfl (lv_at hl 1 rfl) ?_
  refine x_Vc (As := [.int (x)]) (rest := []) ⟨hx, hb, hml, hown, hts⟩ (mtX1_chuteAt l hl0 E hok σ o x) (cwV 1 hts gX1_pour_X1_chuteAt rfl rfl rfl (by decide +kernel) ⟨Nat.le_of_ble_eq_true rfl, Nat.le_of_ble_eq_true rfl⟩) (va_recv hK.K hP (ci := 1) (q0 := 0) rfl at_0) hno hlocks hK hP hS rfl hl.1 rfl (Nat.le_of_ble_eq_true rfl) dX1_pour_2 ⟨Nat.le_of_ble_eq_true rfl, Nat.le_of_ble_eq_true rfl⟩ (fun u h => Or.inl ⟨h.1, fun z => h.2 z.1⟩) ⟨Nat.le_of_ble_eq_true rfl, Nat.le_of_ble_eq_true rfl⟩ (fun k1 H locs hk1 hP hS => ?_)
  obtain ⟨hk1k, hk1e⟩ := hk1
  have h12k1 := (hN k1 hk1k).2
  refine lv_astore_n (lv' := [(3, .ref (e_a E (k1 + 2))), (0, .ref (e_a E (0))), (1, .int (x)), (2, .int (y))]) hx hb dX1_pour_5 rfl hl (by decide) rfl (fun ls hl => ?_)
  refine lv_aload_n hx hb dX1_pour_6 rfl (lv_at hl 1 rfl) ?_
  refine lv_iload_n hx hb dX1_pour_7 rfl (lv_at hl 3 rfl) ?_
  refine x_Vc (As := [.int (y)]) (rest := []) ⟨hx, hb, hml, hown, hts⟩ (mtX1_chuteAt l hl0 E hok σ o y) (cwV 1 hts gX1_pour_X1_chuteAt rfl rfl rfl (by decide +kernel) ⟨Nat.le_of_ble_eq_true rfl, Nat.le_of_ble_eq_true rfl⟩) (va_recv hK.K hP (ci := 1) (q0 := 0) rfl at_0) hno hlocks hK hP hS rfl hl.1 rfl (Nat.le_of_ble_eq_true rfl) dX1_pour_8 ⟨Nat.le_of_ble_eq_true rfl, Nat.le_of_ble_eq_true rfl⟩ (fun u h => Or.inl ⟨h.1, fun z => h.2 z.2⟩) ⟨Nat.le_of_ble_eq_true rfl, Nat.le_of_ble_eq_true rfl⟩ (fun k2 H locs hk2 hP hS => ?_)
  obtain ⟨hk2k, hk2e⟩ := hk2
  have h12k2 := (hN k2 hk2k).2
  refine lv_astore (lv' := [(4, .ref (e_a E (k2 + 2))), (3, .ref (e_a E (k1 + 2))), (0, .ref (e_a E (0))), (1, .int (x)), (2, .int (y))]) hx hb dX1_pour_11 hl (by decide) rfl (fun ls hl => ?_)
  refine lv_iload_n hx hb dX1_pour_13 rfl (lv_at hl 3 rfl) ?_
  refine lv_iload_n hx hb dX1_pour_14 rfl (lv_at hl 4 rfl) ?_
  refine lv_icmp_ne (tgt := 28) hx hb dX1_pour_15 (by decide) (fun c15 => ?_) (fun c15 => ?_)
  · skip
    refine lv_aload_n hx hb dX1_pour_28 rfl (lv_at hl 1 rfl) ?_
    refine q_get (C := RX0) (T := TX0) (N := 8) (ci := 0) (v := .int (σ (k1 + 2) 2)) hx hb hts hinX0 hown hK hP (at_ch hk1k) rfl 2 (by decide) hf27 rfl dX1_pour_29 ?_
    have hab : k1 ≠ k2 := fun z => c15 (by rw [hk1e, hk2e, z])
    rw [(hN k1 hk1k).1]
    refine lv_istore (lv' := [(5, .int (nI (N k1))), (4, .ref (e_a E (k2 + 2))), (3, .ref (e_a E (k1 + 2))), (0, .ref (e_a E (0))), (1, .int (x)), (2, .int (y))]) hx hb dX1_pour_32 hl (by decide) rfl (fun ls hl => ?_)
    refine lv_iconst (v := 0) hx hb dX1_pour_34 (by decide) ?_
    refine lv_istore (lv' := [(6, .int (0)), (5, .int (nI (N k1))), (4, .ref (e_a E (k2 + 2))), (3, .ref (e_a E (k1 + 2))), (0, .ref (e_a E (0))), (1, .int (x)), (2, .int (y))]) hx hb dX1_pour_35 hl (by decide) rfl (fun ls hl => ?_)
    refine lv_iconst (v := 0) hx hb dX1_pour_37 (by decide) ?_
    refine lv_istore (lv' := [(7, .int (0)), (6, .int (0)), (5, .int (nI (N k1))), (4, .ref (e_a E (k2 + 2))), (3, .ref (e_a E (k1 + 2))), (0, .ref (e_a E (0))), (1, .int (x)), (2, .int (y))]) hx hb dX1_pour_38 hl (by decide) rfl (fun ls hl => ?_)
    refine w_loop (E := E) (o := o) (ι := Nat × Nat × Mem × (Nat → Nat)) (μ := fun (i, p1, σ1, N1) => 12 - i) (I := fun (i, p1, σ1, N1) => i ≤ N k1 ∧ p1 ≤ i ∧ okN σ1 N1 ∧ N1 k1 = N k1 - (i - p1) ∧ psteps k1 k2 i σ N 0 σ1 N1 p1) (mem := fun (i, p1, σ1, N1) => σ1) (lv := fun (i, p1, σ1, N1) => [(7, .int (nI (i))), (6, .int (nI (p1))), (5, .int (nI (N k1))), (4, .ref (e_a E (k2 + 2))), (3, .ref (e_a E (k1 + 2))), (0, .ref (e_a E (0))), (1, .int (x)), (2, .int (y))]) (nL := 8) (pch := 40) ?_ ((0), (0), (σ), (N)) (show (0) ≤ N k1 ∧ (0) ≤ (0) ∧ okN (σ) (N) ∧ (N) k1 = N k1 - ((0) - (0)) ∧ psteps k1 k2 (0) σ N 0 (σ) (N) (0) from ⟨Nat.zero_le _, Nat.le_refl _, hN, by omega, rfl, rfl, rfl⟩) hP hS (lv_sub hl [0, 1, 2, 3, 4, 5, 6, 7] rfl)
    rintro ⟨i, p1, σ1, N1⟩ hI IH H locs ls hP hS hl
    have hP : va_P (e_D E) vwCl (wd E σ1 o) H := hP
    have hl : lv_has ls 8 [(7, .int (nI (i))), (6, .int (nI (p1))), (5, .int (nI (N k1))), (4, .ref (e_a E (k2 + 2))), (3, .ref (e_a E (k1 + 2))), (0, .ref (e_a E (0))), (1, .int (x)), (2, .int (y))] := hl
    have hI : i ≤ N k1 ∧ p1 ≤ i ∧ okN σ1 N1 ∧ N1 k1 = N k1 - (i - p1) ∧ psteps k1 k2 i σ N 0 σ1 N1 p1 := hI
    have h1a := (hI.2.2.1 k1 hk1k).2
    refine lv_iload hx hb dX1_pour_40 (lv_at hl 0 rfl) ?_
    refine lv_iload hx hb dX1_pour_42 (lv_at hl 2 rfl) ?_
    refine nb_ge (i := i) (j := N k1) hx hb rfl rfl (by omega) (by omega) dX1_pour_44 (tgt := 87) (by decide) (fun c44 => ?_) (fun c44 => ?_)
    · skip
      refine lv_iload hx hb dX1_pour_87 (lv_at hl 2 rfl) ?_
      refine lv_iload hx hb dX1_pour_89 (lv_at hl 1 rfl) ?_
      refine lv_isub hx hb dX1_pour_91 ?_
      refine W.widen (k := 3) (n := 18) (Nat.le_of_ble_eq_true rfl) (Nat.le_of_ble_eq_true rfl) ?_
      exact vx_ret (r_i hx hb hr hlocks hP hS dX1_pour_92 (by
      have hi : i = N k1 := by omega
      subst hi
      exact ⟨k1, hk1k, hk1e, k2, hk2k, hk2e, hab, N1, p1, hI.2.1, pk_sub hI.2.1, hI.2.2.1, hI.2.2.2.2⟩))
    · skip
      refine lv_aload hx hb dX1_pour_47 (lv_at hl 3 rfl) ?_
      refine lv_aload_n hx hb dX1_pour_49 rfl (lv_at hl 4 rfl) ?_
      refine q_get (C := RX0) (T := TX0) (N := 8) (ci := 0) (v := .ref (e_a E (k1 + 10))) hx hb hts hinX0 hown hK hP (at_ch hk1k) rfl 0 (by decide) hf89 rfl dX1_pour_50 ?_
      refine lv_iload hx hb dX1_pour_53 (lv_at hl 1 rfl) ?_
      refine q_ld hx hb hK hP (at_wt hk1k) (i := p1) rfl (by omega) (by decide) dX1_pour_55 ?_
      refine lv_aload_n hx hb dX1_pour_56 rfl (lv_at hl 4 rfl) ?_
      refine q_get (C := RX0) (T := TX0) (N := 8) (ci := 0) (v := .ref (e_a E (k1 + 18))) hx hb hts hinX0 hown hK hP (at_ch hk1k) rfl 1 (by decide) hf97 rfl dX1_pour_57 ?_
      refine lv_iload hx hb dX1_pour_60 (lv_at hl 1 rfl) ?_
      refine q_ld hx hb hK hP (at_gi hk1k) (i := p1) rfl (by omega) (by decide) dX1_pour_62 ?_
      refine k_Vi (As := [.int (σ1 (k1 + 10) (p1)), .int (σ1 (k1 + 18) (p1))]) (rest := []) ⟨hx, hb, hml, hown, hts⟩ (mtX0_letIn l E hok σ1 o k2 hk2k (N1 k2) (hI.2.2.1 k2 hk2k).1 (hI.2.2.1 k2 hk2k).2 (σ1 (k1 + 10) (p1)) (σ1 (k1 + 18) (p1))) (cwV 2 hts gX1_pour_X0_letIn rfl rfl rfl (by decide +kernel) ⟨Nat.le_of_ble_eq_true rfl, Nat.le_of_ble_eq_true rfl⟩) (va_recv hK.K hP (ci := 0) (q0 := k2 + 2) rfl (at_ch hk2k)) hK hP hS rfl hl.1 rfl (Nat.le_of_ble_eq_true rfl) dX1_pour_63 ⟨Nat.le_of_ble_eq_true rfl, Nat.le_of_ble_eq_true rfl⟩ (fun r3 σ_4 H locs hr3 hP hS => ?_)
      rcases hr3 with ⟨rfl, ehr3, hnohr3⟩ | ⟨rfl, hlthr3, hfthr3, qhr3, hqhr3, ehr3⟩
      · skip
        rw [ehr3] at hP
        refine lv_if_eq (tgt := 78) hx hb dX1_pour_66 (by decide) (fun c66 => ?_) (fun c66 => ?_)
        rotate_left
        · exact absurd c66 (fun h => h rfl)
        refine lv_iinc (v := nI (p1 + 1)) (lv' := [(6, .int (nI (p1 + 1))), (7, .int (nI (i))), (5, .int (nI (N k1))), (4, .ref (e_a E (k2 + 2))), (3, .ref (e_a E (k1 + 2))), (0, .ref (e_a E (0))), (1, .int (x)), (2, .int (y))]) hx hb dX1_pour_78 hl (k := 1) rfl (by exact nI_add (p1) 1) (by decide) rfl (fun ls hl => ?_)
        refine lv_iinc (v := nI (i + 1)) (lv' := [(7, .int (nI (i + 1))), (6, .int (nI (p1 + 1))), (5, .int (nI (N k1))), (4, .ref (e_a E (k2 + 2))), (3, .ref (e_a E (k1 + 2))), (0, .ref (e_a E (0))), (1, .int (x)), (2, .int (y))]) hx hb dX1_pour_81 hl (k := 1) rfl (by exact nI_add (i) 1) (by decide) rfl (fun ls hl => ?_)
        refine lv_goto (tgt := 40) hx hb dX1_pour_84 (by decide) ?_
        exact IH ((i + 1), (p1 + 1), (σ1), (N1)) (show (i + 1) ≤ N k1 ∧ (p1 + 1) ≤ (i + 1) ∧ okN (σ1) (N1) ∧ (N1) k1 = N k1 - ((i + 1) - (p1 + 1)) ∧ psteps k1 k2 (i + 1) σ N 0 (σ1) (N1) (p1 + 1) from ⟨by omega, by omega, hI.2.2.1, by omega, σ1, N1, p1, hI.2.2.2.2, Or.inl ⟨hnohr3, rfl, rfl, rfl⟩⟩) (by (try dsimp only); omega) _ _ _ hP hS (lv_sub hl [0, 1, 2, 3, 4, 5, 6, 7] rfl)
      · skip
        rw [ehr3] at hP
        refine lv_if_eq (tgt := 78) hx hb dX1_pour_66 (by decide) (fun c66 => ?_) (fun c66 => ?_)
        · exact absurd c66 (by decide)
        have hra := okN_ins (q := qhr3) (w := σ1 (k1 + 10) p1) (g := σ1 (k1 + 18) p1) hI.2.2.1 hk2k hlthr3 k1 hk1k
        rw [show addN N1 k2 k1 = N1 k1 by simp [addN, hab]] at hra
        refine lv_aload_n hx hb dX1_pour_69 rfl (lv_at hl 4 rfl) ?_
        refine lv_iload hx hb dX1_pour_70 (lv_at hl 1 rfl) ?_
        refine k_Vv (As := [.int (nI (p1))]) (rest := []) ⟨hx, hb, hml, hown, hts⟩ (mtX0_removeAt l E hok (m_ins σ1 k2 qhr3 (N1 k2) (σ1 (k1 + 10) (p1)) (σ1 (k1 + 18) (p1))) o k1 hk1k (N1 k1) p1 hra.1 hra.2 (by omega)) (cwV 1 hts gX1_pour_X0_removeAt rfl rfl rfl (by decide +kernel) ⟨Nat.le_of_ble_eq_true rfl, Nat.le_of_ble_eq_true rfl⟩) (va_recv hK.K hP (ci := 0) (q0 := k1 + 2) rfl (at_ch hk1k)) hK hP hS rfl hl.1 rfl (Nat.le_of_ble_eq_true rfl) dX1_pour_72 ⟨Nat.le_of_ble_eq_true rfl, Nat.le_of_ble_eq_true rfl⟩ (fun σ_5 H locs hσ_5 hP hS => ?_)
        subst hσ_5
        refine lv_goto (tgt := 81) hx hb dX1_pour_75 (by decide) ?_
        refine lv_iinc (v := nI (i + 1)) (lv' := [(7, .int (nI (i + 1))), (6, .int (nI (p1))), (5, .int (nI (N k1))), (4, .ref (e_a E (k2 + 2))), (3, .ref (e_a E (k1 + 2))), (0, .ref (e_a E (0))), (1, .int (x)), (2, .int (y))]) hx hb dX1_pour_81 hl (k := 0) rfl (by exact nI_add (i) 1) (by decide) rfl (fun ls hl => ?_)
        refine lv_goto (tgt := 40) hx hb dX1_pour_84 (by decide) ?_
        exact IH ((i + 1), (p1), (m_rem (m_ins σ1 k2 qhr3 (N1 k2) (σ1 (k1 + 10) p1) (σ1 (k1 + 18) p1)) k1 p1 (N1 k1)), (subN (addN N1 k2) k1)) (show (i + 1) ≤ N k1 ∧ (p1) ≤ (i + 1) ∧ okN (m_rem (m_ins σ1 k2 qhr3 (N1 k2) (σ1 (k1 + 10) p1) (σ1 (k1 + 18) p1)) k1 p1 (N1 k1)) (subN (addN N1 k2) k1) ∧ (subN (addN N1 k2) k1) k1 = N k1 - ((i + 1) - (p1)) ∧ psteps k1 k2 (i + 1) σ N 0 (m_rem (m_ins σ1 k2 qhr3 (N1 k2) (σ1 (k1 + 10) p1) (σ1 (k1 + 18) p1)) k1 p1 (N1 k1)) (subN (addN N1 k2) k1) (p1) from ⟨by omega, by omega, by have hz := okN_rem (q := p1) (okN_ins (q := qhr3) (w := σ1 (k1 + 10) p1) (g := σ1 (k1 + 18) p1) hI.2.2.1 hk2k hlthr3) hk1k; rw [show addN N1 k2 k1 = N1 k1 by simp [addN, hab]] at hz; exact hz, by simp [subN, addN, hab]; omega, σ1, N1, p1, hI.2.2.2.2, Or.inr ⟨hlthr3, hfthr3, qhr3, hqhr3, rfl, rfl, rfl⟩⟩) (by (try dsimp only); omega) _ _ _ hP hS (lv_sub hl [0, 1, 2, 3, 4, 5, 6, 7] rfl)
  · skip
    exact x_throw hx hb hl0 (ik := 20) (is := 111) (ic := 24) hown (by decide +kernel) (hts (.classLink RX1 20 "java/lang/IllegalArgumentException") (by decide +kernel)) (hts (.initialized "java/lang/IllegalArgumentException") (by decide +kernel)) hK.s111 (vx_hat (B := [.castable "java/lang/IllegalArgumentException" "java/lang/IllegalArgumentException", .declares (Bundle.initS "java/lang/RuntimeException"), .declares (Bundle.initS "java/lang/Exception"), .declares (Bundle.initS "java/lang/Throwable")]) (fun w h => hts w (wxX1_pour_24 w h)) (by decide +kernel) (vx_c (hK.c (by decide)) (vx_c (hK.d (by decide)) (vx_c (hK.d (by decide)) (vx_c (hK.d (by decide)) vx_n))))) (by decide +kernel) hK hP hS hl.1 hml dX1_pour_18 dX1_pour_21 dX1_pour_22 dX1_pour_24 dX1_pour_27 hno (Nat.le_of_ble_eq_true rfl) (Nat.le_of_ble_eq_true rfl) (Nat.le_of_ble_eq_true rfl) (Nat.le_of_ble_eq_true rfl) hlocks (Or.inr ⟨rfl, ⟨k1, hk1k, hk1e⟩, ⟨k2, hk2k, hk2e⟩, c15⟩) (Nat.le_of_ble_eq_true rfl) (Nat.le_of_ble_eq_true rfl)
set_option maxHeartbeats 4000000 in
set_option maxRecDepth 100000 in
/-- sweep -/
theorem mtX1_sweep (l : Launch) (hl0 : l.stackTraces = false) (E : Ev) (hok : e_ok E) (σ : Mem) (o : Nat → Int64) (x : Int32) (N : Nat → Nat) (hN : okN σ N) : vx_Met l yX1_sweep wsX1_sweep ({ frames := 7, cells := 1, slots := 6, locals := 111 } : Room) (PW E σ o [.ref (e_a E (0)), .int (x)]) (va_Qi (fun (r : Int32) (σ' : Mem) => ∃ a : Nat, a < 8 ∧ x = nI a ∧ ∃ (N' : Nat → Nat) (p' : Nat), p' ≤ N a ∧ r = nI (N a - p') ∧ okN σ' N' ∧ ssteps a (N a) σ N 0 σ' N' p') (BW E o) (LB (e_B E))) (XW E σ o (fun u => u = xIO ∧ ¬ isCh x)) 1 6 (LB (e_B E)) := by
  refine vx_ofW (cc := cX1_sweep) (maxL := 6) (ret := (some .int)) (by decide) rfl ?_
  intro p e s m args below meth c s₁ B hml hno hv
  obtain ⟨rfl, hP, hK⟩ := hv
  have hx := B.exec
  have hb := B.bytes
  have hr := B.returns
  have hts := atoms_spec (ws := wsX1_sweep) B.pre
  have hown : s.vm.findClass RX1 = some m.cls := findClass_of_methodNamed B.named
  have hlocks := B.notSynchronized
  have hS : va_S (LB (e_B E)) s.heap s.heap [] := va_S.rf
  have hinX0 : ∀ w ∈ wsX00, w ∈ wsX1_sweep := fun w h => by simp only [wsX1_sweep, List.mem_cons, List.mem_append, h, or_true, true_or]
  have hf27 := hts (.fieldLink RX1 27 "ParcelChutes$Chute" "count" "I") (by decide +kernel)
  have hf89 := hts (.fieldLink RX1 89 "ParcelChutes$Chute" "weights" "[I") (by decide +kernel)
  have hf97 := hts (.fieldLink RX1 97 "ParcelChutes$Chute" "girths" "[I") (by decide +kernel)
  have hl := lv_entry ([.ref (e_a E (0)), .int (x)]) (n := 6) (Nat.le_of_ble_eq_true rfl)
  rw [lg_entry_eq]
  generalize (lg_sl ([.ref (e_a E (0)), .int (x)]) ++ List.replicate (6 - (lg_sl ([.ref (e_a E (0)), .int (x)])).length) Slot.unset).toArray = ls at hl ⊢
  have hl : lv_has ls 6 [(0, .ref (e_a E (0))), (1, .int (x))] := hl
  refine lv_aload_n hx hb dX1_sweep_0 rfl (lv_at hl 0 rfl) ?_
  refine lv_iload_n hx hb dX1_sweep_1 rfl (lv_at hl 1 rfl) ?_
  refine x_Vc (As := [.int (x)]) (rest := []) ⟨hx, hb, hml, hown, hts⟩ (mtX1_chuteAt l hl0 E hok σ o x) (cwV 1 hts gX1_sweep_X1_chuteAt rfl rfl rfl (by decide +kernel) ⟨Nat.le_of_ble_eq_true rfl, Nat.le_of_ble_eq_true rfl⟩) (va_recv hK.K hP (ci := 1) (q0 := 0) rfl at_0) hno hlocks hK hP hS rfl hl.1 rfl (Nat.le_of_ble_eq_true rfl) dX1_sweep_2 ⟨Nat.le_of_ble_eq_true rfl, Nat.le_of_ble_eq_true rfl⟩ (fun u h => h) ⟨Nat.le_of_ble_eq_true rfl, Nat.le_of_ble_eq_true rfl⟩ (fun k1 H locs hk1 hP hS => ?_)
  obtain ⟨hk1k, hk1e⟩ := hk1
  have h12k1 := (hN k1 hk1k).2
  refine lv_astore_n (lv' := [(2, .ref (e_a E (k1 + 2))), (0, .ref (e_a E (0))), (1, .int (x))]) hx hb dX1_sweep_5 rfl hl (by decide) rfl (fun ls hl => ?_)
  refine lv_aload_n hx hb dX1_sweep_6 rfl (lv_at hl 0 rfl) ?_
  refine q_get (C := RX0) (T := TX0) (N := 8) (ci := 0) (v := .int (σ (k1 + 2) 2)) hx hb hts hinX0 hown hK hP (at_ch hk1k) rfl 2 (by decide) hf27 rfl dX1_sweep_7 ?_
  rw [(hN k1 hk1k).1]
  refine lv_istore_n (lv' := [(3, .int (nI (N k1))), (2, .ref (e_a E (k1 + 2))), (0, .ref (e_a E (0))), (1, .int (x))]) hx hb dX1_sweep_10 rfl hl (by decide) rfl (fun ls hl => ?_)
  refine lv_iconst (v := 0) hx hb dX1_sweep_11 (by decide) ?_
  refine lv_istore (lv' := [(4, .int (0)), (3, .int (nI (N k1))), (2, .ref (e_a E (k1 + 2))), (0, .ref (e_a E (0))), (1, .int (x))]) hx hb dX1_sweep_12 hl (by decide) rfl (fun ls hl => ?_)
  refine lv_iconst (v := 0) hx hb dX1_sweep_14 (by decide) ?_
  refine lv_istore (lv' := [(5, .int (0)), (4, .int (0)), (3, .int (nI (N k1))), (2, .ref (e_a E (k1 + 2))), (0, .ref (e_a E (0))), (1, .int (x))]) hx hb dX1_sweep_15 hl (by decide) rfl (fun ls hl => ?_)
  refine w_loop (E := E) (o := o) (ι := Nat × Nat × Mem × (Nat → Nat)) (μ := fun (i, p1, σ1, N1) => 12 - i) (I := fun (i, p1, σ1, N1) => i ≤ N k1 ∧ p1 ≤ i ∧ okN σ1 N1 ∧ N1 k1 = N k1 - (i - p1) ∧ ssteps k1 i σ N 0 σ1 N1 p1) (mem := fun (i, p1, σ1, N1) => σ1) (lv := fun (i, p1, σ1, N1) => [(5, .int (nI (i))), (4, .int (nI (p1))), (3, .int (nI (N k1))), (2, .ref (e_a E (k1 + 2))), (0, .ref (e_a E (0))), (1, .int (x))]) (nL := 6) (pch := 17) ?_ ((0), (0), (σ), (N)) (show (0) ≤ N k1 ∧ (0) ≤ (0) ∧ okN (σ) (N) ∧ (N) k1 = N k1 - ((0) - (0)) ∧ ssteps k1 (0) σ N 0 (σ) (N) (0) from ⟨Nat.zero_le _, Nat.le_refl _, hN, by omega, rfl, rfl, rfl⟩) hP hS (lv_sub hl [0, 1, 2, 3, 4, 5] rfl)
  rintro ⟨i, p1, σ1, N1⟩ hI IH H locs ls hP hS hl
  have hP : va_P (e_D E) vwCl (wd E σ1 o) H := hP
  have hl : lv_has ls 6 [(5, .int (nI (i))), (4, .int (nI (p1))), (3, .int (nI (N k1))), (2, .ref (e_a E (k1 + 2))), (0, .ref (e_a E (0))), (1, .int (x))] := hl
  have hI : i ≤ N k1 ∧ p1 ≤ i ∧ okN σ1 N1 ∧ N1 k1 = N k1 - (i - p1) ∧ ssteps k1 i σ N 0 σ1 N1 p1 := hI
  have h1a := (hI.2.2.1 k1 hk1k).2
  refine lv_iload hx hb dX1_sweep_17 (lv_at hl 0 rfl) ?_
  refine lv_iload_n hx hb dX1_sweep_19 rfl (lv_at hl 2 rfl) ?_
  refine nb_ge (i := i) (j := N k1) hx hb rfl rfl (by omega) (by omega) dX1_sweep_20 (tgt := 80) (by decide) (fun c20 => ?_) (fun c20 => ?_)
  · skip
    refine lv_iload_n hx hb dX1_sweep_80 rfl (lv_at hl 2 rfl) ?_
    refine lv_iload hx hb dX1_sweep_81 (lv_at hl 1 rfl) ?_
    refine lv_isub hx hb dX1_sweep_83 ?_
    refine W.widen (k := 1) (n := 6) (Nat.le_of_ble_eq_true rfl) (Nat.le_of_ble_eq_true rfl) ?_
    exact vx_ret (r_i hx hb hr hlocks hP hS dX1_sweep_84 (by
      have hi : i = N k1 := by omega
      subst hi
      exact ⟨k1, hk1k, hk1e, N1, p1, hI.2.1, pk_sub hI.2.1, hI.2.2.1, hI.2.2.2.2⟩))
  · skip
    refine lv_aload_n hx hb dX1_sweep_23 rfl (lv_at hl 3 rfl) ?_
    refine lv_aload_n hx hb dX1_sweep_24 rfl (lv_at hl 3 rfl) ?_
    refine q_get (C := RX0) (T := TX0) (N := 8) (ci := 0) (v := .ref (e_a E (k1 + 10))) hx hb hts hinX0 hown hK hP (at_ch hk1k) rfl 0 (by decide) hf89 rfl dX1_sweep_25 ?_
    refine lv_iload hx hb dX1_sweep_28 (lv_at hl 1 rfl) ?_
    refine q_ld hx hb hK hP (at_wt hk1k) (i := p1) rfl (by omega) (by decide) dX1_sweep_30 ?_
    refine lv_aload_n hx hb dX1_sweep_31 rfl (lv_at hl 3 rfl) ?_
    refine q_get (C := RX0) (T := TX0) (N := 8) (ci := 0) (v := .ref (e_a E (k1 + 18))) hx hb hts hinX0 hown hK hP (at_ch hk1k) rfl 1 (by decide) hf97 rfl dX1_sweep_32 ?_
    refine lv_iload hx hb dX1_sweep_35 (lv_at hl 1 rfl) ?_
    refine q_ld hx hb hK hP (at_gi hk1k) (i := p1) rfl (by omega) (by decide) dX1_sweep_37 ?_
    refine k_Vi (As := [.int (σ1 (k1 + 10) (p1)), .int (σ1 (k1 + 18) (p1))]) (rest := []) ⟨hx, hb, hml, hown, hts⟩ (mtX0_suits l E hok σ1 o k1 hk1k (σ1 (k1 + 10) (p1)) (σ1 (k1 + 18) (p1))) (cwV 2 hts gX1_sweep_X0_suits rfl rfl rfl (by decide +kernel) ⟨Nat.le_of_ble_eq_true rfl, Nat.le_of_ble_eq_true rfl⟩) (va_recv hK.K hP (ci := 0) (q0 := k1 + 2) rfl (at_ch hk1k)) hK hP hS rfl hl.1 rfl (Nat.le_of_ble_eq_true rfl) dX1_sweep_38 ⟨Nat.le_of_ble_eq_true rfl, Nat.le_of_ble_eq_true rfl⟩ (fun r2 σ_3 H locs hr2 hP hS => ?_)
    obtain ⟨rfl, ehr2⟩ := hr2
    rw [ehr2] at hP
    refine lv_if_eq (tgt := 50) hx hb dX1_sweep_41 (by decide) (fun c41 => ?_) (fun c41 => ?_)
    · skip
      refine lv_aload_n hx hb dX1_sweep_50 rfl (lv_at hl 4 rfl) ?_
      refine lv_aload_n hx hb dX1_sweep_51 rfl (lv_at hl 3 rfl) ?_
      refine q_get (C := RX0) (T := TX0) (N := 8) (ci := 0) (v := .ref (e_a E (k1 + 10))) hx hb hts hinX0 hown hK hP (at_ch hk1k) rfl 0 (by decide) hf89 rfl dX1_sweep_52 ?_
      refine lv_iload hx hb dX1_sweep_55 (lv_at hl 1 rfl) ?_
      refine q_ld hx hb hK hP (at_wt hk1k) (i := p1) rfl (by omega) (by decide) dX1_sweep_57 ?_
      refine lv_aload_n hx hb dX1_sweep_58 rfl (lv_at hl 3 rfl) ?_
      refine q_get (C := RX0) (T := TX0) (N := 8) (ci := 0) (v := .ref (e_a E (k1 + 18))) hx hb hts hinX0 hown hK hP (at_ch hk1k) rfl 1 (by decide) hf97 rfl dX1_sweep_59 ?_
      refine lv_iload hx hb dX1_sweep_62 (lv_at hl 1 rfl) ?_
      refine q_ld hx hb hK hP (at_gi hk1k) (i := p1) rfl (by omega) (by decide) dX1_sweep_64 ?_
      refine k_Vv (As := [.int (σ1 (k1 + 10) (p1)), .int (σ1 (k1 + 18) (p1))]) (rest := []) ⟨hx, hb, hml, hown, hts⟩ (mtX1_putAside l E hok σ1 o (σ1 (k1 + 10) (p1)) (σ1 (k1 + 18) (p1))) (cwV 2 hts gX1_sweep_X1_putAside rfl rfl rfl (by decide +kernel) ⟨Nat.le_of_ble_eq_true rfl, Nat.le_of_ble_eq_true rfl⟩) (va_recv hK.K hP (ci := 1) (q0 := 0) rfl at_0) hK hP hS rfl hl.1 rfl (Nat.le_of_ble_eq_true rfl) dX1_sweep_65 ⟨Nat.le_of_ble_eq_true rfl, Nat.le_of_ble_eq_true rfl⟩ (fun σ_4 H locs hσ_4 hP hS => ?_)
      subst hσ_4
      refine lv_aload_n hx hb dX1_sweep_68 rfl (lv_at hl 3 rfl) ?_
      refine lv_iload hx hb dX1_sweep_69 (lv_at hl 1 rfl) ?_
      refine k_Vv (As := [.int (nI (p1))]) (rest := []) ⟨hx, hb, hml, hown, hts⟩ (mtX0_removeAt l E hok (asC σ1 (σ1 (k1 + 10) (p1)) (σ1 (k1 + 18) (p1))) o k1 hk1k (N1 k1) p1 (okN_asC hI.2.2.1 _ _ k1 hk1k).1 (okN_asC hI.2.2.1 0 0 k1 hk1k).2 (by omega)) (cwV 1 hts gX1_sweep_X0_removeAt rfl rfl rfl (by decide +kernel) ⟨Nat.le_of_ble_eq_true rfl, Nat.le_of_ble_eq_true rfl⟩) (va_recv hK.K hP (ci := 0) (q0 := k1 + 2) rfl (at_ch hk1k)) hK hP hS rfl hl.1 rfl (Nat.le_of_ble_eq_true rfl) dX1_sweep_71 ⟨Nat.le_of_ble_eq_true rfl, Nat.le_of_ble_eq_true rfl⟩ (fun σ_5 H locs hσ_5 hP hS => ?_)
      subst hσ_5
      refine lv_iinc (v := nI (i + 1)) (lv' := [(5, .int (nI (i + 1))), (4, .int (nI (p1))), (3, .int (nI (N k1))), (2, .ref (e_a E (k1 + 2))), (0, .ref (e_a E (0))), (1, .int (x))]) hx hb dX1_sweep_74 hl (k := 0) rfl (by exact nI_add (i) 1) (by decide) rfl (fun ls hl => ?_)
      refine lv_goto (tgt := 17) hx hb dX1_sweep_77 (by decide) ?_
      exact IH ((i + 1), (p1), (m_rem (asC σ1 (σ1 (k1 + 10) p1) (σ1 (k1 + 18) p1)) k1 p1 (N1 k1)), (subN N1 k1)) (show (i + 1) ≤ N k1 ∧ (p1) ≤ (i + 1) ∧ okN (m_rem (asC σ1 (σ1 (k1 + 10) p1) (σ1 (k1 + 18) p1)) k1 p1 (N1 k1)) (subN N1 k1) ∧ (subN N1 k1) k1 = N k1 - ((i + 1) - (p1)) ∧ ssteps k1 (i + 1) σ N 0 (m_rem (asC σ1 (σ1 (k1 + 10) p1) (σ1 (k1 + 18) p1)) k1 p1 (N1 k1)) (subN N1 k1) (p1) from ⟨by omega, by omega, okN_rem (okN_asC hI.2.2.1 _ _) hk1k, by simp [subN]; omega, σ1, N1, p1, hI.2.2.2.2, Or.inr ⟨c41, rfl, rfl, rfl⟩⟩) (by (try dsimp only); omega) _ _ _ hP hS (lv_sub hl [0, 1, 2, 3, 4, 5] rfl)
    · skip
      refine lv_iinc (v := nI (p1 + 1)) (lv' := [(4, .int (nI (p1 + 1))), (5, .int (nI (i))), (3, .int (nI (N k1))), (2, .ref (e_a E (k1 + 2))), (0, .ref (e_a E (0))), (1, .int (x))]) hx hb dX1_sweep_44 hl (k := 1) rfl (by exact nI_add (p1) 1) (by decide) rfl (fun ls hl => ?_)
      refine lv_goto (tgt := 74) hx hb dX1_sweep_47 (by decide) ?_
      refine lv_iinc (v := nI (i + 1)) (lv' := [(5, .int (nI (i + 1))), (4, .int (nI (p1 + 1))), (3, .int (nI (N k1))), (2, .ref (e_a E (k1 + 2))), (0, .ref (e_a E (0))), (1, .int (x))]) hx hb dX1_sweep_74 hl (k := 1) rfl (by exact nI_add (i) 1) (by decide) rfl (fun ls hl => ?_)
      refine lv_goto (tgt := 17) hx hb dX1_sweep_77 (by decide) ?_
      exact IH ((i + 1), (p1 + 1), (σ1), (N1)) (show (i + 1) ≤ N k1 ∧ (p1 + 1) ≤ (i + 1) ∧ okN (σ1) (N1) ∧ (N1) k1 = N k1 - ((i + 1) - (p1 + 1)) ∧ ssteps k1 (i + 1) σ N 0 (σ1) (N1) (p1 + 1) from ⟨by omega, by omega, hI.2.2.1, by omega, σ1, N1, p1, hI.2.2.2.2, Or.inl ⟨c41, rfl, rfl, rfl⟩⟩) (by (try dsimp only); omega) _ _ _ hP hS (lv_sub hl [0, 1, 2, 3, 4, 5] rfl)

set_option maxHeartbeats 4000000 in
set_option maxRecDepth 100000 in
/-- putAside -/
theorem mtX1_putAside (l : Launch) (E : Ev) (hok : e_ok E) (σ : Mem) (o : Nat → Int64) (w g : Int32) : Met l yX1_putAside wsX1_putAside ({ frames := 0, cells := 0, slots := 0, locals := 0 } : Room) (PW E σ o [.ref (e_a E (0)), .int (w), .int (g)]) (va_Qv (fun (σ' : Mem) => σ' = asC σ w g) (BW E o) (LB (e_B E))) 0 0 (LB (e_B E)) := by
  refine Met.ofW (cc := cX1_putAside) (maxL := 3) (ret := none) (by decide) rfl ?_
  intro p e s m args below meth c s₁ B hml hv
  obtain ⟨rfl, hP, hK⟩ := hv
  have hx := B.exec
  have hb := B.bytes
  have hr := B.returns
  have hts := atoms_spec (ws := wsX1_putAside) B.pre
  have hown : s.vm.findClass RX1 = some m.cls := findClass_of_methodNamed B.named
  have hlocks := B.notSynchronized
  have hS : va_S (LB (e_B E)) s.heap s.heap [] := va_S.rf
  have hinX1 : ∀ w ∈ wsX10, w ∈ wsX1_putAside := fun w h => by simp only [wsX1_putAside, List.mem_cons, List.mem_append, h, or_true, true_or]
  have hf137 := hts (.fieldLink RX1 137 "ParcelChutes" "asideCount" "I") (by decide +kernel)
  have hf140 := hts (.fieldLink RX1 140 "ParcelChutes" "asideWeight" "I") (by decide +kernel)
  have hf143 := hts (.fieldLink RX1 143 "ParcelChutes" "asideGirth" "I") (by decide +kernel)
  have hl := lv_entry ([.ref (e_a E (0)), .int (w), .int (g)]) (n := 3) (Nat.le_of_ble_eq_true rfl)
  rw [lg_entry_eq]
  generalize (lg_sl ([.ref (e_a E (0)), .int (w), .int (g)]) ++ List.replicate (3 - (lg_sl ([.ref (e_a E (0)), .int (w), .int (g)])).length) Slot.unset).toArray = ls at hl ⊢
  have hl : lv_has ls 3 [(0, .ref (e_a E (0))), (1, .int (w)), (2, .int (g))] := hl
  refine lv_aload_n hx hb dX1_putAside_0 rfl (lv_at hl 0 rfl) ?_
  refine lv_dup hx hb dX1_putAside_1 rfl ?_
  refine q_get (C := RX1) (T := TX1) (N := 10) (ci := 1) (v := .int (σ (0) 7)) hx hb hts hinX1 hown hK hP at_0 rfl 7 (by decide) hf137 rfl dX1_putAside_2 ?_
  refine lv_iconst (v := 1) hx hb dX1_putAside_5 (by decide) ?_
  refine lv_iadd hx hb dX1_putAside_6 ?_
  refine q_put (C := RX1) (T := TX1) (N := 10) (ci := 1) (ty := .int) (v := (σ (0) 7) + 1) hx hb hts hinX1 tyX1 tyX1_ok nmX1 hown hok hK hP hS at_0 (by decide) rfl 7 (by decide) hf137 rfl (tyX1_ok 7 (by decide)) rfl rfl (Nat.le_of_ble_eq_true rfl) rfl dX1_putAside_7 (fun H locs hP hS => ?_)
  refine lv_aload_n hx hb dX1_putAside_10 rfl (lv_at hl 0 rfl) ?_
  refine lv_iload_n hx hb dX1_putAside_11 rfl (lv_at hl 1 rfl) ?_
  refine q_put (C := RX1) (T := TX1) (N := 10) (ci := 1) (ty := .int) (v := w) hx hb hts hinX1 tyX1 tyX1_ok nmX1 hown hok hK hP hS at_0 (by decide) rfl 8 (by decide) hf140 rfl (tyX1_ok 8 (by decide)) rfl rfl (Nat.le_of_ble_eq_true rfl) rfl dX1_putAside_12 (fun H locs hP hS => ?_)
  refine lv_aload_n hx hb dX1_putAside_15 rfl (lv_at hl 0 rfl) ?_
  refine lv_iload_n hx hb dX1_putAside_16 rfl (lv_at hl 2 rfl) ?_
  refine q_put (C := RX1) (T := TX1) (N := 10) (ci := 1) (ty := .int) (v := g) hx hb hts hinX1 tyX1 tyX1_ok nmX1 hown hok hK hP hS at_0 (by decide) rfl 9 (by decide) hf143 rfl (tyX1_ok 9 (by decide)) rfl rfl (Nat.le_of_ble_eq_true rfl) rfl dX1_putAside_17 (fun H locs hP hS => ?_)
  exact r_v hx hb hr hlocks hP hS dX1_putAside_20 rfl
set_option maxHeartbeats 4000000 in
set_option maxRecDepth 100000 in
/-- readGauges -/
theorem mtX1_readGauges (l : Launch) (E : Ev) (hok : e_ok E) (σ : Mem) (o : Nat → Int64) (w g : Int32) : Met l yX1_readGauges wsX1_readGauges ({ frames := 2, cells := 0, slots := 0, locals := 43 } : Room) (PW E σ o [.ref (e_a E (0)), .int (w), .int (g)]) (va_Qv (fun (σ' : Mem) => σ' = rgC σ w g) (BW E o) (LB (e_B E))) 0 0 (LB (e_B E)) := by
  refine Met.ofW (cc := cX1_readGauges) (maxL := 3) (ret := none) (by decide) rfl ?_
  intro p e s m args below meth c s₁ B hml hv
  obtain ⟨rfl, hP, hK⟩ := hv
  have hx := B.exec
  have hb := B.bytes
  have hr := B.returns
  have hts := atoms_spec (ws := wsX1_readGauges) B.pre
  have hown : s.vm.findClass RX1 = some m.cls := findClass_of_methodNamed B.named
  have hlocks := B.notSynchronized
  have hS : va_S (LB (e_B E)) s.heap s.heap [] := va_S.rf
  have hinX1 : ∀ w ∈ wsX10, w ∈ wsX1_readGauges := fun w h => by simp only [wsX1_readGauges, List.mem_cons, List.mem_append, h, or_true, true_or]
  have hf122 := hts (.fieldLink RX1 122 "ParcelChutes" "lightest" "I") (by decide +kernel)
  have hf125 := hts (.fieldLink RX1 125 "ParcelChutes" "heaviest" "I") (by decide +kernel)
  have hf128 := hts (.fieldLink RX1 128 "ParcelChutes" "widest" "I") (by decide +kernel)
  have hf131 := hts (.fieldLink RX1 131 "ParcelChutes" "streak" "I") (by decide +kernel)
  have hf134 := hts (.fieldLink RX1 134 "ParcelChutes" "came" "I") (by decide +kernel)
  have hf151 := hts (.fieldLink RX1 151 "ParcelChutes" "latestWeight" "I") (by decide +kernel)
  have hl := lv_entry ([.ref (e_a E (0)), .int (w), .int (g)]) (n := 3) (Nat.le_of_ble_eq_true rfl)
  rw [lg_entry_eq]
  generalize (lg_sl ([.ref (e_a E (0)), .int (w), .int (g)]) ++ List.replicate (3 - (lg_sl ([.ref (e_a E (0)), .int (w), .int (g)])).length) Slot.unset).toArray = ls at hl ⊢
  have hl : lv_has ls 3 [(0, .ref (e_a E (0))), (1, .int (w)), (2, .int (g))] := hl
  refine cut_m (ls := ls) (E := E) (o := o) (pcj := 24) (rest := []) (P := fun z : Mem => z = m_up σ 0 1 (gl w (σ 0 1))) ?_ (fun J24 => ?_)
  · intro σ_1 H locs eσ_1 hP hS
    subst eσ_1
    refine cut_m (ls := ls) (E := E) (o := o) (pcj := 48) (rest := []) (P := fun z : Mem => z = m_up (m_up σ 0 1 (gl w (σ 0 1))) 0 2 (gh w ((m_up σ 0 1 (gl w (σ 0 1))) 0 2))) ?_ (fun J48 => ?_)
    · intro σ_2 H locs eσ_2 hP hS
      subst eσ_2
      refine cut_m (ls := ls) (E := E) (o := o) (pcj := 72) (rest := []) (P := fun z : Mem => z = m_up (m_up (m_up σ 0 1 (gl w (σ 0 1))) 0 2 (gh w ((m_up σ 0 1 (gl w (σ 0 1))) 0 2))) 0 3 (gh g ((m_up (m_up σ 0 1 (gl w (σ 0 1))) 0 2 (gh w ((m_up σ 0 1 (gl w (σ 0 1))) 0 2))) 0 3))) ?_ (fun J72 => ?_)
      · intro σ_3 H locs eσ_3 hP hS
        subst eσ_3
        refine lv_aload_n hx hb dX1_readGauges_72 rfl (lv_at hl 0 rfl) ?_
        refine lv_iload_n hx hb dX1_readGauges_73 rfl (lv_at hl 1 rfl) ?_
        refine lv_iconst (v := 1) hx hb dX1_readGauges_74 (by decide) ?_
        refine lv_aload_n hx hb dX1_readGauges_75 rfl (lv_at hl 0 rfl) ?_
        refine q_get (C := RX1) (T := TX1) (N := 10) (ci := 1) (v := .int ((m_up (m_up (m_up σ 0 1 (gl w (σ 0 1))) 0 2 (gh w ((m_up σ 0 1 (gl w (σ 0 1))) 0 2))) 0 3 (gh g ((m_up (m_up σ 0 1 (gl w (σ 0 1))) 0 2 (gh w ((m_up σ 0 1 (gl w (σ 0 1))) 0 2))) 0 3))) (0) 6)) hx hb hts hinX1 hown hK hP at_0 rfl 6 (by decide) hf151 rfl dX1_readGauges_76 ?_
        refine k_Si (As := [.int (w), .int (1), .int ((m_up (m_up (m_up σ 0 1 (gl w (σ 0 1))) 0 2 (gh w ((m_up σ 0 1 (gl w (σ 0 1))) 0 2))) 0 3 (gh g ((m_up (m_up σ 0 1 (gl w (σ 0 1))) 0 2 (gh w ((m_up σ 0 1 (gl w (σ 0 1))) 0 2))) 0 3))) (0) 6)]) (rest := [.ref (e_a E (0))]) ⟨hx, hb, hml, hown, hts⟩ (mtX1_holds l w 1 ((m_up (m_up (m_up σ 0 1 (gl w (σ 0 1))) 0 2 (gh w ((m_up σ 0 1 (gl w (σ 0 1))) 0 2))) 0 3 (gh g ((m_up (m_up σ 0 1 (gl w (σ 0 1))) 0 2 (gh w ((m_up σ 0 1 (gl w (σ 0 1))) 0 2))) 0 3))) (0) 6)) (va_cwS 3 hts gX1_readGauges_X1_holds rfl rfl rfl (by decide +kernel) ⟨Nat.le_of_ble_eq_true rfl, Nat.le_of_ble_eq_true rfl⟩) rfl hl.1 rfl (Nat.le_of_ble_eq_true rfl) dX1_readGauges_79 ⟨Nat.le_of_ble_eq_true rfl, Nat.le_of_ble_eq_true rfl⟩ (fun r4 er4 => ?_)
        subst er4
        refine cut_i (ls := ls) (pcj := 95) (rest := [.ref (e_a E (0))]) (P := fun v : Int32 => v = stk w ((m_up (m_up (m_up σ 0 1 (gl w (σ 0 1))) 0 2 (gh w ((m_up σ 0 1 (gl w (σ 0 1))) 0 2))) 0 3 (gh g ((m_up (m_up σ 0 1 (gl w (σ 0 1))) 0 2 (gh w ((m_up σ 0 1 (gl w (σ 0 1))) 0 2))) 0 3))) 0 6) ((m_up (m_up (m_up σ 0 1 (gl w (σ 0 1))) 0 2 (gh w ((m_up σ 0 1 (gl w (σ 0 1))) 0 2))) 0 3 (gh g ((m_up (m_up σ 0 1 (gl w (σ 0 1))) 0 2 (gh w ((m_up σ 0 1 (gl w (σ 0 1))) 0 2))) 0 3))) 0 4)) ?_ (fun J95 => ?_)
        · intro v5 ev5
          subst ev5
          refine q_put (C := RX1) (T := TX1) (N := 10) (ci := 1) (ty := .int) (v := stk w ((m_up (m_up (m_up σ 0 1 (gl w (σ 0 1))) 0 2 (gh w ((m_up σ 0 1 (gl w (σ 0 1))) 0 2))) 0 3 (gh g ((m_up (m_up σ 0 1 (gl w (σ 0 1))) 0 2 (gh w ((m_up σ 0 1 (gl w (σ 0 1))) 0 2))) 0 3))) 0 6) ((m_up (m_up (m_up σ 0 1 (gl w (σ 0 1))) 0 2 (gh w ((m_up σ 0 1 (gl w (σ 0 1))) 0 2))) 0 3 (gh g ((m_up (m_up σ 0 1 (gl w (σ 0 1))) 0 2 (gh w ((m_up σ 0 1 (gl w (σ 0 1))) 0 2))) 0 3))) 0 4)) hx hb hts hinX1 tyX1 tyX1_ok nmX1 hown hok hK hP hS at_0 (by decide) rfl 4 (by decide) hf131 rfl (tyX1_ok 4 (by decide)) rfl rfl (Nat.le_of_ble_eq_true rfl) rfl dX1_readGauges_95 (fun H locs hP hS => ?_)
          refine lv_aload_n hx hb dX1_readGauges_98 rfl (lv_at hl 0 rfl) ?_
          refine lv_iload_n hx hb dX1_readGauges_99 rfl (lv_at hl 1 rfl) ?_
          refine q_put (C := RX1) (T := TX1) (N := 10) (ci := 1) (ty := .int) (v := w) hx hb hts hinX1 tyX1 tyX1_ok nmX1 hown hok hK hP hS at_0 (by decide) rfl 6 (by decide) hf151 rfl (tyX1_ok 6 (by decide)) rfl rfl (Nat.le_of_ble_eq_true rfl) rfl dX1_readGauges_100 (fun H locs hP hS => ?_)
          refine lv_aload_n hx hb dX1_readGauges_103 rfl (lv_at hl 0 rfl) ?_
          refine lv_dup hx hb dX1_readGauges_104 rfl ?_
          refine q_get (C := RX1) (T := TX1) (N := 10) (ci := 1) (v := .int ((m_up (m_up (m_up (m_up (m_up σ 0 1 (gl w (σ 0 1))) 0 2 (gh w ((m_up σ 0 1 (gl w (σ 0 1))) 0 2))) 0 3 (gh g ((m_up (m_up σ 0 1 (gl w (σ 0 1))) 0 2 (gh w ((m_up σ 0 1 (gl w (σ 0 1))) 0 2))) 0 3))) (0) 4 (stk w ((m_up (m_up (m_up σ 0 1 (gl w (σ 0 1))) 0 2 (gh w ((m_up σ 0 1 (gl w (σ 0 1))) 0 2))) 0 3 (gh g ((m_up (m_up σ 0 1 (gl w (σ 0 1))) 0 2 (gh w ((m_up σ 0 1 (gl w (σ 0 1))) 0 2))) 0 3))) 0 6) ((m_up (m_up (m_up σ 0 1 (gl w (σ 0 1))) 0 2 (gh w ((m_up σ 0 1 (gl w (σ 0 1))) 0 2))) 0 3 (gh g ((m_up (m_up σ 0 1 (gl w (σ 0 1))) 0 2 (gh w ((m_up σ 0 1 (gl w (σ 0 1))) 0 2))) 0 3))) 0 4))) (0) 6 w) (0) 5)) hx hb hts hinX1 hown hK hP at_0 rfl 5 (by decide) hf134 rfl dX1_readGauges_105 ?_
          refine lv_iconst (v := 1) hx hb dX1_readGauges_108 (by decide) ?_
          refine lv_iadd hx hb dX1_readGauges_109 ?_
          refine q_put (C := RX1) (T := TX1) (N := 10) (ci := 1) (ty := .int) (v := ((m_up (m_up (m_up (m_up (m_up σ 0 1 (gl w (σ 0 1))) 0 2 (gh w ((m_up σ 0 1 (gl w (σ 0 1))) 0 2))) 0 3 (gh g ((m_up (m_up σ 0 1 (gl w (σ 0 1))) 0 2 (gh w ((m_up σ 0 1 (gl w (σ 0 1))) 0 2))) 0 3))) (0) 4 (stk w ((m_up (m_up (m_up σ 0 1 (gl w (σ 0 1))) 0 2 (gh w ((m_up σ 0 1 (gl w (σ 0 1))) 0 2))) 0 3 (gh g ((m_up (m_up σ 0 1 (gl w (σ 0 1))) 0 2 (gh w ((m_up σ 0 1 (gl w (σ 0 1))) 0 2))) 0 3))) 0 6) ((m_up (m_up (m_up σ 0 1 (gl w (σ 0 1))) 0 2 (gh w ((m_up σ 0 1 (gl w (σ 0 1))) 0 2))) 0 3 (gh g ((m_up (m_up σ 0 1 (gl w (σ 0 1))) 0 2 (gh w ((m_up σ 0 1 (gl w (σ 0 1))) 0 2))) 0 3))) 0 4))) (0) 6 w) (0) 5) + 1) hx hb hts hinX1 tyX1 tyX1_ok nmX1 hown hok hK hP hS at_0 (by decide) rfl 5 (by decide) hf134 rfl (tyX1_ok 5 (by decide)) rfl rfl (Nat.le_of_ble_eq_true rfl) rfl dX1_readGauges_110 (fun H locs hP hS => ?_)
          exact r_v hx hb hr hlocks hP hS dX1_readGauges_113 (by simp [rgC, m_up_get])
        refine lv_if_eq (tgt := 89) hx hb dX1_readGauges_82 (by decide) (fun c82 => ?_) (fun c82 => ?_)
        · skip
          refine lv_aload_n hx hb dX1_readGauges_89 rfl (lv_at hl 0 rfl) ?_
          refine q_get (C := RX1) (T := TX1) (N := 10) (ci := 1) (v := .int ((m_up (m_up (m_up σ 0 1 (gl w (σ 0 1))) 0 2 (gh w ((m_up σ 0 1 (gl w (σ 0 1))) 0 2))) 0 3 (gh g ((m_up (m_up σ 0 1 (gl w (σ 0 1))) 0 2 (gh w ((m_up σ 0 1 (gl w (σ 0 1))) 0 2))) 0 3))) (0) 4)) hx hb hts hinX1 hown hK hP at_0 rfl 4 (by decide) hf131 rfl dX1_readGauges_90 ?_
          refine lv_iconst (v := 1) hx hb dX1_readGauges_93 (by decide) ?_
          refine lv_iadd hx hb dX1_readGauges_94 ?_
          exact J95 _ (by simp [stk, c82])
        · skip
          refine lv_iconst (v := 1) hx hb dX1_readGauges_85 (by decide) ?_
          refine lv_goto (tgt := 95) hx hb dX1_readGauges_86 (by decide) ?_
          exact J95 _ (by simp [stk, c82])
      refine lv_aload_n hx hb dX1_readGauges_48 rfl (lv_at hl 0 rfl) ?_
      refine q_get (C := RX1) (T := TX1) (N := 10) (ci := 1) (v := .int ((m_up (m_up σ 0 1 (gl w (σ 0 1))) 0 2 (gh w ((m_up σ 0 1 (gl w (σ 0 1))) 0 2))) (0) 3)) hx hb hts hinX1 hown hK hP at_0 rfl 3 (by decide) hf128 rfl dX1_readGauges_49 ?_
      refine lv_if_eq (tgt := 67) hx hb dX1_readGauges_52 (by decide) (fun c52 => ?_) (fun c52 => ?_)
      · skip
        refine lv_aload_n hx hb dX1_readGauges_67 rfl (lv_at hl 0 rfl) ?_
        refine lv_iload_n hx hb dX1_readGauges_68 rfl (lv_at hl 2 rfl) ?_
        refine q_put (C := RX1) (T := TX1) (N := 10) (ci := 1) (ty := .int) (v := g) hx hb hts hinX1 tyX1 tyX1_ok nmX1 hown hok hK hP hS at_0 (by decide) rfl 3 (by decide) hf128 rfl (tyX1_ok 3 (by decide)) rfl rfl (Nat.le_of_ble_eq_true rfl) rfl dX1_readGauges_69 (fun H locs hP hS => ?_)
        exact J72 _ _ _ (by rw [gh_0 c52]) hP hS
      · skip
        refine lv_iload_n hx hb dX1_readGauges_55 rfl (lv_at hl 2 rfl) ?_
        refine lv_iconst (v := 4) hx hb dX1_readGauges_56 (by decide) ?_
        refine lv_aload_n hx hb dX1_readGauges_57 rfl (lv_at hl 0 rfl) ?_
        refine q_get (C := RX1) (T := TX1) (N := 10) (ci := 1) (v := .int ((m_up (m_up σ 0 1 (gl w (σ 0 1))) 0 2 (gh w ((m_up σ 0 1 (gl w (σ 0 1))) 0 2))) (0) 3)) hx hb hts hinX1 hown hK hP at_0 rfl 3 (by decide) hf128 rfl dX1_readGauges_58 ?_
        refine k_Si (As := [.int (g), .int (4), .int ((m_up (m_up σ 0 1 (gl w (σ 0 1))) 0 2 (gh w ((m_up σ 0 1 (gl w (σ 0 1))) 0 2))) (0) 3)]) (rest := []) ⟨hx, hb, hml, hown, hts⟩ (mtX1_holds l g 4 ((m_up (m_up σ 0 1 (gl w (σ 0 1))) 0 2 (gh w ((m_up σ 0 1 (gl w (σ 0 1))) 0 2))) (0) 3)) (va_cwS 3 hts gX1_readGauges_X1_holds rfl rfl rfl (by decide +kernel) ⟨Nat.le_of_ble_eq_true rfl, Nat.le_of_ble_eq_true rfl⟩) rfl hl.1 rfl (Nat.le_of_ble_eq_true rfl) dX1_readGauges_61 ⟨Nat.le_of_ble_eq_true rfl, Nat.le_of_ble_eq_true rfl⟩ (fun r6 er6 => ?_)
        subst er6
        refine lv_if_eq (tgt := 72) hx hb dX1_readGauges_64 (by decide) (fun c64 => ?_) (fun c64 => ?_)
        · skip
          exact J72 _ _ _ (by rw [gh_k c52 c64, m_up_self]) hP hS
        · skip
          refine lv_aload_n hx hb dX1_readGauges_67 rfl (lv_at hl 0 rfl) ?_
          refine lv_iload_n hx hb dX1_readGauges_68 rfl (lv_at hl 2 rfl) ?_
          refine q_put (C := RX1) (T := TX1) (N := 10) (ci := 1) (ty := .int) (v := g) hx hb hts hinX1 tyX1 tyX1_ok nmX1 hown hok hK hP hS at_0 (by decide) rfl 3 (by decide) hf128 rfl (tyX1_ok 3 (by decide)) rfl rfl (Nat.le_of_ble_eq_true rfl) rfl dX1_readGauges_69 (fun H locs hP hS => ?_)
          exact J72 _ _ _ (by rw [gh_w c52 c64]) hP hS
    refine lv_aload_n hx hb dX1_readGauges_24 rfl (lv_at hl 0 rfl) ?_
    refine q_get (C := RX1) (T := TX1) (N := 10) (ci := 1) (v := .int ((m_up σ 0 1 (gl w (σ 0 1))) (0) 2)) hx hb hts hinX1 hown hK hP at_0 rfl 2 (by decide) hf125 rfl dX1_readGauges_25 ?_
    refine lv_if_eq (tgt := 43) hx hb dX1_readGauges_28 (by decide) (fun c28 => ?_) (fun c28 => ?_)
    · skip
      refine lv_aload_n hx hb dX1_readGauges_43 rfl (lv_at hl 0 rfl) ?_
      refine lv_iload_n hx hb dX1_readGauges_44 rfl (lv_at hl 1 rfl) ?_
      refine q_put (C := RX1) (T := TX1) (N := 10) (ci := 1) (ty := .int) (v := w) hx hb hts hinX1 tyX1 tyX1_ok nmX1 hown hok hK hP hS at_0 (by decide) rfl 2 (by decide) hf125 rfl (tyX1_ok 2 (by decide)) rfl rfl (Nat.le_of_ble_eq_true rfl) rfl dX1_readGauges_45 (fun H locs hP hS => ?_)
      exact J48 _ _ _ (by rw [gh_0 c28]) hP hS
    · skip
      refine lv_iload_n hx hb dX1_readGauges_31 rfl (lv_at hl 1 rfl) ?_
      refine lv_iconst (v := 4) hx hb dX1_readGauges_32 (by decide) ?_
      refine lv_aload_n hx hb dX1_readGauges_33 rfl (lv_at hl 0 rfl) ?_
      refine q_get (C := RX1) (T := TX1) (N := 10) (ci := 1) (v := .int ((m_up σ 0 1 (gl w (σ 0 1))) (0) 2)) hx hb hts hinX1 hown hK hP at_0 rfl 2 (by decide) hf125 rfl dX1_readGauges_34 ?_
      refine k_Si (As := [.int (w), .int (4), .int ((m_up σ 0 1 (gl w (σ 0 1))) (0) 2)]) (rest := []) ⟨hx, hb, hml, hown, hts⟩ (mtX1_holds l w 4 ((m_up σ 0 1 (gl w (σ 0 1))) (0) 2)) (va_cwS 3 hts gX1_readGauges_X1_holds rfl rfl rfl (by decide +kernel) ⟨Nat.le_of_ble_eq_true rfl, Nat.le_of_ble_eq_true rfl⟩) rfl hl.1 rfl (Nat.le_of_ble_eq_true rfl) dX1_readGauges_37 ⟨Nat.le_of_ble_eq_true rfl, Nat.le_of_ble_eq_true rfl⟩ (fun r7 er7 => ?_)
      subst er7
      refine lv_if_eq (tgt := 48) hx hb dX1_readGauges_40 (by decide) (fun c40 => ?_) (fun c40 => ?_)
      · skip
        exact J48 _ _ _ (by rw [gh_k c28 c40, m_up_self]) hP hS
      · skip
        refine lv_aload_n hx hb dX1_readGauges_43 rfl (lv_at hl 0 rfl) ?_
        refine lv_iload_n hx hb dX1_readGauges_44 rfl (lv_at hl 1 rfl) ?_
        refine q_put (C := RX1) (T := TX1) (N := 10) (ci := 1) (ty := .int) (v := w) hx hb hts hinX1 tyX1 tyX1_ok nmX1 hown hok hK hP hS at_0 (by decide) rfl 2 (by decide) hf125 rfl (tyX1_ok 2 (by decide)) rfl rfl (Nat.le_of_ble_eq_true rfl) rfl dX1_readGauges_45 (fun H locs hP hS => ?_)
        exact J48 _ _ _ (by rw [gh_w c28 c40]) hP hS
  refine lv_aload_n hx hb dX1_readGauges_0 rfl (lv_at hl 0 rfl) ?_
  refine q_get (C := RX1) (T := TX1) (N := 10) (ci := 1) (v := .int (σ (0) 1)) hx hb hts hinX1 hown hK hP at_0 rfl 1 (by decide) hf122 rfl dX1_readGauges_1 ?_
  refine lv_if_eq (tgt := 19) hx hb dX1_readGauges_4 (by decide) (fun c4 => ?_) (fun c4 => ?_)
  · skip
    refine lv_aload_n hx hb dX1_readGauges_19 rfl (lv_at hl 0 rfl) ?_
    refine lv_iload_n hx hb dX1_readGauges_20 rfl (lv_at hl 1 rfl) ?_
    refine q_put (C := RX1) (T := TX1) (N := 10) (ci := 1) (ty := .int) (v := w) hx hb hts hinX1 tyX1 tyX1_ok nmX1 hown hok hK hP hS at_0 (by decide) rfl 1 (by decide) hf122 rfl (tyX1_ok 1 (by decide)) rfl rfl (Nat.le_of_ble_eq_true rfl) rfl dX1_readGauges_21 (fun H locs hP hS => ?_)
    exact J24 _ _ _ (by rw [gl_0 c4]) hP hS
  · skip
    refine lv_iload_n hx hb dX1_readGauges_7 rfl (lv_at hl 1 rfl) ?_
    refine lv_iconst (v := 1) hx hb dX1_readGauges_8 (by decide) ?_
    refine lv_aload_n hx hb dX1_readGauges_9 rfl (lv_at hl 0 rfl) ?_
    refine q_get (C := RX1) (T := TX1) (N := 10) (ci := 1) (v := .int (σ (0) 1)) hx hb hts hinX1 hown hK hP at_0 rfl 1 (by decide) hf122 rfl dX1_readGauges_10 ?_
    refine k_Si (As := [.int (w), .int (1), .int (σ (0) 1)]) (rest := []) ⟨hx, hb, hml, hown, hts⟩ (mtX1_holds l w 1 (σ (0) 1)) (va_cwS 3 hts gX1_readGauges_X1_holds rfl rfl rfl (by decide +kernel) ⟨Nat.le_of_ble_eq_true rfl, Nat.le_of_ble_eq_true rfl⟩) rfl hl.1 rfl (Nat.le_of_ble_eq_true rfl) dX1_readGauges_13 ⟨Nat.le_of_ble_eq_true rfl, Nat.le_of_ble_eq_true rfl⟩ (fun r8 er8 => ?_)
    subst er8
    refine lv_if_eq (tgt := 24) hx hb dX1_readGauges_16 (by decide) (fun c16 => ?_) (fun c16 => ?_)
    · skip
      exact J24 _ _ _ (by rw [gl_k c4 c16, m_up_self]) hP hS
    · skip
      refine lv_aload_n hx hb dX1_readGauges_19 rfl (lv_at hl 0 rfl) ?_
      refine lv_iload_n hx hb dX1_readGauges_20 rfl (lv_at hl 1 rfl) ?_
      refine q_put (C := RX1) (T := TX1) (N := 10) (ci := 1) (ty := .int) (v := w) hx hb hts hinX1 tyX1 tyX1_ok nmX1 hown hok hK hP hS at_0 (by decide) rfl 1 (by decide) hf122 rfl (tyX1_ok 1 (by decide)) rfl rfl (Nat.le_of_ble_eq_true rfl) rfl dX1_readGauges_21 (fun H locs hP hS => ?_)
      exact J24 _ _ _ (by rw [gl_w c4 c16]) hP hS
theorem wxX1_sort_24 : ∀ w ∈ (vx_atS RX1 24 "java/lang/IllegalArgumentException" ["java/lang/RuntimeException", "java/lang/Exception"]).filter goodWord, w ∈ wsX1_sort := fun w h => by
  simp only [wsX1_sort, List.mem_cons, List.mem_append, h, or_true, true_or]
theorem wxX1_sort_35 : ∀ w ∈ (vx_atS RX1 35 "java/lang/IllegalStateException" ["java/lang/RuntimeException", "java/lang/Exception"]).filter goodWord, w ∈ wsX1_sort := fun w h => by
  simp only [wsX1_sort, List.mem_cons, List.mem_append, h, or_true, true_or]
set_option maxHeartbeats 4000000 in
set_option maxRecDepth 100000 in
/-- sort -/
theorem mtX1_sort (l : Launch) (hl0 : l.stackTraces = false) (E : Ev) (hok : e_ok E) (σ : Mem) (o : Nat → Int64) (x v : Int32) : vx_Met l yX1_sort wsX1_sort ({ frames := 7, cells := 3, slots := 18, locals := 111 } : Room) (PW E σ o [.ref (e_a E (0)), .int (x), .int (v)]) (va_Qi (fun (r : Int32) (σ' : Mem) => ∃ k : Nat, k < 8 ∧ x = nI k ∧ (¬ v < 0 ∧ v ≤ 4) ∧ σ (k + 2) 2 ≤ 0 ∧ r = σ (k + 2) 3 ∧ σ' = m_up σ (k + 2) 3 v) (BW E o) (LB (e_B E))) (XW E σ o (fun u => (u = xIO ∧ ¬ isCh x) ∨ (u = xIA ∧ isCh x ∧ ¬ (¬ v < 0 ∧ v ≤ 4)) ∨ (u = xIS ∧ (¬ v < 0 ∧ v ≤ 4) ∧ ∃ k : Nat, k < 8 ∧ x = nI k ∧ ¬ σ (k + 2) 2 ≤ 0))) 3 18 (LB (e_B E)) := by
  refine vx_ofW (cc := cX1_sort) (maxL := 5) (ret := (some .int)) (by decide) rfl ?_
  intro p e s m args below meth c s₁ B hml hno hv
  obtain ⟨rfl, hP, hK⟩ := hv
  have hx := B.exec
  have hb := B.bytes
  have hr := B.returns
  have hts := atoms_spec (ws := wsX1_sort) B.pre
  have hown : s.vm.findClass RX1 = some m.cls := findClass_of_methodNamed B.named
  have hlocks := B.notSynchronized
  have hS : va_S (LB (e_B E)) s.heap s.heap [] := va_S.rf
  have hinX0 : ∀ w ∈ wsX00, w ∈ wsX1_sort := fun w h => by simp only [wsX1_sort, List.mem_cons, List.mem_append, h, or_true, true_or]
  have hf27 := hts (.fieldLink RX1 27 "ParcelChutes$Chute" "count" "I") (by decide +kernel)
  have hf36 := hts (.fieldLink RX1 36 "ParcelChutes$Chute" "kind" "I") (by decide +kernel)
  have hl := lv_entry ([.ref (e_a E (0)), .int (x), .int (v)]) (n := 5) (Nat.le_of_ble_eq_true rfl)
  rw [lg_entry_eq]
  generalize (lg_sl ([.ref (e_a E (0)), .int (x), .int (v)]) ++ List.replicate (5 - (lg_sl ([.ref (e_a E (0)), .int (x), .int (v)])).length) Slot.unset).toArray = ls at hl ⊢
  have hl : lv_has ls 5 [(0, .ref (e_a E (0))), (1, .int (x)), (2, .int (v))] := hl
  refine lv_aload_n hx hb dX1_sort_0 rfl (lv_at hl 0 rfl) ?_
  refine lv_iload_n hx hb dX1_sort_1 rfl (lv_at hl 1 rfl) ?_
  refine x_Vc (As := [.int (x)]) (rest := []) ⟨hx, hb, hml, hown, hts⟩ (mtX1_chuteAt l hl0 E hok σ o x) (cwV 1 hts gX1_sort_X1_chuteAt rfl rfl rfl (by decide +kernel) ⟨Nat.le_of_ble_eq_true rfl, Nat.le_of_ble_eq_true rfl⟩) (va_recv hK.K hP (ci := 1) (q0 := 0) rfl at_0) hno hlocks hK hP hS rfl hl.1 rfl (Nat.le_of_ble_eq_true rfl) dX1_sort_2 ⟨Nat.le_of_ble_eq_true rfl, Nat.le_of_ble_eq_true rfl⟩ (fun u h => Or.inl h) ⟨Nat.le_of_ble_eq_true rfl, Nat.le_of_ble_eq_true rfl⟩ (fun k1 H locs hk1 hP hS => ?_)
  obtain ⟨hk1k, hk1e⟩ := hk1
  refine lv_astore_n (lv' := [(3, .ref (e_a E (k1 + 2))), (0, .ref (e_a E (0))), (1, .int (x)), (2, .int (v))]) hx hb dX1_sort_5 rfl hl (by decide) rfl (fun ls hl => ?_)
  refine lv_iload_n hx hb dX1_sort_6 rfl (lv_at hl 3 rfl) ?_
  refine lv_if_lt (tgt := 15) hx hb dX1_sort_7 (by decide) (fun c7 => ?_) (fun c7 => ?_)
  · skip
    exact x_throw hx hb hl0 (ik := 20) (is := 22) (ic := 24) hown (by decide +kernel) (hts (.classLink RX1 20 "java/lang/IllegalArgumentException") (by decide +kernel)) (hts (.initialized "java/lang/IllegalArgumentException") (by decide +kernel)) hK.s22 (vx_hat (B := [.castable "java/lang/IllegalArgumentException" "java/lang/IllegalArgumentException", .declares (Bundle.initS "java/lang/RuntimeException"), .declares (Bundle.initS "java/lang/Exception"), .declares (Bundle.initS "java/lang/Throwable")]) (fun w h => hts w (wxX1_sort_24 w h)) (by decide +kernel) (vx_c (hK.c (by decide)) (vx_c (hK.d (by decide)) (vx_c (hK.d (by decide)) (vx_c (hK.d (by decide)) vx_n))))) (by decide +kernel) hK hP hS hl.1 hml dX1_sort_15 dX1_sort_18 dX1_sort_19 dX1_sort_21 dX1_sort_24 hno (Nat.le_of_ble_eq_true rfl) (Nat.le_of_ble_eq_true rfl) (Nat.le_of_ble_eq_true rfl) (Nat.le_of_ble_eq_true rfl) hlocks (Or.inr (Or.inl ⟨rfl, ⟨k1, hk1k, hk1e⟩, fun z => z.1 c7⟩)) (Nat.le_of_ble_eq_true rfl) (Nat.le_of_ble_eq_true rfl)
  · skip
    refine lv_iload_n hx hb dX1_sort_10 rfl (lv_at hl 3 rfl) ?_
    refine lv_iconst (v := 4) hx hb dX1_sort_11 (by decide) ?_
    refine lv_icmp_le (tgt := 25) hx hb dX1_sort_12 (by decide) (fun c12 => ?_) (fun c12 => ?_)
    · skip
      refine lv_aload_n hx hb dX1_sort_25 rfl (lv_at hl 0 rfl) ?_
      refine q_get (C := RX0) (T := TX0) (N := 8) (ci := 0) (v := .int (σ (k1 + 2) 2)) hx hb hts hinX0 hown hK hP (at_ch hk1k) rfl 2 (by decide) hf27 rfl dX1_sort_26 ?_
      refine lv_if_le (tgt := 42) hx hb dX1_sort_29 (by decide) (fun c29 => ?_) (fun c29 => ?_)
      · skip
        refine lv_aload_n hx hb dX1_sort_42 rfl (lv_at hl 0 rfl) ?_
        refine q_get (C := RX0) (T := TX0) (N := 8) (ci := 0) (v := .int (σ (k1 + 2) 3)) hx hb hts hinX0 hown hK hP (at_ch hk1k) rfl 3 (by decide) hf36 rfl dX1_sort_43 ?_
        refine lv_istore (lv' := [(4, .int (σ (k1 + 2) 3)), (3, .ref (e_a E (k1 + 2))), (0, .ref (e_a E (0))), (1, .int (x)), (2, .int (v))]) hx hb dX1_sort_46 hl (by decide) rfl (fun ls hl => ?_)
        refine lv_aload_n hx hb dX1_sort_48 rfl (lv_at hl 1 rfl) ?_
        refine lv_iload_n hx hb dX1_sort_49 rfl (lv_at hl 4 rfl) ?_
        refine q_put (C := RX0) (T := TX0) (N := 8) (ci := 0) (ty := .int) (v := v) hx hb hts hinX0 tyX0 tyX0_ok nmX0 hown hok hK hP hS (at_ch hk1k) (by omega) rfl 3 (by decide) hf36 rfl (tyX0_ok 3 (by decide)) rfl rfl (Nat.le_of_ble_eq_true rfl) (by rw [wc_ch hk1k]; rfl) dX1_sort_50 (fun H locs hP hS => ?_)
        refine lv_iload hx hb dX1_sort_53 (lv_at hl 0 rfl) ?_
        refine W.widen (k := 3) (n := 18) (Nat.le_of_ble_eq_true rfl) (Nat.le_of_ble_eq_true rfl) ?_
        exact vx_ret (r_i hx hb hr hlocks hP hS dX1_sort_55 ⟨k1, hk1k, hk1e, ⟨c7, c12⟩, c29, rfl, rfl⟩)
      · skip
        exact x_throw hx hb hl0 (ik := 31) (is := 33) (ic := 35) hown (by decide +kernel) (hts (.classLink RX1 31 "java/lang/IllegalStateException") (by decide +kernel)) (hts (.initialized "java/lang/IllegalStateException") (by decide +kernel)) hK.s33 (vx_hat (B := [.castable "java/lang/IllegalStateException" "java/lang/IllegalStateException", .declares (Bundle.initS "java/lang/RuntimeException"), .declares (Bundle.initS "java/lang/Exception"), .declares (Bundle.initS "java/lang/Throwable")]) (fun w h => hts w (wxX1_sort_35 w h)) (by decide +kernel) (vx_c (hK.c (by decide)) (vx_c (hK.d (by decide)) (vx_c (hK.d (by decide)) (vx_c (hK.d (by decide)) vx_n))))) (by decide +kernel) hK hP hS hl.1 hml dX1_sort_32 dX1_sort_35 dX1_sort_36 dX1_sort_38 dX1_sort_41 hno (Nat.le_of_ble_eq_true rfl) (Nat.le_of_ble_eq_true rfl) (Nat.le_of_ble_eq_true rfl) (Nat.le_of_ble_eq_true rfl) hlocks (Or.inr (Or.inr ⟨rfl, ⟨c7, c12⟩, k1, hk1k, hk1e, c29⟩)) (Nat.le_of_ble_eq_true rfl) (Nat.le_of_ble_eq_true rfl)
    · skip
      exact x_throw hx hb hl0 (ik := 20) (is := 22) (ic := 24) hown (by decide +kernel) (hts (.classLink RX1 20 "java/lang/IllegalArgumentException") (by decide +kernel)) (hts (.initialized "java/lang/IllegalArgumentException") (by decide +kernel)) hK.s22 (vx_hat (B := [.castable "java/lang/IllegalArgumentException" "java/lang/IllegalArgumentException", .declares (Bundle.initS "java/lang/RuntimeException"), .declares (Bundle.initS "java/lang/Exception"), .declares (Bundle.initS "java/lang/Throwable")]) (fun w h => hts w (wxX1_sort_24 w h)) (by decide +kernel) (vx_c (hK.c (by decide)) (vx_c (hK.d (by decide)) (vx_c (hK.d (by decide)) (vx_c (hK.d (by decide)) vx_n))))) (by decide +kernel) hK hP hS hl.1 hml dX1_sort_15 dX1_sort_18 dX1_sort_19 dX1_sort_21 dX1_sort_24 hno (Nat.le_of_ble_eq_true rfl) (Nat.le_of_ble_eq_true rfl) (Nat.le_of_ble_eq_true rfl) (Nat.le_of_ble_eq_true rfl) hlocks (Or.inr (Or.inl ⟨rfl, ⟨k1, hk1k, hk1e⟩, fun z => c12 z.2⟩)) (Nat.le_of_ble_eq_true rfl) (Nat.le_of_ble_eq_true rfl)
theorem wxX1_limits_35 : ∀ w ∈ (vx_atS RX1 35 "java/lang/IllegalStateException" ["java/lang/RuntimeException", "java/lang/Exception"]).filter goodWord, w ∈ wsX1_limits := fun w h => by
  simp only [wsX1_limits, List.mem_cons, List.mem_append, h, or_true, true_or]
set_option maxHeartbeats 4000000 in
set_option maxRecDepth 100000 in
/-- limits -/
theorem mtX1_limits (l : Launch) (hl0 : l.stackTraces = false) (E : Ev) (hok : e_ok E) (σ : Mem) (o : Nat → Int64) (x a b d : Int32) : vx_Met l yX1_limits wsX1_limits ({ frames := 7, cells := 5, slots := 30, locals := 111 } : Room) (PW E σ o [.ref (e_a E (0)), .int (x), .int (a), .int (b), .int (d)]) (va_Qi (fun (r : Int32) (σ' : Mem) => ∃ k : Nat, k < 8 ∧ x = nI k ∧ okW a ∧ okW b ∧ okG d ∧ hd b a 1 = 0 ∧ r = n3 a b d ∧ σ' = m_lim σ k a b d) (BW E o) (LB (e_B E))) (XW E σ o (fun u => (u = xIO ∧ ¬ isCh x) ∨ (u = xIA ∧ isCh x ∧ ¬ (okW a ∧ okW b ∧ okG d)) ∨ (u = xIS ∧ isCh x ∧ (okW a ∧ okW b ∧ okG d) ∧ hd b a 1 ≠ 0))) 5 30 (LB (e_B E)) := by
  refine vx_ofW (cc := cX1_limits) (maxL := 6) (ret := (some .int)) (by decide) rfl ?_
  intro p e s m args below meth c s₁ B hml hno hv
  obtain ⟨rfl, hP, hK⟩ := hv
  have hx := B.exec
  have hb := B.bytes
  have hr := B.returns
  have hts := atoms_spec (ws := wsX1_limits) B.pre
  have hown : s.vm.findClass RX1 = some m.cls := findClass_of_methodNamed B.named
  have hlocks := B.notSynchronized
  have hS : va_S (LB (e_B E)) s.heap s.heap [] := va_S.rf
  have hinX0 : ∀ w ∈ wsX00, w ∈ wsX1_limits := fun w h => by simp only [wsX1_limits, List.mem_cons, List.mem_append, h, or_true, true_or]
  have hf52 := hts (.fieldLink RX1 52 "ParcelChutes$Chute" "low" "I") (by decide +kernel)
  have hf55 := hts (.fieldLink RX1 55 "ParcelChutes$Chute" "high" "I") (by decide +kernel)
  have hf58 := hts (.fieldLink RX1 58 "ParcelChutes$Chute" "wide" "I") (by decide +kernel)
  have hl := lv_entry ([.ref (e_a E (0)), .int (x), .int (a), .int (b), .int (d)]) (n := 6) (Nat.le_of_ble_eq_true rfl)
  rw [lg_entry_eq]
  generalize (lg_sl ([.ref (e_a E (0)), .int (x), .int (a), .int (b), .int (d)]) ++ List.replicate (6 - (lg_sl ([.ref (e_a E (0)), .int (x), .int (a), .int (b), .int (d)])).length) Slot.unset).toArray = ls at hl ⊢
  have hl : lv_has ls 6 [(0, .ref (e_a E (0))), (1, .int (x)), (2, .int (a)), (3, .int (b)), (4, .int (d))] := hl
  refine lv_aload_n hx hb dX1_limits_0 rfl (lv_at hl 0 rfl) ?_
  refine lv_iload_n hx hb dX1_limits_1 rfl (lv_at hl 1 rfl) ?_
  refine x_Vc (As := [.int (x)]) (rest := []) ⟨hx, hb, hml, hown, hts⟩ (mtX1_chuteAt l hl0 E hok σ o x) (cwV 1 hts gX1_limits_X1_chuteAt rfl rfl rfl (by decide +kernel) ⟨Nat.le_of_ble_eq_true rfl, Nat.le_of_ble_eq_true rfl⟩) (va_recv hK.K hP (ci := 1) (q0 := 0) rfl at_0) hno hlocks hK hP hS rfl hl.1 rfl (Nat.le_of_ble_eq_true rfl) dX1_limits_2 ⟨Nat.le_of_ble_eq_true rfl, Nat.le_of_ble_eq_true rfl⟩ (fun u h => Or.inl h) ⟨Nat.le_of_ble_eq_true rfl, Nat.le_of_ble_eq_true rfl⟩ (fun k1 H locs hk1 hP hS => ?_)
  obtain ⟨hk1k, hk1e⟩ := hk1
  refine lv_astore (lv' := [(5, .ref (e_a E (k1 + 2))), (0, .ref (e_a E (0))), (1, .int (x)), (2, .int (a)), (3, .int (b)), (4, .int (d))]) hx hb dX1_limits_5 hl (by decide) rfl (fun ls hl => ?_)
  refine lv_iload_n hx hb dX1_limits_7 rfl (lv_at hl 3 rfl) ?_
  refine x_Sv (As := [.int (a)]) (rest := []) ⟨hx, hb, hml, hown, hts⟩ (mtX1_requireWeight l hl0 E hok σ o a) (va_cwS 1 hts gX1_limits_X1_requireWeight rfl rfl rfl (by decide +kernel) ⟨Nat.le_of_ble_eq_true rfl, Nat.le_of_ble_eq_true rfl⟩) hno hlocks hK hP hS rfl hl.1 rfl (Nat.le_of_ble_eq_true rfl) dX1_limits_8 ⟨Nat.le_of_ble_eq_true rfl, Nat.le_of_ble_eq_true rfl⟩ (fun u h => Or.inr (Or.inl ⟨h.1, ⟨k1, hk1k, hk1e⟩, fun z => h.2 z.1⟩)) ⟨Nat.le_of_ble_eq_true rfl, Nat.le_of_ble_eq_true rfl⟩ (fun σ_2 H locs hσ_2 hP hS => ?_)
  obtain ⟨hσ_2a, ehσ_2⟩ := hσ_2
  rw [ehσ_2] at hP
  refine lv_iload_n hx hb dX1_limits_11 rfl (lv_at hl 4 rfl) ?_
  refine x_Sv (As := [.int (b)]) (rest := []) ⟨hx, hb, hml, hown, hts⟩ (mtX1_requireWeight l hl0 E hok σ o b) (va_cwS 1 hts gX1_limits_X1_requireWeight rfl rfl rfl (by decide +kernel) ⟨Nat.le_of_ble_eq_true rfl, Nat.le_of_ble_eq_true rfl⟩) hno hlocks hK hP hS rfl hl.1 rfl (Nat.le_of_ble_eq_true rfl) dX1_limits_12 ⟨Nat.le_of_ble_eq_true rfl, Nat.le_of_ble_eq_true rfl⟩ (fun u h => Or.inr (Or.inl ⟨h.1, ⟨k1, hk1k, hk1e⟩, fun z => h.2 z.2.1⟩)) ⟨Nat.le_of_ble_eq_true rfl, Nat.le_of_ble_eq_true rfl⟩ (fun σ_3 H locs hσ_3 hP hS => ?_)
  obtain ⟨hσ_3a, ehσ_3⟩ := hσ_3
  rw [ehσ_3] at hP
  refine lv_iload hx hb dX1_limits_15 (lv_at hl 5 rfl) ?_
  refine x_Sv (As := [.int (d)]) (rest := []) ⟨hx, hb, hml, hown, hts⟩ (mtX1_requireGirth l hl0 E hok σ o d) (va_cwS 1 hts gX1_limits_X1_requireGirth rfl rfl rfl (by decide +kernel) ⟨Nat.le_of_ble_eq_true rfl, Nat.le_of_ble_eq_true rfl⟩) hno hlocks hK hP hS rfl hl.1 rfl (Nat.le_of_ble_eq_true rfl) dX1_limits_17 ⟨Nat.le_of_ble_eq_true rfl, Nat.le_of_ble_eq_true rfl⟩ (fun u h => Or.inr (Or.inl ⟨h.1, ⟨k1, hk1k, hk1e⟩, fun z => h.2 z.2.2⟩)) ⟨Nat.le_of_ble_eq_true rfl, Nat.le_of_ble_eq_true rfl⟩ (fun σ_4 H locs hσ_4 hP hS => ?_)
  obtain ⟨hσ_4a, ehσ_4⟩ := hσ_4
  rw [ehσ_4] at hP
  refine lv_iload_n hx hb dX1_limits_20 rfl (lv_at hl 4 rfl) ?_
  refine lv_iconst (v := 1) hx hb dX1_limits_21 (by decide) ?_
  refine lv_iload_n hx hb dX1_limits_22 rfl (lv_at hl 3 rfl) ?_
  refine k_Si (As := [.int (b), .int (1), .int (a)]) (rest := []) ⟨hx, hb, hml, hown, hts⟩ (mtX1_holds l b 1 a) (va_cwS 3 hts gX1_limits_X1_holds rfl rfl rfl (by decide +kernel) ⟨Nat.le_of_ble_eq_true rfl, Nat.le_of_ble_eq_true rfl⟩) rfl hl.1 rfl (Nat.le_of_ble_eq_true rfl) dX1_limits_23 ⟨Nat.le_of_ble_eq_true rfl, Nat.le_of_ble_eq_true rfl⟩ (fun r5 er5 => ?_)
  subst er5
  refine lv_if_eq (tgt := 39) hx hb dX1_limits_26 (by decide) (fun c26 => ?_) (fun c26 => ?_)
  · skip
    refine lv_aload hx hb dX1_limits_39 (lv_at hl 0 rfl) ?_
    refine lv_iload_n hx hb dX1_limits_41 rfl (lv_at hl 3 rfl) ?_
    refine q_put (C := RX0) (T := TX0) (N := 8) (ci := 0) (ty := .int) (v := a) hx hb hts hinX0 tyX0 tyX0_ok nmX0 hown hok hK hP hS (at_ch hk1k) (by omega) rfl 4 (by decide) hf52 rfl (tyX0_ok 4 (by decide)) rfl rfl (Nat.le_of_ble_eq_true rfl) (by rw [wc_ch hk1k]; rfl) dX1_limits_42 (fun H locs hP hS => ?_)
    refine lv_aload hx hb dX1_limits_45 (lv_at hl 0 rfl) ?_
    refine lv_iload_n hx hb dX1_limits_47 rfl (lv_at hl 4 rfl) ?_
    refine q_put (C := RX0) (T := TX0) (N := 8) (ci := 0) (ty := .int) (v := b) hx hb hts hinX0 tyX0 tyX0_ok nmX0 hown hok hK hP hS (at_ch hk1k) (by omega) rfl 5 (by decide) hf55 rfl (tyX0_ok 5 (by decide)) rfl rfl (Nat.le_of_ble_eq_true rfl) (by rw [wc_ch hk1k]; rfl) dX1_limits_48 (fun H locs hP hS => ?_)
    refine lv_aload hx hb dX1_limits_51 (lv_at hl 0 rfl) ?_
    refine lv_iload hx hb dX1_limits_53 (lv_at hl 5 rfl) ?_
    refine q_put (C := RX0) (T := TX0) (N := 8) (ci := 0) (ty := .int) (v := d) hx hb hts hinX0 tyX0 tyX0_ok nmX0 hown hok hK hP hS (at_ch hk1k) (by omega) rfl 6 (by decide) hf58 rfl (tyX0_ok 6 (by decide)) rfl rfl (Nat.le_of_ble_eq_true rfl) (by rw [wc_ch hk1k]; rfl) dX1_limits_55 (fun H locs hP hS => ?_)
    refine lv_iload_n hx hb dX1_limits_58 rfl (lv_at hl 3 rfl) ?_
    refine cut_i (ls := ls) (pcj := 67) (rest := []) (P := fun v : Int32 => v = b1 a) ?_ (fun J67 => ?_)
    · intro v6 ev6
      subst ev6
      refine k_Si (As := [.int (b1 a)]) (rest := []) ⟨hx, hb, hml, hown, hts⟩ (mtX1_oneIf l (b1 a)) (va_cwS 1 hts gX1_limits_X1_oneIf rfl rfl rfl (by decide +kernel) ⟨Nat.le_of_ble_eq_true rfl, Nat.le_of_ble_eq_true rfl⟩) rfl hl.1 rfl (Nat.le_of_ble_eq_true rfl) dX1_limits_67 ⟨Nat.le_of_ble_eq_true rfl, Nat.le_of_ble_eq_true rfl⟩ (fun r7 er7 => ?_)
      subst er7
      refine lv_iload_n hx hb dX1_limits_70 rfl (lv_at hl 4 rfl) ?_
      refine cut_i (ls := ls) (pcj := 79) (rest := [.int (b1 (b1 a))]) (P := fun v : Int32 => v = b1 b) ?_ (fun J79 => ?_)
      · intro v8 ev8
        subst ev8
        refine k_Si (As := [.int (b1 b)]) (rest := [.int (b1 (b1 a))]) ⟨hx, hb, hml, hown, hts⟩ (mtX1_oneIf l (b1 b)) (va_cwS 1 hts gX1_limits_X1_oneIf rfl rfl rfl (by decide +kernel) ⟨Nat.le_of_ble_eq_true rfl, Nat.le_of_ble_eq_true rfl⟩) rfl hl.1 rfl (Nat.le_of_ble_eq_true rfl) dX1_limits_79 ⟨Nat.le_of_ble_eq_true rfl, Nat.le_of_ble_eq_true rfl⟩ (fun r9 er9 => ?_)
        subst er9
        refine lv_iadd hx hb dX1_limits_82 ?_
        refine lv_iload hx hb dX1_limits_83 (lv_at hl 5 rfl) ?_
        refine cut_i (ls := ls) (pcj := 93) (rest := [.int ((b1 (b1 a)) + (b1 (b1 b)))]) (P := fun v : Int32 => v = b1 d) ?_ (fun J93 => ?_)
        · intro v10 ev10
          subst ev10
          refine k_Si (As := [.int (b1 d)]) (rest := [.int ((b1 (b1 a)) + (b1 (b1 b)))]) ⟨hx, hb, hml, hown, hts⟩ (mtX1_oneIf l (b1 d)) (va_cwS 1 hts gX1_limits_X1_oneIf rfl rfl rfl (by decide +kernel) ⟨Nat.le_of_ble_eq_true rfl, Nat.le_of_ble_eq_true rfl⟩) rfl hl.1 rfl (Nat.le_of_ble_eq_true rfl) dX1_limits_93 ⟨Nat.le_of_ble_eq_true rfl, Nat.le_of_ble_eq_true rfl⟩ (fun r11 er11 => ?_)
          subst er11
          refine lv_iadd hx hb dX1_limits_96 ?_
          refine W.widen (k := 5) (n := 30) (Nat.le_of_ble_eq_true rfl) (Nat.le_of_ble_eq_true rfl) ?_
          exact vx_ret (r_i hx hb hr hlocks hP hS dX1_limits_97 ⟨k1, hk1k, hk1e, hσ_2a, hσ_3a, hσ_4a, c26, rfl, rfl⟩)
        refine lv_if_eq (tgt := 92) hx hb dX1_limits_85 (by decide) (fun c85 => ?_) (fun c85 => ?_)
        · skip
          refine lv_iconst (v := 0) hx hb dX1_limits_92 (by decide) ?_
          exact J93 _ (by simp [b1, hσ_2a, hσ_3a, hσ_4a, c26, c85])
        · skip
          refine lv_iconst (v := 1) hx hb dX1_limits_88 (by decide) ?_
          refine lv_goto (tgt := 93) hx hb dX1_limits_89 (by decide) ?_
          exact J93 _ (by simp [b1, hσ_2a, hσ_3a, hσ_4a, c26, c85])
      refine lv_if_eq (tgt := 78) hx hb dX1_limits_71 (by decide) (fun c71 => ?_) (fun c71 => ?_)
      · skip
        refine lv_iconst (v := 0) hx hb dX1_limits_78 (by decide) ?_
        exact J79 _ (by simp [b1, hσ_2a, hσ_3a, hσ_4a, c26, c71])
      · skip
        refine lv_iconst (v := 1) hx hb dX1_limits_74 (by decide) ?_
        refine lv_goto (tgt := 79) hx hb dX1_limits_75 (by decide) ?_
        exact J79 _ (by simp [b1, hσ_2a, hσ_3a, hσ_4a, c26, c71])
    refine lv_if_eq (tgt := 66) hx hb dX1_limits_59 (by decide) (fun c59 => ?_) (fun c59 => ?_)
    · skip
      refine lv_iconst (v := 0) hx hb dX1_limits_66 (by decide) ?_
      exact J67 _ (by simp [b1, hσ_2a, hσ_3a, hσ_4a, c26, c59])
    · skip
      refine lv_iconst (v := 1) hx hb dX1_limits_62 (by decide) ?_
      refine lv_goto (tgt := 67) hx hb dX1_limits_63 (by decide) ?_
      exact J67 _ (by simp [b1, hσ_2a, hσ_3a, hσ_4a, c26, c59])
  · skip
    exact x_throw hx hb hl0 (ik := 31) (is := 50) (ic := 35) hown (by decide +kernel) (hts (.classLink RX1 31 "java/lang/IllegalStateException") (by decide +kernel)) (hts (.initialized "java/lang/IllegalStateException") (by decide +kernel)) hK.s50 (vx_hat (B := [.castable "java/lang/IllegalStateException" "java/lang/IllegalStateException", .declares (Bundle.initS "java/lang/RuntimeException"), .declares (Bundle.initS "java/lang/Exception"), .declares (Bundle.initS "java/lang/Throwable")]) (fun w h => hts w (wxX1_limits_35 w h)) (by decide +kernel) (vx_c (hK.c (by decide)) (vx_c (hK.d (by decide)) (vx_c (hK.d (by decide)) (vx_c (hK.d (by decide)) vx_n))))) (by decide +kernel) hK hP hS hl.1 hml dX1_limits_29 dX1_limits_32 dX1_limits_33 dX1_limits_35 dX1_limits_38 hno (Nat.le_of_ble_eq_true rfl) (Nat.le_of_ble_eq_true rfl) (Nat.le_of_ble_eq_true rfl) (Nat.le_of_ble_eq_true rfl) hlocks (Or.inr (Or.inr ⟨rfl, ⟨k1, hk1k, hk1e⟩, ⟨hσ_2a, hσ_3a, hσ_4a⟩, c26⟩)) (Nat.le_of_ble_eq_true rfl) (Nat.le_of_ble_eq_true rfl)
set_option maxHeartbeats 4000000 in
set_option maxRecDepth 100000 in
/-- shut -/
theorem mtX1_shut (l : Launch) (hl0 : l.stackTraces = false) (E : Ev) (hok : e_ok E) (σ : Mem) (o : Nat → Int64) (x v : Int32) (hv : v = 0 ∨ v = 1) (hcl : ∀ k, k < 8 → σ (k + 2) 7 = 0 ∨ σ (k + 2) 7 = 1) : vx_Met l yX1_shut wsX1_shut ({ frames := 7, cells := 1, slots := 6, locals := 111 } : Room) (PW E σ o [.ref (e_a E (0)), .int (x), .int (v)]) (va_Qi (fun (r : Int32) (σ' : Mem) => ∃ k : Nat, k < 8 ∧ x = nI k ∧ r = σ (k + 2) 7 ∧ σ' = m_up σ (k + 2) 7 v) (BW E o) (LB (e_B E))) (XW E σ o (fun u => u = xIO ∧ ¬ isCh x)) 1 6 (LB (e_B E)) := by
  refine vx_ofW (cc := cX1_shut) (maxL := 5) (ret := (some .boolean)) (by decide) rfl ?_
  intro p e s m args below meth c s₁ B hml hno hv
  obtain ⟨rfl, hP, hK⟩ := hv
  have hx := B.exec
  have hb := B.bytes
  have hr := B.returns
  have hts := atoms_spec (ws := wsX1_shut) B.pre
  have hown : s.vm.findClass RX1 = some m.cls := findClass_of_methodNamed B.named
  have hlocks := B.notSynchronized
  have hS : va_S (LB (e_B E)) s.heap s.heap [] := va_S.rf
  have hinX0 : ∀ w ∈ wsX00, w ∈ wsX1_shut := fun w h => by simp only [wsX1_shut, List.mem_cons, List.mem_append, h, or_true, true_or]
  have hf65 := hts (.fieldLink RX1 65 "ParcelChutes$Chute" "closed" "Z") (by decide +kernel)
  have hl := lv_entry ([.ref (e_a E (0)), .int (x), .int (v)]) (n := 5) (Nat.le_of_ble_eq_true rfl)
  rw [lg_entry_eq]
  generalize (lg_sl ([.ref (e_a E (0)), .int (x), .int (v)]) ++ List.replicate (5 - (lg_sl ([.ref (e_a E (0)), .int (x), .int (v)])).length) Slot.unset).toArray = ls at hl ⊢
  have hl : lv_has ls 5 [(0, .ref (e_a E (0))), (1, .int (x)), (2, .int (v))] := hl
  refine lv_aload_n hx hb dX1_shut_0 rfl (lv_at hl 0 rfl) ?_
  refine lv_iload_n hx hb dX1_shut_1 rfl (lv_at hl 1 rfl) ?_
  refine x_Vc (As := [.int (x)]) (rest := []) ⟨hx, hb, hml, hown, hts⟩ (mtX1_chuteAt l hl0 E hok σ o x) (cwV 1 hts gX1_shut_X1_chuteAt rfl rfl rfl (by decide +kernel) ⟨Nat.le_of_ble_eq_true rfl, Nat.le_of_ble_eq_true rfl⟩) (va_recv hK.K hP (ci := 1) (q0 := 0) rfl at_0) hno hlocks hK hP hS rfl hl.1 rfl (Nat.le_of_ble_eq_true rfl) dX1_shut_2 ⟨Nat.le_of_ble_eq_true rfl, Nat.le_of_ble_eq_true rfl⟩ (fun u h => h) ⟨Nat.le_of_ble_eq_true rfl, Nat.le_of_ble_eq_true rfl⟩ (fun k1 H locs hk1 hP hS => ?_)
  obtain ⟨hk1k, hk1e⟩ := hk1
  refine lv_astore_n (lv' := [(3, .ref (e_a E (k1 + 2))), (0, .ref (e_a E (0))), (1, .int (x)), (2, .int (v))]) hx hb dX1_shut_5 rfl hl (by decide) rfl (fun ls hl => ?_)
  refine lv_aload_n hx hb dX1_shut_6 rfl (lv_at hl 0 rfl) ?_
  refine q_get (C := RX0) (T := TX0) (N := 8) (ci := 0) (v := .int (σ (k1 + 2) 7)) hx hb hts hinX0 hown hK hP (at_ch hk1k) rfl 7 (by decide) hf65 rfl dX1_shut_7 ?_
  refine lv_istore (lv' := [(4, .int (σ (k1 + 2) 7)), (3, .ref (e_a E (k1 + 2))), (0, .ref (e_a E (0))), (1, .int (x)), (2, .int (v))]) hx hb dX1_shut_10 hl (by decide) rfl (fun ls hl => ?_)
  refine lv_aload_n hx hb dX1_shut_12 rfl (lv_at hl 1 rfl) ?_
  refine lv_iload_n hx hb dX1_shut_13 rfl (lv_at hl 4 rfl) ?_
  refine q_put (C := RX0) (T := TX0) (N := 8) (ci := 0) (ty := .boolean) (v := v) hx hb hts hinX0 tyX0 tyX0_ok nmX0 hown hok hK hP hS (at_ch hk1k) (by omega) rfl 7 (by decide) hf65 rfl (tyX0_ok 7 (by decide)) (by rcases hv with h | h <;> rw [h] <;> rfl) (by rcases hv with h | h <;> rw [h] <;> rfl) (Nat.le_of_ble_eq_true rfl) (by rw [wc_ch hk1k]; rfl) dX1_shut_14 (fun H locs hP hS => ?_)
  refine lv_iload hx hb dX1_shut_17 (lv_at hl 0 rfl) ?_
  refine W.widen (k := 1) (n := 6) (Nat.le_of_ble_eq_true rfl) (Nat.le_of_ble_eq_true rfl) ?_
  exact vx_ret (r_z hx hb hr hlocks (by first | rfl | (rcases hcl _ hk1k with h | h <;> rw [h] <;> rfl)) hP hS dX1_shut_19 ⟨k1, hk1k, hk1e, rfl, rfl⟩)
set_option maxHeartbeats 4000000 in
set_option maxRecDepth 100000 in
/-- send -/
theorem mtX1_send (l : Launch) (hl0 : l.stackTraces = false) (E : Ev) (hok : e_ok E) (σ : Mem) (o : Nat → Int64) (w g : Int32) (N : Nat → Nat) (hN : okN σ N) : vx_Met l yX1_send wsX1_send ({ frames := 7, cells := 2, slots := 12, locals := 110 } : Room) (PW E σ o [.ref (e_a E (0)), .int (w), .int (g)]) (va_Qi (fun (r : Int32) (σ' : Mem) => (okW w ∧ okG g) ∧ ((∃ i : Nat, i < 8 ∧ r = nI i ∧ takes (rgC σ w g) N w g i ∧ (∀ a, a < i → ¬ takes (rgC σ w g) N w g a) ∧ ∃ q : Nat, plq (rgC σ w g) i (N i) w q ∧ σ' = m_ins (rgC σ w g) i q (N i) w g) ∨ (r = -1 ∧ (∀ a, a < 8 → ¬ takes (rgC σ w g) N w g a) ∧ σ' = asC (rgC σ w g) w g))) (BW E o) (LB (e_B E))) (XW E σ o (fun u => u = xIA ∧ ¬ (okW w ∧ okG g))) 2 12 (LB (e_B E)) := by
  refine vx_ofW (cc := cX1_send) (maxL := 4) (ret := (some .int)) (by decide) rfl ?_
  intro p e s m args below meth c s₁ B hml hno hv
  obtain ⟨rfl, hP, hK⟩ := hv
  have hx := B.exec
  have hb := B.bytes
  have hr := B.returns
  have hts := atoms_spec (ws := wsX1_send) B.pre
  have hown : s.vm.findClass RX1 = some m.cls := findClass_of_methodNamed B.named
  have hlocks := B.notSynchronized
  have hS : va_S (LB (e_B E)) s.heap s.heap [] := va_S.rf
  have hinX0 : ∀ w ∈ wsX00, w ∈ wsX1_send := fun w h => by simp only [wsX1_send, List.mem_cons, List.mem_append, h, or_true, true_or]
  have hinX1 : ∀ w ∈ wsX10, w ∈ wsX1_send := fun w h => by simp only [wsX1_send, List.mem_cons, List.mem_append, h, or_true, true_or]
  have hf11 := hts (.fieldLink RX1 11 "ParcelChutes" "chutes" "[LParcelChutes$Chute;") (by decide +kernel)
  have hf65 := hts (.fieldLink RX1 65 "ParcelChutes$Chute" "closed" "Z") (by decide +kernel)
  have hl := lv_entry ([.ref (e_a E (0)), .int (w), .int (g)]) (n := 4) (Nat.le_of_ble_eq_true rfl)
  rw [lg_entry_eq]
  generalize (lg_sl ([.ref (e_a E (0)), .int (w), .int (g)]) ++ List.replicate (4 - (lg_sl ([.ref (e_a E (0)), .int (w), .int (g)])).length) Slot.unset).toArray = ls at hl ⊢
  have hl : lv_has ls 4 [(0, .ref (e_a E (0))), (1, .int (w)), (2, .int (g))] := hl
  refine lv_iload_n hx hb dX1_send_0 rfl (lv_at hl 1 rfl) ?_
  refine x_Sv (As := [.int (w)]) (rest := []) ⟨hx, hb, hml, hown, hts⟩ (mtX1_requireWeight l hl0 E hok σ o w) (va_cwS 1 hts gX1_send_X1_requireWeight rfl rfl rfl (by decide +kernel) ⟨Nat.le_of_ble_eq_true rfl, Nat.le_of_ble_eq_true rfl⟩) hno hlocks hK hP hS rfl hl.1 rfl (Nat.le_of_ble_eq_true rfl) dX1_send_1 ⟨Nat.le_of_ble_eq_true rfl, Nat.le_of_ble_eq_true rfl⟩ (fun u h => ⟨h.1, fun z => h.2 z.1⟩) ⟨Nat.le_of_ble_eq_true rfl, Nat.le_of_ble_eq_true rfl⟩ (fun σ_1 H locs hσ_1 hP hS => ?_)
  obtain ⟨hσ_1a, ehσ_1⟩ := hσ_1
  rw [ehσ_1] at hP
  refine lv_iload_n hx hb dX1_send_4 rfl (lv_at hl 2 rfl) ?_
  refine x_Sv (As := [.int (g)]) (rest := []) ⟨hx, hb, hml, hown, hts⟩ (mtX1_requireGirth l hl0 E hok σ o g) (va_cwS 1 hts gX1_send_X1_requireGirth rfl rfl rfl (by decide +kernel) ⟨Nat.le_of_ble_eq_true rfl, Nat.le_of_ble_eq_true rfl⟩) hno hlocks hK hP hS rfl hl.1 rfl (Nat.le_of_ble_eq_true rfl) dX1_send_5 ⟨Nat.le_of_ble_eq_true rfl, Nat.le_of_ble_eq_true rfl⟩ (fun u h => ⟨h.1, fun z => h.2 z.2⟩) ⟨Nat.le_of_ble_eq_true rfl, Nat.le_of_ble_eq_true rfl⟩ (fun σ_2 H locs hσ_2 hP hS => ?_)
  obtain ⟨hσ_2a, ehσ_2⟩ := hσ_2
  rw [ehσ_2] at hP
  refine lv_aload_n hx hb dX1_send_8 rfl (lv_at hl 0 rfl) ?_
  refine lv_iload_n hx hb dX1_send_9 rfl (lv_at hl 1 rfl) ?_
  refine lv_iload_n hx hb dX1_send_10 rfl (lv_at hl 2 rfl) ?_
  refine k_Vv (As := [.int (w), .int (g)]) (rest := []) ⟨hx, hb, hml, hown, hts⟩ (mtX1_readGauges l E hok σ o w g) (cwV 2 hts gX1_send_X1_readGauges rfl rfl rfl (by decide +kernel) ⟨Nat.le_of_ble_eq_true rfl, Nat.le_of_ble_eq_true rfl⟩) (va_recv hK.K hP (ci := 1) (q0 := 0) rfl at_0) hK hP hS rfl hl.1 rfl (Nat.le_of_ble_eq_true rfl) dX1_send_11 ⟨Nat.le_of_ble_eq_true rfl, Nat.le_of_ble_eq_true rfl⟩ (fun σ_3 H locs hσ_3 hP hS => ?_)
  subst hσ_3
  refine lv_iconst (v := 0) hx hb dX1_send_14 (by decide) ?_
  refine lv_istore_n (lv' := [(3, .int (0)), (0, .ref (e_a E (0))), (1, .int (w)), (2, .int (g))]) hx hb dX1_send_15 rfl hl (by decide) rfl (fun ls hl => ?_)
  have hN1 := okN_rgC hN w g
  refine w_loop (E := E) (o := o) (ι := Nat) (μ := fun i => 8 - i) (I := fun i => i ≤ 8 ∧ ∀ a, a < i → ¬ takes (rgC σ w g) N w g a) (mem := fun i => rgC σ w g) (lv := fun i => [(3, .int (nI (i))), (0, .ref (e_a E (0))), (1, .int (w)), (2, .int (g))]) (nL := 4) (pch := 16) ?_ (0) (show (0) ≤ 8 ∧ ∀ a, a < (0) → ¬ takes (rgC σ w g) N w g a from ⟨Nat.zero_le _, fun a h => absurd h (Nat.not_lt_zero a)⟩) hP hS (lv_sub hl [0, 1, 2, 3] rfl)
  rintro i hI IH H locs ls hP hS hl
  have hP : va_P (e_D E) vwCl (wd E (rgC σ w g) o) H := hP
  have hl : lv_has ls 4 [(3, .int (nI (i))), (0, .ref (e_a E (0))), (1, .int (w)), (2, .int (g))] := hl
  have hI : i ≤ 8 ∧ ∀ a, a < i → ¬ takes (rgC σ w g) N w g a := hI
  refine lv_iload_n hx hb dX1_send_16 rfl (lv_at hl 0 rfl) ?_
  refine lv_bipush (v := 8) hx hb dX1_send_17 (by decide) ?_
  refine nb_ge (i := i) (j := 8) hx hb rfl rfl (by omega) (by omega) dX1_send_19 (tgt := 56) (by decide) (fun c19 => ?_) (fun c19 => ?_)
  · skip
    refine lv_aload_n hx hb dX1_send_56 rfl (lv_at hl 1 rfl) ?_
    refine lv_iload_n hx hb dX1_send_57 rfl (lv_at hl 2 rfl) ?_
    refine lv_iload_n hx hb dX1_send_58 rfl (lv_at hl 3 rfl) ?_
    refine k_Vv (As := [.int (w), .int (g)]) (rest := []) ⟨hx, hb, hml, hown, hts⟩ (mtX1_putAside l E hok (rgC σ w g) o w g) (cwV 2 hts gX1_send_X1_putAside rfl rfl rfl (by decide +kernel) ⟨Nat.le_of_ble_eq_true rfl, Nat.le_of_ble_eq_true rfl⟩) (va_recv hK.K hP (ci := 1) (q0 := 0) rfl at_0) hK hP hS rfl hl.1 rfl (Nat.le_of_ble_eq_true rfl) dX1_send_59 ⟨Nat.le_of_ble_eq_true rfl, Nat.le_of_ble_eq_true rfl⟩ (fun σ_4 H locs hσ_4 hP hS => ?_)
    subst hσ_4
    refine lv_iconst (v := (-1)) hx hb dX1_send_62 (by decide) ?_
    refine W.widen (k := 2) (n := 12) (Nat.le_of_ble_eq_true rfl) (Nat.le_of_ble_eq_true rfl) ?_
    exact vx_ret (r_i hx hb hr hlocks hP hS dX1_send_63 ⟨⟨hσ_1a, hσ_2a⟩, Or.inr ⟨rfl, fun a h => hI.2 a (by omega), rfl⟩⟩)
  · skip
    refine lv_aload_n hx hb dX1_send_22 rfl (lv_at hl 1 rfl) ?_
    refine q_get (C := RX1) (T := TX1) (N := 10) (ci := 1) (v := .ref (e_a E (1))) hx hb hts hinX1 hown hK hP at_0 rfl 0 (by decide) hf11 rfl dX1_send_23 ?_
    refine lv_iload_n hx hb dX1_send_26 rfl (lv_at hl 0 rfl) ?_
    refine q_chld hx hb hK hP (i := i) rfl (by omega) dX1_send_27 ?_
    refine q_get (C := RX0) (T := TX0) (N := 8) (ci := 0) (v := .int ((rgC σ w g) (i + 2) 7)) hx hb hts hinX0 hown hK hP (at_ch (by omega)) rfl 7 (by decide) hf65 rfl dX1_send_28 ?_
    refine lv_if_ne (tgt := 50) hx hb dX1_send_31 (by decide) (fun c31 => ?_) (fun c31 => ?_)
    · skip
      refine lv_iinc (v := nI (i + 1)) (lv' := [(3, .int (nI (i + 1))), (0, .ref (e_a E (0))), (1, .int (w)), (2, .int (g))]) hx hb dX1_send_50 hl (k := 0) rfl (by exact nI_add (i) 1) (by decide) rfl (fun ls hl => ?_)
      refine lv_goto (tgt := 16) hx hb dX1_send_53 (by decide) ?_
      exact IH (i + 1) (show (i + 1) ≤ 8 ∧ ∀ a, a < (i + 1) → ¬ takes (rgC σ w g) N w g a from ⟨by omega, lt_s hI.2 (fun z => c31 z.1)⟩) (by (try dsimp only); omega) _ _ _ hP hS (lv_sub hl [0, 1, 2, 3] rfl)
    · skip
      refine lv_aload_n hx hb dX1_send_34 rfl (lv_at hl 1 rfl) ?_
      refine q_get (C := RX1) (T := TX1) (N := 10) (ci := 1) (v := .ref (e_a E (1))) hx hb hts hinX1 hown hK hP at_0 rfl 0 (by decide) hf11 rfl dX1_send_35 ?_
      refine lv_iload_n hx hb dX1_send_38 rfl (lv_at hl 0 rfl) ?_
      refine q_chld hx hb hK hP (i := i) rfl (by omega) dX1_send_39 ?_
      refine lv_iload_n hx hb dX1_send_40 rfl (lv_at hl 2 rfl) ?_
      refine lv_iload_n hx hb dX1_send_41 rfl (lv_at hl 3 rfl) ?_
      refine k_Vi (As := [.int (w), .int (g)]) (rest := []) ⟨hx, hb, hml, hown, hts⟩ (mtX0_letIn l E hok (rgC σ w g) o i (by omega) (N i) (hN1 i (by omega)).1 (hN1 i (by omega)).2 w g) (cwV 2 hts gX1_send_X0_letIn rfl rfl rfl (by decide +kernel) ⟨Nat.le_of_ble_eq_true rfl, Nat.le_of_ble_eq_true rfl⟩) (va_recv hK.K hP (ci := 0) (q0 := i + 2) rfl (at_ch (by omega))) hK hP hS rfl hl.1 rfl (Nat.le_of_ble_eq_true rfl) dX1_send_42 ⟨Nat.le_of_ble_eq_true rfl, Nat.le_of_ble_eq_true rfl⟩ (fun r5 σ_6 H locs hr5 hP hS => ?_)
      rcases hr5 with ⟨rfl, ehr5, hnohr5⟩ | ⟨rfl, hlthr5, hfthr5, qhr5, hqhr5, ehr5⟩
      · skip
        rw [ehr5] at hP
        refine lv_if_eq (tgt := 50) hx hb dX1_send_45 (by decide) (fun c45 => ?_) (fun c45 => ?_)
        rotate_left
        · exact absurd c45 (fun h => h rfl)
        refine lv_iinc (v := nI (i + 1)) (lv' := [(3, .int (nI (i + 1))), (0, .ref (e_a E (0))), (1, .int (w)), (2, .int (g))]) hx hb dX1_send_50 hl (k := 0) rfl (by exact nI_add (i) 1) (by decide) rfl (fun ls hl => ?_)
        refine lv_goto (tgt := 16) hx hb dX1_send_53 (by decide) ?_
        exact IH (i + 1) (show (i + 1) ≤ 8 ∧ ∀ a, a < (i + 1) → ¬ takes (rgC σ w g) N w g a from ⟨by omega, lt_s hI.2 (fun z => hnohr5.elim (fun q => absurd z.2.1 (by omega)) (fun q => z.2.2 q))⟩) (by (try dsimp only); omega) _ _ _ hP hS (lv_sub hl [0, 1, 2, 3] rfl)
      · skip
        rw [ehr5] at hP
        refine lv_if_eq (tgt := 50) hx hb dX1_send_45 (by decide) (fun c45 => ?_) (fun c45 => ?_)
        · exact absurd c45 (by decide)
        refine lv_iload_n hx hb dX1_send_48 rfl (lv_at hl 0 rfl) ?_
        refine W.widen (k := 2) (n := 12) (Nat.le_of_ble_eq_true rfl) (Nat.le_of_ble_eq_true rfl) ?_
        exact vx_ret (r_i hx hb hr hlocks hP hS dX1_send_49 ⟨⟨hσ_1a, hσ_2a⟩, Or.inl ⟨i, by omega, rfl, ⟨c31, hlthr5, hfthr5⟩, hI.2, qhr5, hqhr5, rfl⟩⟩)
set_option maxHeartbeats 4000000 in
set_option maxRecDepth 100000 in
/-- fits -/
theorem mtX1_fits (l : Launch) (hl0 : l.stackTraces = false) (E : Ev) (hok : e_ok E) (σ : Mem) (o : Nat → Int64) (w g : Int32) : vx_Met l yX1_fits wsX1_fits ({ frames := 7, cells := 2, slots := 12, locals := 110 } : Room) (PW E σ o [.ref (e_a E (0)), .int (w), .int (g)]) (va_Qi (fun (r : Int32) (σ' : Mem) => (okW w ∧ okG g) ∧ r = ftb σ w g 8 ∧ σ' = σ) (BW E o) (LB (e_B E))) (XW E σ o (fun u => u = xIA ∧ ¬ (okW w ∧ okG g))) 2 12 (LB (e_B E)) := by
  refine vx_ofW (cc := cX1_fits) (maxL := 5) (ret := (some .int)) (by decide) rfl ?_
  intro p e s m args below meth c s₁ B hml hno hv
  obtain ⟨rfl, hP, hK⟩ := hv
  have hx := B.exec
  have hb := B.bytes
  have hr := B.returns
  have hts := atoms_spec (ws := wsX1_fits) B.pre
  have hown : s.vm.findClass RX1 = some m.cls := findClass_of_methodNamed B.named
  have hlocks := B.notSynchronized
  have hS : va_S (LB (e_B E)) s.heap s.heap [] := va_S.rf
  have hinX1 : ∀ w ∈ wsX10, w ∈ wsX1_fits := fun w h => by simp only [wsX1_fits, List.mem_cons, List.mem_append, h, or_true, true_or]
  have hf11 := hts (.fieldLink RX1 11 "ParcelChutes" "chutes" "[LParcelChutes$Chute;") (by decide +kernel)
  have hl := lv_entry ([.ref (e_a E (0)), .int (w), .int (g)]) (n := 5) (Nat.le_of_ble_eq_true rfl)
  rw [lg_entry_eq]
  generalize (lg_sl ([.ref (e_a E (0)), .int (w), .int (g)]) ++ List.replicate (5 - (lg_sl ([.ref (e_a E (0)), .int (w), .int (g)])).length) Slot.unset).toArray = ls at hl ⊢
  have hl : lv_has ls 5 [(0, .ref (e_a E (0))), (1, .int (w)), (2, .int (g))] := hl
  refine lv_iload_n hx hb dX1_fits_0 rfl (lv_at hl 1 rfl) ?_
  refine x_Sv (As := [.int (w)]) (rest := []) ⟨hx, hb, hml, hown, hts⟩ (mtX1_requireWeight l hl0 E hok σ o w) (va_cwS 1 hts gX1_fits_X1_requireWeight rfl rfl rfl (by decide +kernel) ⟨Nat.le_of_ble_eq_true rfl, Nat.le_of_ble_eq_true rfl⟩) hno hlocks hK hP hS rfl hl.1 rfl (Nat.le_of_ble_eq_true rfl) dX1_fits_1 ⟨Nat.le_of_ble_eq_true rfl, Nat.le_of_ble_eq_true rfl⟩ (fun u h => ⟨h.1, fun z => h.2 z.1⟩) ⟨Nat.le_of_ble_eq_true rfl, Nat.le_of_ble_eq_true rfl⟩ (fun σ_1 H locs hσ_1 hP hS => ?_)
  obtain ⟨hσ_1a, ehσ_1⟩ := hσ_1
  rw [ehσ_1] at hP
  refine lv_iload_n hx hb dX1_fits_4 rfl (lv_at hl 2 rfl) ?_
  refine x_Sv (As := [.int (g)]) (rest := []) ⟨hx, hb, hml, hown, hts⟩ (mtX1_requireGirth l hl0 E hok σ o g) (va_cwS 1 hts gX1_fits_X1_requireGirth rfl rfl rfl (by decide +kernel) ⟨Nat.le_of_ble_eq_true rfl, Nat.le_of_ble_eq_true rfl⟩) hno hlocks hK hP hS rfl hl.1 rfl (Nat.le_of_ble_eq_true rfl) dX1_fits_5 ⟨Nat.le_of_ble_eq_true rfl, Nat.le_of_ble_eq_true rfl⟩ (fun u h => ⟨h.1, fun z => h.2 z.2⟩) ⟨Nat.le_of_ble_eq_true rfl, Nat.le_of_ble_eq_true rfl⟩ (fun σ_2 H locs hσ_2 hP hS => ?_)
  obtain ⟨hσ_2a, ehσ_2⟩ := hσ_2
  rw [ehσ_2] at hP
  refine lv_iconst (v := 0) hx hb dX1_fits_8 (by decide) ?_
  refine lv_istore_n (lv' := [(3, .int (0)), (0, .ref (e_a E (0))), (1, .int (w)), (2, .int (g))]) hx hb dX1_fits_9 rfl hl (by decide) rfl (fun ls hl => ?_)
  refine lv_iconst (v := 0) hx hb dX1_fits_10 (by decide) ?_
  refine lv_istore (lv' := [(4, .int (0)), (3, .int (0)), (0, .ref (e_a E (0))), (1, .int (w)), (2, .int (g))]) hx hb dX1_fits_11 hl (by decide) rfl (fun ls hl => ?_)
  refine w_loop (E := E) (o := o) (ι := Nat × Int32) (μ := fun (i, y) => 8 - i) (I := fun (i, y) => i ≤ 8 ∧ y = ftb σ w g i) (mem := fun _ => σ) (lv := fun (i, y) => [(4, .int (nI (i))), (3, .int (y)), (0, .ref (e_a E (0))), (1, .int (w)), (2, .int (g))]) (nL := 5) (pch := 13) ?_ ((0), (0)) (show (0) ≤ 8 ∧ (0) = ftb σ w g (0) from ⟨Nat.zero_le _, rfl⟩) hP hS (lv_sub hl [0, 1, 2, 3, 4] rfl)
  rintro ⟨i, y⟩ hI IH H locs ls hP hS hl
  have hP : va_P (e_D E) vwCl (wd E σ o) H := hP
  have hl : lv_has ls 5 [(4, .int (nI (i))), (3, .int (y)), (0, .ref (e_a E (0))), (1, .int (w)), (2, .int (g))] := hl
  have hI : i ≤ 8 ∧ y = ftb σ w g i := hI
  refine lv_iload hx hb dX1_fits_13 (lv_at hl 0 rfl) ?_
  refine lv_bipush (v := 8) hx hb dX1_fits_15 (by decide) ?_
  refine nb_ge (i := i) (j := 8) hx hb rfl rfl (by omega) (by omega) dX1_fits_17 (tgt := 48) (by decide) (fun c17 => ?_) (fun c17 => ?_)
  · skip
    refine lv_iload_n hx hb dX1_fits_48 rfl (lv_at hl 1 rfl) ?_
    refine W.widen (k := 2) (n := 12) (Nat.le_of_ble_eq_true rfl) (Nat.le_of_ble_eq_true rfl) ?_
    exact vx_ret (r_i hx hb hr hlocks hP hS dX1_fits_49 ⟨⟨hσ_1a, hσ_2a⟩, by rw [hI.2, show i = 8 by omega], rfl⟩)
  · skip
    refine lv_aload_n hx hb dX1_fits_20 rfl (lv_at hl 2 rfl) ?_
    refine q_get (C := RX1) (T := TX1) (N := 10) (ci := 1) (v := .ref (e_a E (1))) hx hb hts hinX1 hown hK hP at_0 rfl 0 (by decide) hf11 rfl dX1_fits_21 ?_
    refine lv_iload hx hb dX1_fits_24 (lv_at hl 0 rfl) ?_
    refine q_chld hx hb hK hP (i := i) rfl (by omega) dX1_fits_26 ?_
    refine lv_iload_n hx hb dX1_fits_27 rfl (lv_at hl 3 rfl) ?_
    refine lv_iload_n hx hb dX1_fits_28 rfl (lv_at hl 4 rfl) ?_
    refine k_Vi (As := [.int (w), .int (g)]) (rest := []) ⟨hx, hb, hml, hown, hts⟩ (mtX0_suits l E hok σ o i (by omega) w g) (cwV 2 hts gX1_fits_X0_suits rfl rfl rfl (by decide +kernel) ⟨Nat.le_of_ble_eq_true rfl, Nat.le_of_ble_eq_true rfl⟩) (va_recv hK.K hP (ci := 0) (q0 := i + 2) rfl (at_ch (by omega))) hK hP hS rfl hl.1 rfl (Nat.le_of_ble_eq_true rfl) dX1_fits_29 ⟨Nat.le_of_ble_eq_true rfl, Nat.le_of_ble_eq_true rfl⟩ (fun r3 σ_4 H locs hr3 hP hS => ?_)
    obtain ⟨rfl, ehr3⟩ := hr3
    rw [ehr3] at hP
    refine lv_if_eq (tgt := 42) hx hb dX1_fits_32 (by decide) (fun c32 => ?_) (fun c32 => ?_)
    · skip
      refine lv_iinc (v := nI (i + 1)) (lv' := [(4, .int (nI (i + 1))), (3, .int (y)), (0, .ref (e_a E (0))), (1, .int (w)), (2, .int (g))]) hx hb dX1_fits_42 hl (k := 0) rfl (by exact nI_add (i) 1) (by decide) rfl (fun ls hl => ?_)
      refine lv_goto (tgt := 13) hx hb dX1_fits_45 (by decide) ?_
      exact IH ((i + 1), (y)) (show (i + 1) ≤ 8 ∧ (y) = ftb σ w g (i + 1) from ⟨by omega, by rw [hI.2]; simp [ftb, c32]⟩) (by (try dsimp only); omega) _ _ _ hP hS (lv_sub hl [0, 1, 2, 3, 4] rfl)
    · skip
      refine lv_iload_n hx hb dX1_fits_35 rfl (lv_at hl 1 rfl) ?_
      refine lv_iconst (v := 1) hx hb dX1_fits_36 (by decide) ?_
      refine lv_iload hx hb dX1_fits_37 (lv_at hl 0 rfl) ?_
      refine lv_ishl hx hb dX1_fits_39 ?_
      refine lv_ior hx hb dX1_fits_40 ?_
      refine lv_istore_n (lv' := [(3, .int (y ||| (1 <<< ((nI (i)) &&& 31)))), (4, .int (nI (i))), (0, .ref (e_a E (0))), (1, .int (w)), (2, .int (g))]) hx hb dX1_fits_41 rfl hl (by decide) rfl (fun ls hl => ?_)
      refine lv_iinc (v := nI (i + 1)) (lv' := [(4, .int (nI (i + 1))), (3, .int (y ||| (1 <<< ((nI (i)) &&& 31)))), (0, .ref (e_a E (0))), (1, .int (w)), (2, .int (g))]) hx hb dX1_fits_42 hl (k := 1) rfl (by exact nI_add (i) 1) (by decide) rfl (fun ls hl => ?_)
      refine lv_goto (tgt := 13) hx hb dX1_fits_45 (by decide) ?_
      exact IH ((i + 1), (y ||| (1 <<< ((nI (i)) &&& 31)))) (show (i + 1) ≤ 8 ∧ (y ||| (1 <<< ((nI (i)) &&& 31))) = ftb σ w g (i + 1) from ⟨by omega, by rw [hI.2]; simp [ftb, c32]⟩) (by (try dsimp only); omega) _ _ _ hP hS (lv_sub hl [0, 1, 2, 3, 4] rfl)
theorem wxX1_signs_24 : ∀ w ∈ (vx_atS RX1 24 "java/lang/IllegalArgumentException" ["java/lang/RuntimeException", "java/lang/Exception"]).filter goodWord, w ∈ wsX1_signs := fun w h => by
  simp only [wsX1_signs, List.mem_cons, List.mem_append, h, or_true, true_or]
set_option maxHeartbeats 4000000 in
set_option maxRecDepth 100000 in
/-- signs -/
theorem mtX1_signs (l : Launch) (hl0 : l.stackTraces = false) (E : Ev) (hok : e_ok E) (σ : Mem) (o : Nat → Int64) (x v z : Int32) : vx_Met l yX1_signs wsX1_signs ({ frames := 7, cells := 2, slots := 12, locals := 111 } : Room) (PW E σ o [.ref (e_a E (0)), .int (x), .int (v), .int (z)]) (va_Qi (fun (r : Int32) (σ' : Mem) => (∃ k : Nat, k < 8 ∧ x = nI k ∧ ((v = 0 ∧ okW z ∧ r = sg z (σ (k + 2) 4)) ∨ (v = 1 ∧ okW z ∧ r = sg z (σ (k + 2) 5)) ∨ (v = 2 ∧ okG z ∧ r = sg z (σ (k + 2) 6)))) ∧ σ' = σ) (BW E o) (LB (e_B E))) (XW E σ o (fun u => (u = xIO ∧ ¬ isCh x) ∨ (u = xIA ∧ isCh x ∧ ¬ ((v = 0 ∧ okW z) ∨ (v = 1 ∧ okW z) ∨ (v = 2 ∧ okG z))))) 2 12 (LB (e_B E)) := by
  refine vx_ofW (cc := cX1_signs) (maxL := 5) (ret := (some .int)) (by decide) rfl ?_
  intro p e s m args below meth c s₁ B hml hno hv
  obtain ⟨rfl, hP, hK⟩ := hv
  have hx := B.exec
  have hb := B.bytes
  have hr := B.returns
  have hts := atoms_spec (ws := wsX1_signs) B.pre
  have hown : s.vm.findClass RX1 = some m.cls := findClass_of_methodNamed B.named
  have hlocks := B.notSynchronized
  have hS : va_S (LB (e_B E)) s.heap s.heap [] := va_S.rf
  have hinX0 : ∀ w ∈ wsX00, w ∈ wsX1_signs := fun w h => by simp only [wsX1_signs, List.mem_cons, List.mem_append, h, or_true, true_or]
  have hf52 := hts (.fieldLink RX1 52 "ParcelChutes$Chute" "low" "I") (by decide +kernel)
  have hf55 := hts (.fieldLink RX1 55 "ParcelChutes$Chute" "high" "I") (by decide +kernel)
  have hf58 := hts (.fieldLink RX1 58 "ParcelChutes$Chute" "wide" "I") (by decide +kernel)
  have hl := lv_entry ([.ref (e_a E (0)), .int (x), .int (v), .int (z)]) (n := 5) (Nat.le_of_ble_eq_true rfl)
  rw [lg_entry_eq]
  generalize (lg_sl ([.ref (e_a E (0)), .int (x), .int (v), .int (z)]) ++ List.replicate (5 - (lg_sl ([.ref (e_a E (0)), .int (x), .int (v), .int (z)])).length) Slot.unset).toArray = ls at hl ⊢
  have hl : lv_has ls 5 [(0, .ref (e_a E (0))), (1, .int (x)), (2, .int (v)), (3, .int (z))] := hl
  refine lv_aload_n hx hb dX1_signs_0 rfl (lv_at hl 0 rfl) ?_
  refine lv_iload_n hx hb dX1_signs_1 rfl (lv_at hl 1 rfl) ?_
  refine x_Vc (As := [.int (x)]) (rest := []) ⟨hx, hb, hml, hown, hts⟩ (mtX1_chuteAt l hl0 E hok σ o x) (cwV 1 hts gX1_signs_X1_chuteAt rfl rfl rfl (by decide +kernel) ⟨Nat.le_of_ble_eq_true rfl, Nat.le_of_ble_eq_true rfl⟩) (va_recv hK.K hP (ci := 1) (q0 := 0) rfl at_0) hno hlocks hK hP hS rfl hl.1 rfl (Nat.le_of_ble_eq_true rfl) dX1_signs_2 ⟨Nat.le_of_ble_eq_true rfl, Nat.le_of_ble_eq_true rfl⟩ (fun u h => Or.inl h) ⟨Nat.le_of_ble_eq_true rfl, Nat.le_of_ble_eq_true rfl⟩ (fun k1 H locs hk1 hP hS => ?_)
  obtain ⟨hk1k, hk1e⟩ := hk1
  refine lv_astore (lv' := [(4, .ref (e_a E (k1 + 2))), (0, .ref (e_a E (0))), (1, .int (x)), (2, .int (v)), (3, .int (z))]) hx hb dX1_signs_5 hl (by decide) rfl (fun ls hl => ?_)
  refine lv_iload_n hx hb dX1_signs_7 rfl (lv_at hl 3 rfl) ?_
  by_cases k8_0 : v = 0
  · skip
    refine lv_tableIn (off := 28) (tgt := 36) hx hb dX1_signs_8 (by rw [k8_0]; decide) (by rw [k8_0]; decide) (by rw [k8_0]; rfl) (by decide) ?_
    refine lv_iload_n hx hb dX1_signs_36 rfl (lv_at hl 4 rfl) ?_
    refine x_Sv (As := [.int (z)]) (rest := []) ⟨hx, hb, hml, hown, hts⟩ (mtX1_requireWeight l hl0 E hok σ o z) (va_cwS 1 hts gX1_signs_X1_requireWeight rfl rfl rfl (by decide +kernel) ⟨Nat.le_of_ble_eq_true rfl, Nat.le_of_ble_eq_true rfl⟩) hno hlocks hK hP hS rfl hl.1 rfl (Nat.le_of_ble_eq_true rfl) dX1_signs_37 ⟨Nat.le_of_ble_eq_true rfl, Nat.le_of_ble_eq_true rfl⟩ (fun u h => Or.inr ⟨h.1, ⟨k1, hk1k, hk1e⟩, fun zz => zz.elim (fun q => h.2 q.2) (fun q => q.elim (fun q => absurd (k8_0.symm.trans q.1) (by decide)) (fun q => absurd (k8_0.symm.trans q.1) (by decide)))⟩) ⟨Nat.le_of_ble_eq_true rfl, Nat.le_of_ble_eq_true rfl⟩ (fun σ_2 H locs hσ_2 hP hS => ?_)
    obtain ⟨hσ_2a, ehσ_2⟩ := hσ_2
    rw [ehσ_2] at hP
    refine lv_iload_n hx hb dX1_signs_40 rfl (lv_at hl 4 rfl) ?_
    refine lv_aload hx hb dX1_signs_41 (lv_at hl 0 rfl) ?_
    refine q_get (C := RX0) (T := TX0) (N := 8) (ci := 0) (v := .int (σ (k1 + 2) 4)) hx hb hts hinX0 hown hK hP (at_ch hk1k) rfl 4 (by decide) hf52 rfl dX1_signs_43 ?_
    refine k_Si (As := [.int (z), .int (σ (k1 + 2) 4)]) (rest := []) ⟨hx, hb, hml, hown, hts⟩ (mtX1_signsBetween l z (σ (k1 + 2) 4)) (va_cwS 2 hts gX1_signs_X1_signsBetween rfl rfl rfl (by decide +kernel) ⟨Nat.le_of_ble_eq_true rfl, Nat.le_of_ble_eq_true rfl⟩) rfl hl.1 rfl (Nat.le_of_ble_eq_true rfl) dX1_signs_46 ⟨Nat.le_of_ble_eq_true rfl, Nat.le_of_ble_eq_true rfl⟩ (fun r3 er3 => ?_)
    subst er3
    refine W.widen (k := 2) (n := 12) (Nat.le_of_ble_eq_true rfl) (Nat.le_of_ble_eq_true rfl) ?_
    exact vx_ret (r_i hx hb hr hlocks hP hS dX1_signs_49 ⟨⟨k1, hk1k, hk1e, Or.inl ⟨k8_0, hσ_2a, rfl⟩⟩, rfl⟩)
  by_cases k8_1 : v = 1
  · skip
    refine lv_tableIn (off := 42) (tgt := 50) hx hb dX1_signs_8 (by rw [k8_1]; decide) (by rw [k8_1]; decide) (by rw [k8_1]; rfl) (by decide) ?_
    refine lv_iload_n hx hb dX1_signs_50 rfl (lv_at hl 4 rfl) ?_
    refine x_Sv (As := [.int (z)]) (rest := []) ⟨hx, hb, hml, hown, hts⟩ (mtX1_requireWeight l hl0 E hok σ o z) (va_cwS 1 hts gX1_signs_X1_requireWeight rfl rfl rfl (by decide +kernel) ⟨Nat.le_of_ble_eq_true rfl, Nat.le_of_ble_eq_true rfl⟩) hno hlocks hK hP hS rfl hl.1 rfl (Nat.le_of_ble_eq_true rfl) dX1_signs_51 ⟨Nat.le_of_ble_eq_true rfl, Nat.le_of_ble_eq_true rfl⟩ (fun u h => Or.inr ⟨h.1, ⟨k1, hk1k, hk1e⟩, fun zz => zz.elim (fun q => absurd (k8_1.symm.trans q.1) (by decide)) (fun q => q.elim (fun q => h.2 q.2) (fun q => absurd (k8_1.symm.trans q.1) (by decide)))⟩) ⟨Nat.le_of_ble_eq_true rfl, Nat.le_of_ble_eq_true rfl⟩ (fun σ_4 H locs hσ_4 hP hS => ?_)
    obtain ⟨hσ_4a, ehσ_4⟩ := hσ_4
    rw [ehσ_4] at hP
    refine lv_iload_n hx hb dX1_signs_54 rfl (lv_at hl 4 rfl) ?_
    refine lv_aload hx hb dX1_signs_55 (lv_at hl 0 rfl) ?_
    refine q_get (C := RX0) (T := TX0) (N := 8) (ci := 0) (v := .int (σ (k1 + 2) 5)) hx hb hts hinX0 hown hK hP (at_ch hk1k) rfl 5 (by decide) hf55 rfl dX1_signs_57 ?_
    refine k_Si (As := [.int (z), .int (σ (k1 + 2) 5)]) (rest := []) ⟨hx, hb, hml, hown, hts⟩ (mtX1_signsBetween l z (σ (k1 + 2) 5)) (va_cwS 2 hts gX1_signs_X1_signsBetween rfl rfl rfl (by decide +kernel) ⟨Nat.le_of_ble_eq_true rfl, Nat.le_of_ble_eq_true rfl⟩) rfl hl.1 rfl (Nat.le_of_ble_eq_true rfl) dX1_signs_60 ⟨Nat.le_of_ble_eq_true rfl, Nat.le_of_ble_eq_true rfl⟩ (fun r5 er5 => ?_)
    subst er5
    refine W.widen (k := 2) (n := 12) (Nat.le_of_ble_eq_true rfl) (Nat.le_of_ble_eq_true rfl) ?_
    exact vx_ret (r_i hx hb hr hlocks hP hS dX1_signs_63 ⟨⟨k1, hk1k, hk1e, Or.inr (Or.inl ⟨k8_1, hσ_4a, rfl⟩)⟩, rfl⟩)
  by_cases k8_2 : v = 2
  · skip
    refine lv_tableIn (off := 56) (tgt := 64) hx hb dX1_signs_8 (by rw [k8_2]; decide) (by rw [k8_2]; decide) (by rw [k8_2]; rfl) (by decide) ?_
    refine lv_iload_n hx hb dX1_signs_64 rfl (lv_at hl 4 rfl) ?_
    refine x_Sv (As := [.int (z)]) (rest := []) ⟨hx, hb, hml, hown, hts⟩ (mtX1_requireGirth l hl0 E hok σ o z) (va_cwS 1 hts gX1_signs_X1_requireGirth rfl rfl rfl (by decide +kernel) ⟨Nat.le_of_ble_eq_true rfl, Nat.le_of_ble_eq_true rfl⟩) hno hlocks hK hP hS rfl hl.1 rfl (Nat.le_of_ble_eq_true rfl) dX1_signs_65 ⟨Nat.le_of_ble_eq_true rfl, Nat.le_of_ble_eq_true rfl⟩ (fun u h => Or.inr ⟨h.1, ⟨k1, hk1k, hk1e⟩, fun zz => zz.elim (fun q => absurd (k8_2.symm.trans q.1) (by decide)) (fun q => q.elim (fun q => absurd (k8_2.symm.trans q.1) (by decide)) (fun q => h.2 q.2))⟩) ⟨Nat.le_of_ble_eq_true rfl, Nat.le_of_ble_eq_true rfl⟩ (fun σ_6 H locs hσ_6 hP hS => ?_)
    obtain ⟨hσ_6a, ehσ_6⟩ := hσ_6
    rw [ehσ_6] at hP
    refine lv_iload_n hx hb dX1_signs_68 rfl (lv_at hl 4 rfl) ?_
    refine lv_aload hx hb dX1_signs_69 (lv_at hl 0 rfl) ?_
    refine q_get (C := RX0) (T := TX0) (N := 8) (ci := 0) (v := .int (σ (k1 + 2) 6)) hx hb hts hinX0 hown hK hP (at_ch hk1k) rfl 6 (by decide) hf58 rfl dX1_signs_71 ?_
    refine k_Si (As := [.int (z), .int (σ (k1 + 2) 6)]) (rest := []) ⟨hx, hb, hml, hown, hts⟩ (mtX1_signsBetween l z (σ (k1 + 2) 6)) (va_cwS 2 hts gX1_signs_X1_signsBetween rfl rfl rfl (by decide +kernel) ⟨Nat.le_of_ble_eq_true rfl, Nat.le_of_ble_eq_true rfl⟩) rfl hl.1 rfl (Nat.le_of_ble_eq_true rfl) dX1_signs_74 ⟨Nat.le_of_ble_eq_true rfl, Nat.le_of_ble_eq_true rfl⟩ (fun r7 er7 => ?_)
    subst er7
    refine W.widen (k := 2) (n := 12) (Nat.le_of_ble_eq_true rfl) (Nat.le_of_ble_eq_true rfl) ?_
    exact vx_ret (r_i hx hb hr hlocks hP hS dX1_signs_77 ⟨⟨k1, hk1k, hk1e, Or.inr (Or.inr ⟨k8_2, hσ_6a, rfl⟩)⟩, rfl⟩)
  refine lv_tableOut (tgt := 78) hx hb dX1_signs_8 (tb_out2 _ k8_0 k8_1 k8_2) (by decide) ?_
  exact x_throw hx hb hl0 (ik := 20) (is := 87) (ic := 24) hown (by decide +kernel) (hts (.classLink RX1 20 "java/lang/IllegalArgumentException") (by decide +kernel)) (hts (.initialized "java/lang/IllegalArgumentException") (by decide +kernel)) hK.s87 (vx_hat (B := [.castable "java/lang/IllegalArgumentException" "java/lang/IllegalArgumentException", .declares (Bundle.initS "java/lang/RuntimeException"), .declares (Bundle.initS "java/lang/Exception"), .declares (Bundle.initS "java/lang/Throwable")]) (fun w h => hts w (wxX1_signs_24 w h)) (by decide +kernel) (vx_c (hK.c (by decide)) (vx_c (hK.d (by decide)) (vx_c (hK.d (by decide)) (vx_c (hK.d (by decide)) vx_n))))) (by decide +kernel) hK hP hS hl.1 hml dX1_signs_78 dX1_signs_81 dX1_signs_82 dX1_signs_84 dX1_signs_87 hno (Nat.le_of_ble_eq_true rfl) (Nat.le_of_ble_eq_true rfl) (Nat.le_of_ble_eq_true rfl) (Nat.le_of_ble_eq_true rfl) hlocks (Or.inr ⟨rfl, ⟨k1, hk1k, hk1e⟩, fun zz => zz.elim (fun q => k8_0 q.1) (fun q => q.elim (fun q => k8_1 q.1) (fun q => k8_2 q.1))⟩) (Nat.le_of_ble_eq_true rfl) (Nat.le_of_ble_eq_true rfl)

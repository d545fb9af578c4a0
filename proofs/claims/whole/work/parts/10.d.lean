set_option maxHeartbeats 4000000 in
set_option maxRecDepth 100000 in
/-- thrown -/
theorem mtX2_thrown (l : Launch) (E : Ev) (hok : e_ok E) (σ : Mem) (o : Nat → Int64)  : Met l yX2_thrown wsX2_thrown ({ frames := 0, cells := 0, slots := 0, locals := 0 } : Room) (PW E σ o [.ref (e_a E (26))]) (va_Qi (fun (r : Int32) (σ' : Mem) => r = σ 26 0 ∧ σ' = σ) (BW E o) (LB (e_B E))) 0 0 (LB (e_B E)) := by
  refine Met.ofW (cc := cX2_thrown) (maxL := 1) (ret := (some .int)) (by decide) rfl ?_
  intro p e s m args below meth c s₁ B hml hv
  obtain ⟨rfl, hP, hK⟩ := hv
  have hx := B.exec
  have hb := B.bytes
  have hr := B.returns
  have hts := atoms_spec (ws := wsX2_thrown) B.pre
  have hown : s.vm.findClass RX2 = some m.cls := findClass_of_methodNamed B.named
  have hlocks := B.notSynchronized
  have hS : va_S (LB (e_B E)) s.heap s.heap [] := va_S.rf
  have hinX2 : ∀ w ∈ wsX20, w ∈ wsX2_thrown := fun w h => by simp only [wsX2_thrown, List.mem_cons, List.mem_append, h, or_true, true_or]
  have hf38 := hts (.fieldLink RX2 38 "ParcelChutesModel" "thrown" "I") (by decide +kernel)
  have hl := lv_entry ([.ref (e_a E (26))]) (n := 1) (Nat.le_of_ble_eq_true rfl)
  rw [lg_entry_eq]
  generalize (lg_sl ([.ref (e_a E (26))]) ++ List.replicate (1 - (lg_sl ([.ref (e_a E (26))])).length) Slot.unset).toArray = ls at hl ⊢
  have hl : lv_has ls 1 [(0, .ref (e_a E (26)))] := hl
  refine lv_aload_n hx hb dX2_thrown_0 rfl (lv_at hl 0 rfl) ?_
  refine q_get (C := RX2) (T := TX2) (N := 20) (ci := 2) (v := .int (σ (26) 0)) hx hb hts hinX2 hown hK hP at_26 rfl 0 (by decide) hf38 rfl dX2_thrown_1 ?_
  exact r_i hx hb hr hlocks hP hS dX2_thrown_4 ⟨rfl, rfl⟩
set_option maxHeartbeats 4000000 in
set_option maxRecDepth 100000 in
/-- fitsChute -/
theorem mtX2_fitsChute (l : Launch) (E : Ev) (hok : e_ok E) (σ : Mem) (o : Nat → Int64) (w g : Int32) (k : Nat) (hk : k < 8) : Met l yX2_fitsChute wsX2_fitsChute ({ frames := 2, cells := 0, slots := 0, locals := 43 } : Room) (PW E σ o [.ref (e_a E (26)), .int (w), .int (g), .int (nI (k))]) (va_Qi (fun (r : Int32) (σ' : Mem) => r = fitM (σ 31 k) (σ 32 k) (σ 33 k) (σ 34 k) w g ∧ σ' = σ) (BW E o) (LB (e_B E))) 0 0 (LB (e_B E)) := by
  refine Met.ofW (cc := cX2_fitsChute) (maxL := 4) (ret := (some .boolean)) (by decide) rfl ?_
  intro p e s m args below meth c s₁ B hml hv
  obtain ⟨rfl, hP, hK⟩ := hv
  have hx := B.exec
  have hb := B.bytes
  have hr := B.returns
  have hts := atoms_spec (ws := wsX2_fitsChute) B.pre
  have hown : s.vm.findClass RX2 = some m.cls := findClass_of_methodNamed B.named
  have hlocks := B.notSynchronized
  have hS : va_S (LB (e_B E)) s.heap s.heap [] := va_S.rf
  have hinX2 : ∀ w ∈ wsX20, w ∈ wsX2_fitsChute := fun w h => by simp only [wsX2_fitsChute, List.mem_cons, List.mem_append, h, or_true, true_or]
  have hf22 := hts (.fieldLink RX2 22 "ParcelChutesModel" "kind" "[I") (by decide +kernel)
  have hf25 := hts (.fieldLink RX2 25 "ParcelChutesModel" "low" "[I") (by decide +kernel)
  have hf28 := hts (.fieldLink RX2 28 "ParcelChutesModel" "high" "[I") (by decide +kernel)
  have hf31 := hts (.fieldLink RX2 31 "ParcelChutesModel" "wide" "[I") (by decide +kernel)
  have hl := lv_entry ([.ref (e_a E (26)), .int (w), .int (g), .int (nI (k))]) (n := 4) (Nat.le_of_ble_eq_true rfl)
  rw [lg_entry_eq]
  generalize (lg_sl ([.ref (e_a E (26)), .int (w), .int (g), .int (nI (k))]) ++ List.replicate (4 - (lg_sl ([.ref (e_a E (26)), .int (w), .int (g), .int (nI (k))])).length) Slot.unset).toArray = ls at hl ⊢
  have hl : lv_has ls 4 [(0, .ref (e_a E (26))), (1, .int (w)), (2, .int (g)), (3, .int (nI (k)))] := hl
  refine lv_aload_n hx hb dX2_fitsChute_0 rfl (lv_at hl 0 rfl) ?_
  refine q_get (C := RX2) (T := TX2) (N := 20) (ci := 2) (v := .ref (e_a E (31))) hx hb hts hinX2 hown hK hP at_26 rfl 6 (by decide) hf22 rfl dX2_fitsChute_1 ?_
  refine lv_iload_n hx hb dX2_fitsChute_4 rfl (lv_at hl 3 rfl) ?_
  refine q_ld hx hb hK hP at_31 (i := k) rfl (by omega) (by decide) dX2_fitsChute_5 ?_
  by_cases k6_0 : σ (31) (k) = 0
  · skip
    refine lv_tableIn (off := 30) (tgt := 36) hx hb dX2_fitsChute_6 (by rw [k6_0]; decide) (by rw [k6_0]; decide) (by rw [k6_0]; rfl) (by decide) ?_
    refine lv_iload_n hx hb dX2_fitsChute_36 rfl (lv_at hl 1 rfl) ?_
    refine lv_aload_n hx hb dX2_fitsChute_37 rfl (lv_at hl 0 rfl) ?_
    refine q_get (C := RX2) (T := TX2) (N := 20) (ci := 2) (v := .ref (e_a E (32))) hx hb hts hinX2 hown hK hP at_26 rfl 7 (by decide) hf25 rfl dX2_fitsChute_38 ?_
    refine lv_iload_n hx hb dX2_fitsChute_41 rfl (lv_at hl 3 rfl) ?_
    refine q_ld hx hb hK hP at_32 (i := k) rfl (by omega) (by decide) dX2_fitsChute_42 ?_
    refine lv_bipush (v := 8) hx hb dX2_fitsChute_43 (by decide) ?_
    refine k_Si (As := [.int (w), .int (σ (32) (k)), .int (8)]) (rest := []) ⟨hx, hb, hml, hown, hts⟩ (mtX2_holds l w (σ (32) (k)) 8) (va_cwS 3 hts gX2_fitsChute_X2_holds rfl rfl rfl (by decide +kernel) ⟨Nat.le_of_ble_eq_true rfl, Nat.le_of_ble_eq_true rfl⟩) rfl hl.1 rfl (Nat.le_of_ble_eq_true rfl) dX2_fitsChute_45 ⟨Nat.le_of_ble_eq_true rfl, Nat.le_of_ble_eq_true rfl⟩ (fun r1 er1 => ?_)
    subst er1
    refine lv_if_eq (tgt := 83) hx hb dX2_fitsChute_48 (by decide) (fun c48 => ?_) (fun c48 => ?_)
    · skip
      refine lv_iconst (v := 0) hx hb dX2_fitsChute_83 (by decide) ?_
      exact r_z hx hb hr hlocks rfl hP hS dX2_fitsChute_84 ⟨by simp [fitM, k6_0, c48], rfl⟩
    · skip
      refine lv_iload_n hx hb dX2_fitsChute_51 rfl (lv_at hl 1 rfl) ?_
      refine lv_aload_n hx hb dX2_fitsChute_52 rfl (lv_at hl 0 rfl) ?_
      refine q_get (C := RX2) (T := TX2) (N := 20) (ci := 2) (v := .ref (e_a E (33))) hx hb hts hinX2 hown hK hP at_26 rfl 8 (by decide) hf28 rfl dX2_fitsChute_53 ?_
      refine lv_iload_n hx hb dX2_fitsChute_56 rfl (lv_at hl 3 rfl) ?_
      refine q_ld hx hb hK hP at_33 (i := k) rfl (by omega) (by decide) dX2_fitsChute_57 ?_
      refine lv_iconst (v := 1) hx hb dX2_fitsChute_58 (by decide) ?_
      refine k_Si (As := [.int (w), .int (σ (33) (k)), .int (1)]) (rest := []) ⟨hx, hb, hml, hown, hts⟩ (mtX2_holds l w (σ (33) (k)) 1) (va_cwS 3 hts gX2_fitsChute_X2_holds rfl rfl rfl (by decide +kernel) ⟨Nat.le_of_ble_eq_true rfl, Nat.le_of_ble_eq_true rfl⟩) rfl hl.1 rfl (Nat.le_of_ble_eq_true rfl) dX2_fitsChute_59 ⟨Nat.le_of_ble_eq_true rfl, Nat.le_of_ble_eq_true rfl⟩ (fun r2 er2 => ?_)
      subst er2
      refine lv_if_eq (tgt := 83) hx hb dX2_fitsChute_62 (by decide) (fun c62 => ?_) (fun c62 => ?_)
      · skip
        refine lv_iconst (v := 0) hx hb dX2_fitsChute_83 (by decide) ?_
        exact r_z hx hb hr hlocks rfl hP hS dX2_fitsChute_84 ⟨by simp [fitM, k6_0, c48, c62], rfl⟩
      · skip
        refine lv_iload_n hx hb dX2_fitsChute_65 rfl (lv_at hl 2 rfl) ?_
        refine lv_aload_n hx hb dX2_fitsChute_66 rfl (lv_at hl 0 rfl) ?_
        refine q_get (C := RX2) (T := TX2) (N := 20) (ci := 2) (v := .ref (e_a E (34))) hx hb hts hinX2 hown hK hP at_26 rfl 9 (by decide) hf31 rfl dX2_fitsChute_67 ?_
        refine lv_iload_n hx hb dX2_fitsChute_70 rfl (lv_at hl 3 rfl) ?_
        refine q_ld hx hb hK hP at_34 (i := k) rfl (by omega) (by decide) dX2_fitsChute_71 ?_
        refine lv_iconst (v := 2) hx hb dX2_fitsChute_72 (by decide) ?_
        refine k_Si (As := [.int (g), .int (σ (34) (k)), .int (2)]) (rest := []) ⟨hx, hb, hml, hown, hts⟩ (mtX2_holds l g (σ (34) (k)) 2) (va_cwS 3 hts gX2_fitsChute_X2_holds rfl rfl rfl (by decide +kernel) ⟨Nat.le_of_ble_eq_true rfl, Nat.le_of_ble_eq_true rfl⟩) rfl hl.1 rfl (Nat.le_of_ble_eq_true rfl) dX2_fitsChute_73 ⟨Nat.le_of_ble_eq_true rfl, Nat.le_of_ble_eq_true rfl⟩ (fun r3 er3 => ?_)
        subst er3
        refine lv_if_eq (tgt := 83) hx hb dX2_fitsChute_76 (by decide) (fun c76 => ?_) (fun c76 => ?_)
        · skip
          refine lv_iconst (v := 0) hx hb dX2_fitsChute_83 (by decide) ?_
          exact r_z hx hb hr hlocks rfl hP hS dX2_fitsChute_84 ⟨by simp [fitM, k6_0, c48, c62, c76], rfl⟩
        · skip
          refine lv_iconst (v := 1) hx hb dX2_fitsChute_79 (by decide) ?_
          refine lv_goto (tgt := 84) hx hb dX2_fitsChute_80 (by decide) ?_
          exact r_z hx hb hr hlocks rfl hP hS dX2_fitsChute_84 ⟨by simp [fitM, k6_0, c48, c62, c76], rfl⟩
  by_cases k6_1 : σ (31) (k) = 1
  · skip
    refine lv_tableIn (off := 79) (tgt := 85) hx hb dX2_fitsChute_6 (by rw [k6_1]; decide) (by rw [k6_1]; decide) (by rw [k6_1]; rfl) (by decide) ?_
    refine lv_iload_n hx hb dX2_fitsChute_85 rfl (lv_at hl 1 rfl) ?_
    refine lv_aload_n hx hb dX2_fitsChute_86 rfl (lv_at hl 0 rfl) ?_
    refine q_get (C := RX2) (T := TX2) (N := 20) (ci := 2) (v := .ref (e_a E (32))) hx hb hts hinX2 hown hK hP at_26 rfl 7 (by decide) hf25 rfl dX2_fitsChute_87 ?_
    refine lv_iload_n hx hb dX2_fitsChute_90 rfl (lv_at hl 3 rfl) ?_
    refine q_ld hx hb hK hP at_32 (i := k) rfl (by omega) (by decide) dX2_fitsChute_91 ?_
    refine lv_iconst (v := 1) hx hb dX2_fitsChute_92 (by decide) ?_
    refine k_Si (As := [.int (w), .int (σ (32) (k)), .int (1)]) (rest := []) ⟨hx, hb, hml, hown, hts⟩ (mtX2_holds l w (σ (32) (k)) 1) (va_cwS 3 hts gX2_fitsChute_X2_holds rfl rfl rfl (by decide +kernel) ⟨Nat.le_of_ble_eq_true rfl, Nat.le_of_ble_eq_true rfl⟩) rfl hl.1 rfl (Nat.le_of_ble_eq_true rfl) dX2_fitsChute_93 ⟨Nat.le_of_ble_eq_true rfl, Nat.le_of_ble_eq_true rfl⟩ (fun r4 er4 => ?_)
    subst er4
    refine lv_if_ne (tgt := 132) hx hb dX2_fitsChute_96 (by decide) (fun c96 => ?_) (fun c96 => ?_)
    · skip
      refine lv_iconst (v := 0) hx hb dX2_fitsChute_132 (by decide) ?_
      exact r_z hx hb hr hlocks rfl hP hS dX2_fitsChute_133 ⟨by simp [fitM, k6_0, k6_1, c96], rfl⟩
    · skip
      refine lv_iload_n hx hb dX2_fitsChute_99 rfl (lv_at hl 1 rfl) ?_
      refine lv_aload_n hx hb dX2_fitsChute_100 rfl (lv_at hl 0 rfl) ?_
      refine q_get (C := RX2) (T := TX2) (N := 20) (ci := 2) (v := .ref (e_a E (33))) hx hb hts hinX2 hown hK hP at_26 rfl 8 (by decide) hf28 rfl dX2_fitsChute_101 ?_
      refine lv_iload_n hx hb dX2_fitsChute_104 rfl (lv_at hl 3 rfl) ?_
      refine q_ld hx hb hK hP at_33 (i := k) rfl (by omega) (by decide) dX2_fitsChute_105 ?_
      refine lv_bipush (v := 8) hx hb dX2_fitsChute_106 (by decide) ?_
      refine k_Si (As := [.int (w), .int (σ (33) (k)), .int (8)]) (rest := []) ⟨hx, hb, hml, hown, hts⟩ (mtX2_holds l w (σ (33) (k)) 8) (va_cwS 3 hts gX2_fitsChute_X2_holds rfl rfl rfl (by decide +kernel) ⟨Nat.le_of_ble_eq_true rfl, Nat.le_of_ble_eq_true rfl⟩) rfl hl.1 rfl (Nat.le_of_ble_eq_true rfl) dX2_fitsChute_108 ⟨Nat.le_of_ble_eq_true rfl, Nat.le_of_ble_eq_true rfl⟩ (fun r5 er5 => ?_)
      subst er5
      refine lv_if_ne (tgt := 132) hx hb dX2_fitsChute_111 (by decide) (fun c111 => ?_) (fun c111 => ?_)
      · skip
        refine lv_iconst (v := 0) hx hb dX2_fitsChute_132 (by decide) ?_
        exact r_z hx hb hr hlocks rfl hP hS dX2_fitsChute_133 ⟨by simp [fitM, k6_0, k6_1, c96, c111], rfl⟩
      · skip
        refine lv_iload_n hx hb dX2_fitsChute_114 rfl (lv_at hl 2 rfl) ?_
        refine lv_aload_n hx hb dX2_fitsChute_115 rfl (lv_at hl 0 rfl) ?_
        refine q_get (C := RX2) (T := TX2) (N := 20) (ci := 2) (v := .ref (e_a E (34))) hx hb hts hinX2 hown hK hP at_26 rfl 9 (by decide) hf31 rfl dX2_fitsChute_116 ?_
        refine lv_iload_n hx hb dX2_fitsChute_119 rfl (lv_at hl 3 rfl) ?_
        refine q_ld hx hb hK hP at_34 (i := k) rfl (by omega) (by decide) dX2_fitsChute_120 ?_
        refine lv_iconst (v := 4) hx hb dX2_fitsChute_121 (by decide) ?_
        refine k_Si (As := [.int (g), .int (σ (34) (k)), .int (4)]) (rest := []) ⟨hx, hb, hml, hown, hts⟩ (mtX2_holds l g (σ (34) (k)) 4) (va_cwS 3 hts gX2_fitsChute_X2_holds rfl rfl rfl (by decide +kernel) ⟨Nat.le_of_ble_eq_true rfl, Nat.le_of_ble_eq_true rfl⟩) rfl hl.1 rfl (Nat.le_of_ble_eq_true rfl) dX2_fitsChute_122 ⟨Nat.le_of_ble_eq_true rfl, Nat.le_of_ble_eq_true rfl⟩ (fun r6 er6 => ?_)
        subst er6
        refine lv_if_ne (tgt := 132) hx hb dX2_fitsChute_125 (by decide) (fun c125 => ?_) (fun c125 => ?_)
        · skip
          refine lv_iconst (v := 0) hx hb dX2_fitsChute_132 (by decide) ?_
          exact r_z hx hb hr hlocks rfl hP hS dX2_fitsChute_133 ⟨by simp [fitM, k6_0, k6_1, c96, c111, c125], rfl⟩
        · skip
          refine lv_iconst (v := 1) hx hb dX2_fitsChute_128 (by decide) ?_
          refine lv_goto (tgt := 133) hx hb dX2_fitsChute_129 (by decide) ?_
          exact r_z hx hb hr hlocks rfl hP hS dX2_fitsChute_133 ⟨by simp [fitM, k6_0, k6_1, c96, c111, c125], rfl⟩
  by_cases k6_2 : σ (31) (k) = 2
  · skip
    refine lv_tableIn (off := 128) (tgt := 134) hx hb dX2_fitsChute_6 (by rw [k6_2]; decide) (by rw [k6_2]; decide) (by rw [k6_2]; rfl) (by decide) ?_
    refine lv_iload_n hx hb dX2_fitsChute_134 rfl (lv_at hl 1 rfl) ?_
    refine lv_aload_n hx hb dX2_fitsChute_135 rfl (lv_at hl 0 rfl) ?_
    refine q_get (C := RX2) (T := TX2) (N := 20) (ci := 2) (v := .ref (e_a E (32))) hx hb hts hinX2 hown hK hP at_26 rfl 7 (by decide) hf25 rfl dX2_fitsChute_136 ?_
    refine lv_iload_n hx hb dX2_fitsChute_139 rfl (lv_at hl 3 rfl) ?_
    refine q_ld hx hb hK hP at_32 (i := k) rfl (by omega) (by decide) dX2_fitsChute_140 ?_
    refine lv_bipush (v := 16) hx hb dX2_fitsChute_141 (by decide) ?_
    refine k_Si (As := [.int (w), .int (σ (32) (k)), .int (16)]) (rest := []) ⟨hx, hb, hml, hown, hts⟩ (mtX2_holds l w (σ (32) (k)) 16) (va_cwS 3 hts gX2_fitsChute_X2_holds rfl rfl rfl (by decide +kernel) ⟨Nat.le_of_ble_eq_true rfl, Nat.le_of_ble_eq_true rfl⟩) rfl hl.1 rfl (Nat.le_of_ble_eq_true rfl) dX2_fitsChute_143 ⟨Nat.le_of_ble_eq_true rfl, Nat.le_of_ble_eq_true rfl⟩ (fun r7 er7 => ?_)
    subst er7
    refine lv_if_ne (tgt := 164) hx hb dX2_fitsChute_146 (by decide) (fun c146 => ?_) (fun c146 => ?_)
    · skip
      refine lv_iconst (v := 1) hx hb dX2_fitsChute_164 (by decide) ?_
      refine lv_goto (tgt := 169) hx hb dX2_fitsChute_165 (by decide) ?_
      exact r_z hx hb hr hlocks rfl hP hS dX2_fitsChute_169 ⟨by simp [fitM, k6_0, k6_1, k6_2, c146], rfl⟩
    · skip
      refine lv_iload_n hx hb dX2_fitsChute_149 rfl (lv_at hl 2 rfl) ?_
      refine lv_aload_n hx hb dX2_fitsChute_150 rfl (lv_at hl 0 rfl) ?_
      refine q_get (C := RX2) (T := TX2) (N := 20) (ci := 2) (v := .ref (e_a E (34))) hx hb hts hinX2 hown hK hP at_26 rfl 9 (by decide) hf31 rfl dX2_fitsChute_151 ?_
      refine lv_iload_n hx hb dX2_fitsChute_154 rfl (lv_at hl 3 rfl) ?_
      refine q_ld hx hb hK hP at_34 (i := k) rfl (by omega) (by decide) dX2_fitsChute_155 ?_
      refine lv_bipush (v := 16) hx hb dX2_fitsChute_156 (by decide) ?_
      refine k_Si (As := [.int (g), .int (σ (34) (k)), .int (16)]) (rest := []) ⟨hx, hb, hml, hown, hts⟩ (mtX2_holds l g (σ (34) (k)) 16) (va_cwS 3 hts gX2_fitsChute_X2_holds rfl rfl rfl (by decide +kernel) ⟨Nat.le_of_ble_eq_true rfl, Nat.le_of_ble_eq_true rfl⟩) rfl hl.1 rfl (Nat.le_of_ble_eq_true rfl) dX2_fitsChute_158 ⟨Nat.le_of_ble_eq_true rfl, Nat.le_of_ble_eq_true rfl⟩ (fun r8 er8 => ?_)
      subst er8
      refine lv_if_eq (tgt := 168) hx hb dX2_fitsChute_161 (by decide) (fun c161 => ?_) (fun c161 => ?_)
      · skip
        refine lv_iconst (v := 0) hx hb dX2_fitsChute_168 (by decide) ?_
        exact r_z hx hb hr hlocks rfl hP hS dX2_fitsChute_169 ⟨by simp [fitM, k6_0, k6_1, k6_2, c146, c161], rfl⟩
      · skip
        refine lv_iconst (v := 1) hx hb dX2_fitsChute_164 (by decide) ?_
        refine lv_goto (tgt := 169) hx hb dX2_fitsChute_165 (by decide) ?_
        exact r_z hx hb hr hlocks rfl hP hS dX2_fitsChute_169 ⟨by simp [fitM, k6_0, k6_1, k6_2, c146, c161], rfl⟩
  by_cases k6_3 : σ (31) (k) = 3
  · skip
    refine lv_tableIn (off := 164) (tgt := 170) hx hb dX2_fitsChute_6 (by rw [k6_3]; decide) (by rw [k6_3]; decide) (by rw [k6_3]; rfl) (by decide) ?_
    refine lv_iload_n hx hb dX2_fitsChute_170 rfl (lv_at hl 1 rfl) ?_
    refine lv_aload_n hx hb dX2_fitsChute_171 rfl (lv_at hl 0 rfl) ?_
    refine q_get (C := RX2) (T := TX2) (N := 20) (ci := 2) (v := .ref (e_a E (32))) hx hb hts hinX2 hown hK hP at_26 rfl 7 (by decide) hf25 rfl dX2_fitsChute_172 ?_
    refine lv_iload_n hx hb dX2_fitsChute_175 rfl (lv_at hl 3 rfl) ?_
    refine q_ld hx hb hK hP at_32 (i := k) rfl (by omega) (by decide) dX2_fitsChute_176 ?_
    refine lv_bipush (v := 32) hx hb dX2_fitsChute_177 (by decide) ?_
    refine k_Si (As := [.int (w), .int (σ (32) (k)), .int (32)]) (rest := []) ⟨hx, hb, hml, hown, hts⟩ (mtX2_holds l w (σ (32) (k)) 32) (va_cwS 3 hts gX2_fitsChute_X2_holds rfl rfl rfl (by decide +kernel) ⟨Nat.le_of_ble_eq_true rfl, Nat.le_of_ble_eq_true rfl⟩) rfl hl.1 rfl (Nat.le_of_ble_eq_true rfl) dX2_fitsChute_179 ⟨Nat.le_of_ble_eq_true rfl, Nat.le_of_ble_eq_true rfl⟩ (fun r9 er9 => ?_)
    subst er9
    refine lv_if_eq (tgt := 219) hx hb dX2_fitsChute_182 (by decide) (fun c182 => ?_) (fun c182 => ?_)
    · skip
      refine lv_iconst (v := 0) hx hb dX2_fitsChute_219 (by decide) ?_
      exact r_z hx hb hr hlocks rfl hP hS dX2_fitsChute_220 ⟨by simp [fitM, k6_0, k6_1, k6_2, k6_3, c182], rfl⟩
    · skip
      refine lv_iload_n hx hb dX2_fitsChute_185 rfl (lv_at hl 1 rfl) ?_
      refine lv_aload_n hx hb dX2_fitsChute_186 rfl (lv_at hl 0 rfl) ?_
      refine q_get (C := RX2) (T := TX2) (N := 20) (ci := 2) (v := .ref (e_a E (33))) hx hb hts hinX2 hown hK hP at_26 rfl 8 (by decide) hf28 rfl dX2_fitsChute_187 ?_
      refine lv_iload_n hx hb dX2_fitsChute_190 rfl (lv_at hl 3 rfl) ?_
      refine q_ld hx hb hK hP at_33 (i := k) rfl (by omega) (by decide) dX2_fitsChute_191 ?_
      refine lv_bipush (v := 32) hx hb dX2_fitsChute_192 (by decide) ?_
      refine k_Si (As := [.int (w), .int (σ (33) (k)), .int (32)]) (rest := []) ⟨hx, hb, hml, hown, hts⟩ (mtX2_holds l w (σ (33) (k)) 32) (va_cwS 3 hts gX2_fitsChute_X2_holds rfl rfl rfl (by decide +kernel) ⟨Nat.le_of_ble_eq_true rfl, Nat.le_of_ble_eq_true rfl⟩) rfl hl.1 rfl (Nat.le_of_ble_eq_true rfl) dX2_fitsChute_194 ⟨Nat.le_of_ble_eq_true rfl, Nat.le_of_ble_eq_true rfl⟩ (fun r10 er10 => ?_)
      subst er10
      refine lv_if_eq (tgt := 219) hx hb dX2_fitsChute_197 (by decide) (fun c197 => ?_) (fun c197 => ?_)
      · skip
        refine lv_iconst (v := 0) hx hb dX2_fitsChute_219 (by decide) ?_
        exact r_z hx hb hr hlocks rfl hP hS dX2_fitsChute_220 ⟨by simp [fitM, k6_0, k6_1, k6_2, k6_3, c182, c197], rfl⟩
      · skip
        refine lv_iload_n hx hb dX2_fitsChute_200 rfl (lv_at hl 2 rfl) ?_
        refine lv_aload_n hx hb dX2_fitsChute_201 rfl (lv_at hl 0 rfl) ?_
        refine q_get (C := RX2) (T := TX2) (N := 20) (ci := 2) (v := .ref (e_a E (34))) hx hb hts hinX2 hown hK hP at_26 rfl 9 (by decide) hf31 rfl dX2_fitsChute_202 ?_
        refine lv_iload_n hx hb dX2_fitsChute_205 rfl (lv_at hl 3 rfl) ?_
        refine q_ld hx hb hK hP at_34 (i := k) rfl (by omega) (by decide) dX2_fitsChute_206 ?_
        refine lv_bipush (v := 32) hx hb dX2_fitsChute_207 (by decide) ?_
        refine k_Si (As := [.int (g), .int (σ (34) (k)), .int (32)]) (rest := []) ⟨hx, hb, hml, hown, hts⟩ (mtX2_holds l g (σ (34) (k)) 32) (va_cwS 3 hts gX2_fitsChute_X2_holds rfl rfl rfl (by decide +kernel) ⟨Nat.le_of_ble_eq_true rfl, Nat.le_of_ble_eq_true rfl⟩) rfl hl.1 rfl (Nat.le_of_ble_eq_true rfl) dX2_fitsChute_209 ⟨Nat.le_of_ble_eq_true rfl, Nat.le_of_ble_eq_true rfl⟩ (fun r11 er11 => ?_)
        subst er11
        refine lv_if_eq (tgt := 219) hx hb dX2_fitsChute_212 (by decide) (fun c212 => ?_) (fun c212 => ?_)
        · skip
          refine lv_iconst (v := 0) hx hb dX2_fitsChute_219 (by decide) ?_
          exact r_z hx hb hr hlocks rfl hP hS dX2_fitsChute_220 ⟨by simp [fitM, k6_0, k6_1, k6_2, k6_3, c182, c197, c212], rfl⟩
        · skip
          refine lv_iconst (v := 1) hx hb dX2_fitsChute_215 (by decide) ?_
          refine lv_goto (tgt := 220) hx hb dX2_fitsChute_216 (by decide) ?_
          exact r_z hx hb hr hlocks rfl hP hS dX2_fitsChute_220 ⟨by simp [fitM, k6_0, k6_1, k6_2, k6_3, c182, c197, c212], rfl⟩
  refine lv_tableOut (tgt := 221) hx hb dX2_fitsChute_6 (tb_out3 _ k6_0 k6_1 k6_2 k6_3) (by decide) ?_
  refine lv_iload_n hx hb dX2_fitsChute_221 rfl (lv_at hl 1 rfl) ?_
  refine lv_aload_n hx hb dX2_fitsChute_222 rfl (lv_at hl 0 rfl) ?_
  refine q_get (C := RX2) (T := TX2) (N := 20) (ci := 2) (v := .ref (e_a E (33))) hx hb hts hinX2 hown hK hP at_26 rfl 8 (by decide) hf28 rfl dX2_fitsChute_223 ?_
  refine lv_iload_n hx hb dX2_fitsChute_226 rfl (lv_at hl 3 rfl) ?_
  refine q_ld hx hb hK hP at_33 (i := k) rfl (by omega) (by decide) dX2_fitsChute_227 ?_
  refine lv_iconst (v := 4) hx hb dX2_fitsChute_228 (by decide) ?_
  refine k_Si (As := [.int (w), .int (σ (33) (k)), .int (4)]) (rest := []) ⟨hx, hb, hml, hown, hts⟩ (mtX2_holds l w (σ (33) (k)) 4) (va_cwS 3 hts gX2_fitsChute_X2_holds rfl rfl rfl (by decide +kernel) ⟨Nat.le_of_ble_eq_true rfl, Nat.le_of_ble_eq_true rfl⟩) rfl hl.1 rfl (Nat.le_of_ble_eq_true rfl) dX2_fitsChute_229 ⟨Nat.le_of_ble_eq_true rfl, Nat.le_of_ble_eq_true rfl⟩ (fun r12 er12 => ?_)
  subst er12
  refine lv_if_ne (tgt := 264) hx hb dX2_fitsChute_232 (by decide) (fun c232 => ?_) (fun c232 => ?_)
  · skip
    refine lv_iconst (v := 1) hx hb dX2_fitsChute_264 (by decide) ?_
    refine lv_goto (tgt := 269) hx hb dX2_fitsChute_265 (by decide) ?_
    exact r_z hx hb hr hlocks rfl hP hS dX2_fitsChute_269 ⟨by simp [fitM, k6_0, k6_1, k6_2, k6_3, c232], rfl⟩
  · skip
    refine lv_iload_n hx hb dX2_fitsChute_235 rfl (lv_at hl 1 rfl) ?_
    refine lv_aload_n hx hb dX2_fitsChute_236 rfl (lv_at hl 0 rfl) ?_
    refine q_get (C := RX2) (T := TX2) (N := 20) (ci := 2) (v := .ref (e_a E (32))) hx hb hts hinX2 hown hK hP at_26 rfl 7 (by decide) hf25 rfl dX2_fitsChute_237 ?_
    refine lv_iload_n hx hb dX2_fitsChute_240 rfl (lv_at hl 3 rfl) ?_
    refine q_ld hx hb hK hP at_32 (i := k) rfl (by omega) (by decide) dX2_fitsChute_241 ?_
    refine lv_iconst (v := 1) hx hb dX2_fitsChute_242 (by decide) ?_
    refine k_Si (As := [.int (w), .int (σ (32) (k)), .int (1)]) (rest := []) ⟨hx, hb, hml, hown, hts⟩ (mtX2_holds l w (σ (32) (k)) 1) (va_cwS 3 hts gX2_fitsChute_X2_holds rfl rfl rfl (by decide +kernel) ⟨Nat.le_of_ble_eq_true rfl, Nat.le_of_ble_eq_true rfl⟩) rfl hl.1 rfl (Nat.le_of_ble_eq_true rfl) dX2_fitsChute_243 ⟨Nat.le_of_ble_eq_true rfl, Nat.le_of_ble_eq_true rfl⟩ (fun r13 er13 => ?_)
    subst er13
    refine lv_if_ne (tgt := 264) hx hb dX2_fitsChute_246 (by decide) (fun c246 => ?_) (fun c246 => ?_)
    · skip
      refine lv_iconst (v := 1) hx hb dX2_fitsChute_264 (by decide) ?_
      refine lv_goto (tgt := 269) hx hb dX2_fitsChute_265 (by decide) ?_
      exact r_z hx hb hr hlocks rfl hP hS dX2_fitsChute_269 ⟨by simp [fitM, k6_0, k6_1, k6_2, k6_3, c232, c246], rfl⟩
    · skip
      refine lv_iload_n hx hb dX2_fitsChute_249 rfl (lv_at hl 2 rfl) ?_
      refine lv_aload_n hx hb dX2_fitsChute_250 rfl (lv_at hl 0 rfl) ?_
      refine q_get (C := RX2) (T := TX2) (N := 20) (ci := 2) (v := .ref (e_a E (34))) hx hb hts hinX2 hown hK hP at_26 rfl 9 (by decide) hf31 rfl dX2_fitsChute_251 ?_
      refine lv_iload_n hx hb dX2_fitsChute_254 rfl (lv_at hl 3 rfl) ?_
      refine q_ld hx hb hK hP at_34 (i := k) rfl (by omega) (by decide) dX2_fitsChute_255 ?_
      refine lv_bipush (v := 8) hx hb dX2_fitsChute_256 (by decide) ?_
      refine k_Si (As := [.int (g), .int (σ (34) (k)), .int (8)]) (rest := []) ⟨hx, hb, hml, hown, hts⟩ (mtX2_holds l g (σ (34) (k)) 8) (va_cwS 3 hts gX2_fitsChute_X2_holds rfl rfl rfl (by decide +kernel) ⟨Nat.le_of_ble_eq_true rfl, Nat.le_of_ble_eq_true rfl⟩) rfl hl.1 rfl (Nat.le_of_ble_eq_true rfl) dX2_fitsChute_258 ⟨Nat.le_of_ble_eq_true rfl, Nat.le_of_ble_eq_true rfl⟩ (fun r14 er14 => ?_)
      subst er14
      refine lv_if_eq (tgt := 268) hx hb dX2_fitsChute_261 (by decide) (fun c261 => ?_) (fun c261 => ?_)
      · skip
        refine lv_iconst (v := 0) hx hb dX2_fitsChute_268 (by decide) ?_
        exact r_z hx hb hr hlocks rfl hP hS dX2_fitsChute_269 ⟨by simp [fitM, k6_0, k6_1, k6_2, k6_3, c232, c246, c261], rfl⟩
      · skip
        refine lv_iconst (v := 1) hx hb dX2_fitsChute_264 (by decide) ?_
        refine lv_goto (tgt := 269) hx hb dX2_fitsChute_265 (by decide) ?_
        exact r_z hx hb hr hlocks rfl hP hS dX2_fitsChute_269 ⟨by simp [fitM, k6_0, k6_1, k6_2, k6_3, c232, c246, c261], rfl⟩
set_option maxHeartbeats 4000000 in
set_option maxRecDepth 100000 in
/-- many -/
theorem mtX2_many (l : Launch) (E : Ev) (hok : e_ok E) (σ : Mem) (o : Nat → Int64) (x : Int32) : Met l yX2_many wsX2_many ({ frames := 0, cells := 0, slots := 0, locals := 0 } : Room) (PW E σ o [.ref (e_a E (26)), .int (x)]) (va_Qi (fun (r : Int32) (σ' : Mem) => r = nI (ct (fHome (σ 27) x) 96) ∧ σ' = σ) (BW E o) (LB (e_B E))) 0 0 (LB (e_B E)) := by
  refine Met.ofW (cc := cX2_many) (maxL := 4) (ret := (some .int)) (by decide) rfl ?_
  intro p e s m args below meth c s₁ B hml hv
  obtain ⟨rfl, hP, hK⟩ := hv
  have hx := B.exec
  have hb := B.bytes
  have hr := B.returns
  have hts := atoms_spec (ws := wsX2_many) B.pre
  have hown : s.vm.findClass RX2 = some m.cls := findClass_of_methodNamed B.named
  have hlocks := B.notSynchronized
  have hS : va_S (LB (e_B E)) s.heap s.heap [] := va_S.rf
  have hinX2 : ∀ w ∈ wsX20, w ∈ wsX2_many := fun w h => by simp only [wsX2_many, List.mem_cons, List.mem_append, h, or_true, true_or]
  have hf7 := hts (.fieldLink RX2 7 "ParcelChutesModel" "home" "[I") (by decide +kernel)
  have hl := lv_entry ([.ref (e_a E (26)), .int (x)]) (n := 4) (Nat.le_of_ble_eq_true rfl)
  rw [lg_entry_eq]
  generalize (lg_sl ([.ref (e_a E (26)), .int (x)]) ++ List.replicate (4 - (lg_sl ([.ref (e_a E (26)), .int (x)])).length) Slot.unset).toArray = ls at hl ⊢
  have hl : lv_has ls 4 [(0, .ref (e_a E (26))), (1, .int (x))] := hl
  refine lv_iconst (v := 0) hx hb dX2_many_0 (by decide) ?_
  refine lv_istore_n (lv' := [(2, .int (0)), (0, .ref (e_a E (26))), (1, .int (x))]) hx hb dX2_many_1 rfl hl (by decide) rfl (fun ls hl => ?_)
  refine lv_iconst (v := 0) hx hb dX2_many_2 (by decide) ?_
  refine lv_istore_n (lv' := [(3, .int (0)), (2, .int (0)), (0, .ref (e_a E (26))), (1, .int (x))]) hx hb dX2_many_3 rfl hl (by decide) rfl (fun ls hl => ?_)
  refine w_loop (E := E) (o := o) (ι := Nat × Int32) (μ := fun (i, y) => 96 - i) (I := fun (i, y) => i ≤ 96 ∧ y = nI (ct (fHome (σ 27) x) i)) (mem := fun _ => σ) (lv := fun (i, y) => [(3, .int (nI (i))), (2, .int (y)), (0, .ref (e_a E (26))), (1, .int (x))]) (nL := 4) (pch := 4) ?_ ((0), (0)) (show (0) ≤ 96 ∧ (0) = nI (ct (fHome (σ 27) x) (0)) from ⟨Nat.zero_le _, rfl⟩) hP hS (lv_sub hl [0, 1, 2, 3] rfl)
  rintro ⟨i, y⟩ hI IH H locs ls hP hS hl
  have hP : va_P (e_D E) vwCl (wd E σ o) H := hP
  have hl : lv_has ls 4 [(3, .int (nI (i))), (2, .int (y)), (0, .ref (e_a E (26))), (1, .int (x))] := hl
  have hI : i ≤ 96 ∧ y = nI (ct (fHome (σ 27) x) i) := hI
  refine lv_iload_n hx hb dX2_many_4 rfl (lv_at hl 0 rfl) ?_
  refine lv_bipush (v := 96) hx hb dX2_many_5 (by decide) ?_
  refine nb_ge (i := i) (j := 96) hx hb rfl rfl (by omega) (by omega) dX2_many_7 (tgt := 34) (by decide) (fun c7 => ?_) (fun c7 => ?_)
  · skip
    refine lv_iload_n hx hb dX2_many_34 rfl (lv_at hl 1 rfl) ?_
    exact r_i hx hb hr hlocks hP hS dX2_many_35 ⟨by rw [hI.2, show i = 96 by omega], rfl⟩
  · skip
    refine lv_iload_n hx hb dX2_many_10 rfl (lv_at hl 1 rfl) ?_
    refine lv_aload_n hx hb dX2_many_11 rfl (lv_at hl 2 rfl) ?_
    refine q_get (C := RX2) (T := TX2) (N := 20) (ci := 2) (v := .ref (e_a E (27))) hx hb hts hinX2 hown hK hP at_26 rfl 1 (by decide) hf7 rfl dX2_many_12 ?_
    refine lv_iload_n hx hb dX2_many_15 rfl (lv_at hl 0 rfl) ?_
    refine q_ld hx hb hK hP at_27 (i := i) rfl (by omega) (by decide) dX2_many_16 ?_
    refine lv_iload_n hx hb dX2_many_17 rfl (lv_at hl 3 rfl) ?_
    refine lv_icmp_ne (tgt := 25) hx hb dX2_many_18 (by decide) (fun c18 => ?_) (fun c18 => ?_)
    · skip
      refine lv_iconst (v := 0) hx hb dX2_many_25 (by decide) ?_
      refine lv_iadd hx hb dX2_many_26 ?_
      refine lv_istore_n (lv' := [(2, .int (y + 0)), (3, .int (nI (i))), (0, .ref (e_a E (26))), (1, .int (x))]) hx hb dX2_many_27 rfl hl (by decide) rfl (fun ls hl => ?_)
      refine lv_iinc (v := nI (i + 1)) (lv' := [(3, .int (nI (i + 1))), (2, .int (y + 0)), (0, .ref (e_a E (26))), (1, .int (x))]) hx hb dX2_many_28 hl (k := 1) rfl (by exact nI_add (i) 1) (by decide) rfl (fun ls hl => ?_)
      refine lv_goto (tgt := 4) hx hb dX2_many_31 (by decide) ?_
      exact IH ((i + 1), (y + 0)) (show (i + 1) ≤ 96 ∧ (y + 0) = nI (ct (fHome (σ 27) x) (i + 1)) from ⟨by omega, ct_0 hI.2 (by simp [fHome, c18])⟩) (by (try dsimp only); omega) _ _ _ hP hS (lv_sub hl [0, 1, 2, 3] rfl)
    · skip
      refine lv_iconst (v := 1) hx hb dX2_many_21 (by decide) ?_
      refine lv_goto (tgt := 26) hx hb dX2_many_22 (by decide) ?_
      refine lv_iadd hx hb dX2_many_26 ?_
      refine lv_istore_n (lv' := [(2, .int (y + 1)), (3, .int (nI (i))), (0, .ref (e_a E (26))), (1, .int (x))]) hx hb dX2_many_27 rfl hl (by decide) rfl (fun ls hl => ?_)
      refine lv_iinc (v := nI (i + 1)) (lv' := [(3, .int (nI (i + 1))), (2, .int (y + 1)), (0, .ref (e_a E (26))), (1, .int (x))]) hx hb dX2_many_28 hl (k := 1) rfl (by exact nI_add (i) 1) (by decide) rfl (fun ls hl => ?_)
      refine lv_goto (tgt := 4) hx hb dX2_many_31 (by decide) ?_
      exact IH ((i + 1), (y + 1)) (show (i + 1) ≤ 96 ∧ (y + 1) = nI (ct (fHome (σ 27) x) (i + 1)) from ⟨by omega, ct_1 hI.2 (by simp [fHome, c18])⟩) (by (try dsimp only); omega) _ _ _ hP hS (lv_sub hl [0, 1, 2, 3] rfl)
set_option maxHeartbeats 4000000 in
set_option maxRecDepth 100000 in
/-- isAhead -/
theorem mtX2_isAhead (l : Launch) (E : Ev) (hok : e_ok E) (σ : Mem) (o : Nat → Int64) (a b : Nat) (ha : a < 96) (hb96 : b < 96) : Met l yX2_isAhead wsX2_isAhead ({ frames := 0, cells := 0, slots := 0, locals := 0 } : Room) (PW E σ o [.ref (e_a E (26)), .int (nI (a)), .int (nI (b))]) (va_Qi (fun (r : Int32) (σ' : Mem) => r = ahd (σ 28) (σ 30) a b ∧ σ' = σ) (BW E o) (LB (e_B E))) 0 0 (LB (e_B E)) := by
  refine Met.ofW (cc := cX2_isAhead) (maxL := 4) (ret := (some .boolean)) (by decide) rfl ?_
  intro p e s m args below meth c s₁ B hml hv
  obtain ⟨rfl, hP, hK⟩ := hv
  have hx := B.exec
  have hb := B.bytes
  have hr := B.returns
  have hts := atoms_spec (ws := wsX2_isAhead) B.pre
  have hown : s.vm.findClass RX2 = some m.cls := findClass_of_methodNamed B.named
  have hlocks := B.notSynchronized
  have hS : va_S (LB (e_B E)) s.heap s.heap [] := va_S.rf
  have hinX2 : ∀ w ∈ wsX20, w ∈ wsX2_isAhead := fun w h => by simp only [wsX2_isAhead, List.mem_cons, List.mem_append, h, or_true, true_or]
  have hf13 := hts (.fieldLink RX2 13 "ParcelChutesModel" "heavy" "[I") (by decide +kernel)
  have hf19 := hts (.fieldLink RX2 19 "ParcelChutesModel" "came" "[I") (by decide +kernel)
  have hl := lv_entry ([.ref (e_a E (26)), .int (nI (a)), .int (nI (b))]) (n := 4) (Nat.le_of_ble_eq_true rfl)
  rw [lg_entry_eq]
  generalize (lg_sl ([.ref (e_a E (26)), .int (nI (a)), .int (nI (b))]) ++ List.replicate (4 - (lg_sl ([.ref (e_a E (26)), .int (nI (a)), .int (nI (b))])).length) Slot.unset).toArray = ls at hl ⊢
  have hl : lv_has ls 4 [(0, .ref (e_a E (26))), (1, .int (nI (a))), (2, .int (nI (b)))] := hl
  refine lv_aload_n hx hb dX2_isAhead_0 rfl (lv_at hl 0 rfl) ?_
  refine q_get (C := RX2) (T := TX2) (N := 20) (ci := 2) (v := .ref (e_a E (28))) hx hb hts hinX2 hown hK hP at_26 rfl 2 (by decide) hf13 rfl dX2_isAhead_1 ?_
  refine lv_iload_n hx hb dX2_isAhead_4 rfl (lv_at hl 1 rfl) ?_
  refine q_ld hx hb hK hP at_28 (i := a) rfl (by omega) (by decide) dX2_isAhead_5 ?_
  refine lv_if_le (tgt := 13) hx hb dX2_isAhead_6 (by decide) (fun c6 => ?_) (fun c6 => ?_)
  · skip
    refine lv_iconst (v := 0) hx hb dX2_isAhead_13 (by decide) ?_
    refine lv_istore_n (lv' := [(3, .int (0)), (0, .ref (e_a E (26))), (1, .int (nI (a))), (2, .int (nI (b)))]) hx hb dX2_isAhead_14 rfl hl (by decide) rfl (fun ls hl => ?_)
    refine lv_iload_n hx hb dX2_isAhead_15 rfl (lv_at hl 0 rfl) ?_
    refine lv_aload_n hx hb dX2_isAhead_16 rfl (lv_at hl 1 rfl) ?_
    refine q_get (C := RX2) (T := TX2) (N := 20) (ci := 2) (v := .ref (e_a E (28))) hx hb hts hinX2 hown hK hP at_26 rfl 2 (by decide) hf13 rfl dX2_isAhead_17 ?_
    refine lv_iload_n hx hb dX2_isAhead_20 rfl (lv_at hl 3 rfl) ?_
    refine q_ld hx hb hK hP at_28 (i := b) rfl (by omega) (by decide) dX2_isAhead_21 ?_
    refine lv_if_le (tgt := 29) hx hb dX2_isAhead_22 (by decide) (fun c22 => ?_) (fun c22 => ?_)
    · skip
      refine lv_iconst (v := 0) hx hb dX2_isAhead_29 (by decide) ?_
      refine nb_eq (i := 0) (j := 0) hx hb rfl rfl (by omega) (by omega) dX2_isAhead_30 (tgt := 35) (by decide) (fun c30 => ?_) (fun c30 => ?_)
      rotate_left
      · exact absurd c30 (by decide)
      refine lv_iload_n hx hb dX2_isAhead_35 rfl (lv_at hl 0 rfl) ?_
      refine lv_if_eq (tgt := 75) hx hb dX2_isAhead_36 (by decide) (fun c36 => ?_) (fun c36 => ?_)
      rotate_left
      · exact absurd c36 (fun h => h rfl)
      refine lv_aload_n hx hb dX2_isAhead_75 rfl (lv_at hl 1 rfl) ?_
      refine q_get (C := RX2) (T := TX2) (N := 20) (ci := 2) (v := .ref (e_a E (30))) hx hb hts hinX2 hown hK hP at_26 rfl 4 (by decide) hf19 rfl dX2_isAhead_76 ?_
      refine lv_iload_n hx hb dX2_isAhead_79 rfl (lv_at hl 2 rfl) ?_
      refine q_ld hx hb hK hP at_30 (i := a) rfl (by omega) (by decide) dX2_isAhead_80 ?_
      refine lv_aload_n hx hb dX2_isAhead_81 rfl (lv_at hl 1 rfl) ?_
      refine q_get (C := RX2) (T := TX2) (N := 20) (ci := 2) (v := .ref (e_a E (30))) hx hb hts hinX2 hown hK hP at_26 rfl 4 (by decide) hf19 rfl dX2_isAhead_82 ?_
      refine lv_iload_n hx hb dX2_isAhead_85 rfl (lv_at hl 3 rfl) ?_
      refine q_ld hx hb hK hP at_30 (i := b) rfl (by omega) (by decide) dX2_isAhead_86 ?_
      refine lv_icmp_ge (tgt := 94) hx hb dX2_isAhead_87 (by decide) (fun c87 => ?_) (fun c87 => ?_)
      · skip
        refine lv_iconst (v := 0) hx hb dX2_isAhead_94 (by decide) ?_
        exact r_z hx hb hr hlocks rfl hP hS dX2_isAhead_95 ⟨by simp [ahd, c6, c22, c87], rfl⟩
      · skip
        refine lv_iconst (v := 1) hx hb dX2_isAhead_90 (by decide) ?_
        refine lv_goto (tgt := 95) hx hb dX2_isAhead_91 (by decide) ?_
        exact r_z hx hb hr hlocks rfl hP hS dX2_isAhead_95 ⟨by simp [ahd, c6, c22, c87], rfl⟩
    · skip
      refine lv_iconst (v := 1) hx hb dX2_isAhead_25 (by decide) ?_
      refine lv_goto (tgt := 30) hx hb dX2_isAhead_26 (by decide) ?_
      refine nb_eq (i := 0) (j := 1) hx hb rfl rfl (by omega) (by omega) dX2_isAhead_30 (tgt := 35) (by decide) (fun c30 => ?_) (fun c30 => ?_)
      · exact absurd c30 (by decide)
      refine lv_iload_n hx hb dX2_isAhead_33 rfl (lv_at hl 0 rfl) ?_
      exact r_z hx hb hr hlocks rfl hP hS dX2_isAhead_34 ⟨by simp [ahd, c6, c22], rfl⟩
  · skip
    refine lv_iconst (v := 1) hx hb dX2_isAhead_9 (by decide) ?_
    refine lv_goto (tgt := 14) hx hb dX2_isAhead_10 (by decide) ?_
    refine lv_istore_n (lv' := [(3, .int (1)), (0, .ref (e_a E (26))), (1, .int (nI (a))), (2, .int (nI (b)))]) hx hb dX2_isAhead_14 rfl hl (by decide) rfl (fun ls hl => ?_)
    refine lv_iload_n hx hb dX2_isAhead_15 rfl (lv_at hl 0 rfl) ?_
    refine lv_aload_n hx hb dX2_isAhead_16 rfl (lv_at hl 1 rfl) ?_
    refine q_get (C := RX2) (T := TX2) (N := 20) (ci := 2) (v := .ref (e_a E (28))) hx hb hts hinX2 hown hK hP at_26 rfl 2 (by decide) hf13 rfl dX2_isAhead_17 ?_
    refine lv_iload_n hx hb dX2_isAhead_20 rfl (lv_at hl 3 rfl) ?_
    refine q_ld hx hb hK hP at_28 (i := b) rfl (by omega) (by decide) dX2_isAhead_21 ?_
    refine lv_if_le (tgt := 29) hx hb dX2_isAhead_22 (by decide) (fun c22 => ?_) (fun c22 => ?_)
    · skip
      refine lv_iconst (v := 0) hx hb dX2_isAhead_29 (by decide) ?_
      refine nb_eq (i := 1) (j := 0) hx hb rfl rfl (by omega) (by omega) dX2_isAhead_30 (tgt := 35) (by decide) (fun c30 => ?_) (fun c30 => ?_)
      · exact absurd c30 (by decide)
      refine lv_iload_n hx hb dX2_isAhead_33 rfl (lv_at hl 0 rfl) ?_
      exact r_z hx hb hr hlocks rfl hP hS dX2_isAhead_34 ⟨by simp [ahd, c6, c22], rfl⟩
    · skip
      refine lv_iconst (v := 1) hx hb dX2_isAhead_25 (by decide) ?_
      refine lv_goto (tgt := 30) hx hb dX2_isAhead_26 (by decide) ?_
      refine nb_eq (i := 1) (j := 1) hx hb rfl rfl (by omega) (by omega) dX2_isAhead_30 (tgt := 35) (by decide) (fun c30 => ?_) (fun c30 => ?_)
      rotate_left
      · exact absurd c30 (by decide)
      refine lv_iload_n hx hb dX2_isAhead_35 rfl (lv_at hl 0 rfl) ?_
      refine lv_if_eq (tgt := 75) hx hb dX2_isAhead_36 (by decide) (fun c36 => ?_) (fun c36 => ?_)
      · exact absurd c36 (by decide)
      refine lv_aload_n hx hb dX2_isAhead_39 rfl (lv_at hl 1 rfl) ?_
      refine q_get (C := RX2) (T := TX2) (N := 20) (ci := 2) (v := .ref (e_a E (28))) hx hb hts hinX2 hown hK hP at_26 rfl 2 (by decide) hf13 rfl dX2_isAhead_40 ?_
      refine lv_iload_n hx hb dX2_isAhead_43 rfl (lv_at hl 2 rfl) ?_
      refine q_ld hx hb hK hP at_28 (i := a) rfl (by omega) (by decide) dX2_isAhead_44 ?_
      refine lv_aload_n hx hb dX2_isAhead_45 rfl (lv_at hl 1 rfl) ?_
      refine q_get (C := RX2) (T := TX2) (N := 20) (ci := 2) (v := .ref (e_a E (28))) hx hb hts hinX2 hown hK hP at_26 rfl 2 (by decide) hf13 rfl dX2_isAhead_46 ?_
      refine lv_iload_n hx hb dX2_isAhead_49 rfl (lv_at hl 3 rfl) ?_
      refine q_ld hx hb hK hP at_28 (i := b) rfl (by omega) (by decide) dX2_isAhead_50 ?_
      refine lv_icmp_eq (tgt := 75) hx hb dX2_isAhead_51 (by decide) (fun c51 => ?_) (fun c51 => ?_)
      · skip
        refine lv_aload_n hx hb dX2_isAhead_75 rfl (lv_at hl 1 rfl) ?_
        refine q_get (C := RX2) (T := TX2) (N := 20) (ci := 2) (v := .ref (e_a E (30))) hx hb hts hinX2 hown hK hP at_26 rfl 4 (by decide) hf19 rfl dX2_isAhead_76 ?_
        refine lv_iload_n hx hb dX2_isAhead_79 rfl (lv_at hl 2 rfl) ?_
        refine q_ld hx hb hK hP at_30 (i := a) rfl (by omega) (by decide) dX2_isAhead_80 ?_
        refine lv_aload_n hx hb dX2_isAhead_81 rfl (lv_at hl 1 rfl) ?_
        refine q_get (C := RX2) (T := TX2) (N := 20) (ci := 2) (v := .ref (e_a E (30))) hx hb hts hinX2 hown hK hP at_26 rfl 4 (by decide) hf19 rfl dX2_isAhead_82 ?_
        refine lv_iload_n hx hb dX2_isAhead_85 rfl (lv_at hl 3 rfl) ?_
        refine q_ld hx hb hK hP at_30 (i := b) rfl (by omega) (by decide) dX2_isAhead_86 ?_
        refine lv_icmp_ge (tgt := 94) hx hb dX2_isAhead_87 (by decide) (fun c87 => ?_) (fun c87 => ?_)
        · skip
          refine lv_iconst (v := 0) hx hb dX2_isAhead_94 (by decide) ?_
          exact r_z hx hb hr hlocks rfl hP hS dX2_isAhead_95 ⟨by simp [ahd, c6, c22, c51, c87], rfl⟩
        · skip
          refine lv_iconst (v := 1) hx hb dX2_isAhead_90 (by decide) ?_
          refine lv_goto (tgt := 95) hx hb dX2_isAhead_91 (by decide) ?_
          exact r_z hx hb hr hlocks rfl hP hS dX2_isAhead_95 ⟨by simp [ahd, c6, c22, c51, c87], rfl⟩
      · skip
        refine lv_aload_n hx hb dX2_isAhead_54 rfl (lv_at hl 1 rfl) ?_
        refine q_get (C := RX2) (T := TX2) (N := 20) (ci := 2) (v := .ref (e_a E (28))) hx hb hts hinX2 hown hK hP at_26 rfl 2 (by decide) hf13 rfl dX2_isAhead_55 ?_
        refine lv_iload_n hx hb dX2_isAhead_58 rfl (lv_at hl 2 rfl) ?_
        refine q_ld hx hb hK hP at_28 (i := a) rfl (by omega) (by decide) dX2_isAhead_59 ?_
        refine lv_aload_n hx hb dX2_isAhead_60 rfl (lv_at hl 1 rfl) ?_
        refine q_get (C := RX2) (T := TX2) (N := 20) (ci := 2) (v := .ref (e_a E (28))) hx hb hts hinX2 hown hK hP at_26 rfl 2 (by decide) hf13 rfl dX2_isAhead_61 ?_
        refine lv_iload_n hx hb dX2_isAhead_64 rfl (lv_at hl 3 rfl) ?_
        refine q_ld hx hb hK hP at_28 (i := b) rfl (by omega) (by decide) dX2_isAhead_65 ?_
        refine lv_icmp_ge (tgt := 73) hx hb dX2_isAhead_66 (by decide) (fun c66 => ?_) (fun c66 => ?_)
        · skip
          refine lv_iconst (v := 0) hx hb dX2_isAhead_73 (by decide) ?_
          exact r_z hx hb hr hlocks rfl hP hS dX2_isAhead_74 ⟨by simp [ahd, c6, c22, c51, c66], rfl⟩
        · skip
          refine lv_iconst (v := 1) hx hb dX2_isAhead_69 (by decide) ?_
          refine lv_goto (tgt := 74) hx hb dX2_isAhead_70 (by decide) ?_
          exact r_z hx hb hr hlocks rfl hP hS dX2_isAhead_74 ⟨by simp [ahd, c6, c22, c51, c66], rfl⟩
set_option maxHeartbeats 4000000 in
set_option maxRecDepth 100000 in
/-- placeOf -/
theorem mtX2_placeOf (l : Launch) (E : Ev) (hok : e_ok E) (σ : Mem) (o : Nat → Int64) (a : Nat) (ha : a < 96) : Met l yX2_placeOf wsX2_placeOf ({ frames := 1, cells := 0, slots := 0, locals := 23 } : Room) (PW E σ o [.ref (e_a E (26)), .int (nI (a))]) (va_Qi (fun (r : Int32) (σ' : Mem) => r = nI (pl σ a) ∧ σ' = σ) (BW E o) (LB (e_B E))) 0 0 (LB (e_B E)) := by
  refine Met.ofW (cc := cX2_placeOf) (maxL := 4) (ret := (some .int)) (by decide) rfl ?_
  intro p e s m args below meth c s₁ B hml hv
  obtain ⟨rfl, hP, hK⟩ := hv
  have hx := B.exec
  have hb := B.bytes
  have hr := B.returns
  have hts := atoms_spec (ws := wsX2_placeOf) B.pre
  have hown : s.vm.findClass RX2 = some m.cls := findClass_of_methodNamed B.named
  have hlocks := B.notSynchronized
  have hS : va_S (LB (e_B E)) s.heap s.heap [] := va_S.rf
  have hinX2 : ∀ w ∈ wsX20, w ∈ wsX2_placeOf := fun w h => by simp only [wsX2_placeOf, List.mem_cons, List.mem_append, h, or_true, true_or]
  have hf7 := hts (.fieldLink RX2 7 "ParcelChutesModel" "home" "[I") (by decide +kernel)
  have hl := lv_entry ([.ref (e_a E (26)), .int (nI (a))]) (n := 4) (Nat.le_of_ble_eq_true rfl)
  rw [lg_entry_eq]
  generalize (lg_sl ([.ref (e_a E (26)), .int (nI (a))]) ++ List.replicate (4 - (lg_sl ([.ref (e_a E (26)), .int (nI (a))])).length) Slot.unset).toArray = ls at hl ⊢
  have hl : lv_has ls 4 [(0, .ref (e_a E (26))), (1, .int (nI (a)))] := hl
  refine lv_iconst (v := 0) hx hb dX2_placeOf_0 (by decide) ?_
  refine lv_istore_n (lv' := [(2, .int (0)), (0, .ref (e_a E (26))), (1, .int (nI (a)))]) hx hb dX2_placeOf_1 rfl hl (by decide) rfl (fun ls hl => ?_)
  refine lv_iconst (v := 0) hx hb dX2_placeOf_2 (by decide) ?_
  refine lv_istore_n (lv' := [(3, .int (0)), (2, .int (0)), (0, .ref (e_a E (26))), (1, .int (nI (a)))]) hx hb dX2_placeOf_3 rfl hl (by decide) rfl (fun ls hl => ?_)
  refine w_loop (E := E) (o := o) (ι := Nat × Int32) (μ := fun (i, y) => 96 - i) (I := fun (i, y) => i ≤ 96 ∧ y = nI (ct (fAhd σ a) i)) (mem := fun _ => σ) (lv := fun (i, y) => [(3, .int (nI (i))), (2, .int (y)), (0, .ref (e_a E (26))), (1, .int (nI (a)))]) (nL := 4) (pch := 4) ?_ ((0), (0)) (show (0) ≤ 96 ∧ (0) = nI (ct (fAhd σ a) (0)) from ⟨Nat.zero_le _, rfl⟩) hP hS (lv_sub hl [0, 1, 2, 3] rfl)
  rintro ⟨i, y⟩ hI IH H locs ls hP hS hl
  have hP : va_P (e_D E) vwCl (wd E σ o) H := hP
  have hl : lv_has ls 4 [(3, .int (nI (i))), (2, .int (y)), (0, .ref (e_a E (26))), (1, .int (nI (a)))] := hl
  have hI : i ≤ 96 ∧ y = nI (ct (fAhd σ a) i) := hI
  refine lv_iload_n hx hb dX2_placeOf_4 rfl (lv_at hl 0 rfl) ?_
  refine lv_bipush (v := 96) hx hb dX2_placeOf_5 (by decide) ?_
  refine nb_ge (i := i) (j := 96) hx hb rfl rfl (by omega) (by omega) dX2_placeOf_7 (tgt := 53) (by decide) (fun c7 => ?_) (fun c7 => ?_)
  · skip
    refine lv_iload_n hx hb dX2_placeOf_53 rfl (lv_at hl 1 rfl) ?_
    exact r_i hx hb hr hlocks hP hS dX2_placeOf_54 ⟨by rw [hI.2, show i = 96 by omega]; rfl, rfl⟩
  · skip
    refine lv_iload_n hx hb dX2_placeOf_10 rfl (lv_at hl 1 rfl) ?_
    refine lv_aload_n hx hb dX2_placeOf_11 rfl (lv_at hl 2 rfl) ?_
    refine q_get (C := RX2) (T := TX2) (N := 20) (ci := 2) (v := .ref (e_a E (27))) hx hb hts hinX2 hown hK hP at_26 rfl 1 (by decide) hf7 rfl dX2_placeOf_12 ?_
    refine lv_iload_n hx hb dX2_placeOf_15 rfl (lv_at hl 0 rfl) ?_
    refine q_ld hx hb hK hP at_27 (i := i) rfl (by omega) (by decide) dX2_placeOf_16 ?_
    refine lv_aload_n hx hb dX2_placeOf_17 rfl (lv_at hl 2 rfl) ?_
    refine q_get (C := RX2) (T := TX2) (N := 20) (ci := 2) (v := .ref (e_a E (27))) hx hb hts hinX2 hown hK hP at_26 rfl 1 (by decide) hf7 rfl dX2_placeOf_18 ?_
    refine lv_iload_n hx hb dX2_placeOf_21 rfl (lv_at hl 3 rfl) ?_
    refine q_ld hx hb hK hP at_27 (i := a) rfl (by omega) (by decide) dX2_placeOf_22 ?_
    refine lv_icmp_ne (tgt := 44) hx hb dX2_placeOf_23 (by decide) (fun c23 => ?_) (fun c23 => ?_)
    · skip
      refine lv_iconst (v := 0) hx hb dX2_placeOf_44 (by decide) ?_
      refine lv_iadd hx hb dX2_placeOf_45 ?_
      refine lv_istore_n (lv' := [(2, .int (y + 0)), (3, .int (nI (i))), (0, .ref (e_a E (26))), (1, .int (nI (a)))]) hx hb dX2_placeOf_46 rfl hl (by decide) rfl (fun ls hl => ?_)
      refine lv_iinc (v := nI (i + 1)) (lv' := [(3, .int (nI (i + 1))), (2, .int (y + 0)), (0, .ref (e_a E (26))), (1, .int (nI (a)))]) hx hb dX2_placeOf_47 hl (k := 1) rfl (by exact nI_add (i) 1) (by decide) rfl (fun ls hl => ?_)
      refine lv_goto (tgt := 4) hx hb dX2_placeOf_50 (by decide) ?_
      exact IH ((i + 1), (y + 0)) (show (i + 1) ≤ 96 ∧ (y + 0) = nI (ct (fAhd σ a) (i + 1)) from ⟨by omega, ct_0 hI.2 (by simp [fAhd, c23])⟩) (by (try dsimp only); omega) _ _ _ hP hS (lv_sub hl [0, 1, 2, 3] rfl)
    · skip
      refine lv_iload_n hx hb dX2_placeOf_26 rfl (lv_at hl 0 rfl) ?_
      refine lv_iload_n hx hb dX2_placeOf_27 rfl (lv_at hl 3 rfl) ?_
      refine nb_eq (i := i) (j := a) hx hb rfl rfl (by omega) (by omega) dX2_placeOf_28 (tgt := 44) (by decide) (fun c28 => ?_) (fun c28 => ?_)
      · skip
        refine lv_iconst (v := 0) hx hb dX2_placeOf_44 (by decide) ?_
        refine lv_iadd hx hb dX2_placeOf_45 ?_
        refine lv_istore_n (lv' := [(2, .int (y + 0)), (3, .int (nI (i))), (0, .ref (e_a E (26))), (1, .int (nI (a)))]) hx hb dX2_placeOf_46 rfl hl (by decide) rfl (fun ls hl => ?_)
        refine lv_iinc (v := nI (i + 1)) (lv' := [(3, .int (nI (i + 1))), (2, .int (y + 0)), (0, .ref (e_a E (26))), (1, .int (nI (a)))]) hx hb dX2_placeOf_47 hl (k := 1) rfl (by exact nI_add (i) 1) (by decide) rfl (fun ls hl => ?_)
        refine lv_goto (tgt := 4) hx hb dX2_placeOf_50 (by decide) ?_
        exact IH ((i + 1), (y + 0)) (show (i + 1) ≤ 96 ∧ (y + 0) = nI (ct (fAhd σ a) (i + 1)) from ⟨by omega, ct_0 hI.2 (by simp [fAhd, c23, c28])⟩) (by (try dsimp only); omega) _ _ _ hP hS (lv_sub hl [0, 1, 2, 3] rfl)
      · skip
        refine lv_aload_n hx hb dX2_placeOf_31 rfl (lv_at hl 2 rfl) ?_
        refine lv_iload_n hx hb dX2_placeOf_32 rfl (lv_at hl 0 rfl) ?_
        refine lv_iload_n hx hb dX2_placeOf_33 rfl (lv_at hl 3 rfl) ?_
        refine k_Vi (As := [.int (nI (i)), .int (nI (a))]) (rest := [.int (y)]) ⟨hx, hb, hml, hown, hts⟩ (mtX2_isAhead l E hok σ o i a (by omega) (by omega)) (cwV 2 hts gX2_placeOf_X2_isAhead rfl rfl rfl (by decide +kernel) ⟨Nat.le_of_ble_eq_true rfl, Nat.le_of_ble_eq_true rfl⟩) (va_recv hK.K hP (ci := 2) (q0 := 26) rfl at_26) hK hP hS rfl hl.1 rfl (Nat.le_of_ble_eq_true rfl) dX2_placeOf_34 ⟨Nat.le_of_ble_eq_true rfl, Nat.le_of_ble_eq_true rfl⟩ (fun r1 σ_2 H locs hr1 hP hS => ?_)
        obtain ⟨zhr1, ehr1⟩ := hr1
        rw [ehr1] at hP
        have zhr1 : r1 = ahd (σ 28) (σ 30) i a := zhr1
        subst zhr1
        refine lv_if_eq (tgt := 44) hx hb dX2_placeOf_37 (by decide) (fun c37 => ?_) (fun c37 => ?_)
        · skip
          refine lv_iconst (v := 0) hx hb dX2_placeOf_44 (by decide) ?_
          refine lv_iadd hx hb dX2_placeOf_45 ?_
          refine lv_istore_n (lv' := [(2, .int (y + 0)), (3, .int (nI (i))), (0, .ref (e_a E (26))), (1, .int (nI (a)))]) hx hb dX2_placeOf_46 rfl hl (by decide) rfl (fun ls hl => ?_)
          refine lv_iinc (v := nI (i + 1)) (lv' := [(3, .int (nI (i + 1))), (2, .int (y + 0)), (0, .ref (e_a E (26))), (1, .int (nI (a)))]) hx hb dX2_placeOf_47 hl (k := 1) rfl (by exact nI_add (i) 1) (by decide) rfl (fun ls hl => ?_)
          refine lv_goto (tgt := 4) hx hb dX2_placeOf_50 (by decide) ?_
          exact IH ((i + 1), (y + 0)) (show (i + 1) ≤ 96 ∧ (y + 0) = nI (ct (fAhd σ a) (i + 1)) from ⟨by omega, ct_0 hI.2 (by simp [fAhd, c23, c28, c37])⟩) (by (try dsimp only); omega) _ _ _ hP hS (lv_sub hl [0, 1, 2, 3] rfl)
        · skip
          refine lv_iconst (v := 1) hx hb dX2_placeOf_40 (by decide) ?_
          refine lv_goto (tgt := 45) hx hb dX2_placeOf_41 (by decide) ?_
          refine lv_iadd hx hb dX2_placeOf_45 ?_
          refine lv_istore_n (lv' := [(2, .int (y + 1)), (3, .int (nI (i))), (0, .ref (e_a E (26))), (1, .int (nI (a)))]) hx hb dX2_placeOf_46 rfl hl (by decide) rfl (fun ls hl => ?_)
          refine lv_iinc (v := nI (i + 1)) (lv' := [(3, .int (nI (i + 1))), (2, .int (y + 1)), (0, .ref (e_a E (26))), (1, .int (nI (a)))]) hx hb dX2_placeOf_47 hl (k := 1) rfl (by exact nI_add (i) 1) (by decide) rfl (fun ls hl => ?_)
          refine lv_goto (tgt := 4) hx hb dX2_placeOf_50 (by decide) ?_
          exact IH ((i + 1), (y + 1)) (show (i + 1) ≤ 96 ∧ (y + 1) = nI (ct (fAhd σ a) (i + 1)) from ⟨by omega, ct_1 hI.2 (by simp [fAhd, c23, c28, c37])⟩) (by (try dsimp only); omega) _ _ _ hP hS (lv_sub hl [0, 1, 2, 3] rfl)
set_option maxHeartbeats 4000000 in
set_option maxRecDepth 100000 in
/-- parcelAt -/
theorem mtX2_parcelAt (l : Launch) (E : Ev) (hok : e_ok E) (σ : Mem) (o : Nat → Int64) (x v : Int32) : Met l yX2_parcelAt wsX2_parcelAt ({ frames := 2, cells := 0, slots := 0, locals := 46 } : Room) (PW E σ o [.ref (e_a E (26)), .int (x), .int (v)]) (va_Qi (fun (r : Int32) (σ' : Mem) => ((∃ p : Nat, p < 96 ∧ r = nI p ∧ isAt σ x v p ∧ ∀ a, a < p → ¬ isAt σ x v a) ∨ (r = -1 ∧ ∀ a, a < 96 → ¬ isAt σ x v a)) ∧ σ' = σ) (BW E o) (LB (e_B E))) 0 0 (LB (e_B E)) := by
  refine Met.ofW (cc := cX2_parcelAt) (maxL := 4) (ret := (some .int)) (by decide) rfl ?_
  intro p e s m args below meth c s₁ B hml hv
  obtain ⟨rfl, hP, hK⟩ := hv
  have hx := B.exec
  have hb := B.bytes
  have hr := B.returns
  have hts := atoms_spec (ws := wsX2_parcelAt) B.pre
  have hown : s.vm.findClass RX2 = some m.cls := findClass_of_methodNamed B.named
  have hlocks := B.notSynchronized
  have hS : va_S (LB (e_B E)) s.heap s.heap [] := va_S.rf
  have hinX2 : ∀ w ∈ wsX20, w ∈ wsX2_parcelAt := fun w h => by simp only [wsX2_parcelAt, List.mem_cons, List.mem_append, h, or_true, true_or]
  have hf7 := hts (.fieldLink RX2 7 "ParcelChutesModel" "home" "[I") (by decide +kernel)
  have hl := lv_entry ([.ref (e_a E (26)), .int (x), .int (v)]) (n := 4) (Nat.le_of_ble_eq_true rfl)
  rw [lg_entry_eq]
  generalize (lg_sl ([.ref (e_a E (26)), .int (x), .int (v)]) ++ List.replicate (4 - (lg_sl ([.ref (e_a E (26)), .int (x), .int (v)])).length) Slot.unset).toArray = ls at hl ⊢
  have hl : lv_has ls 4 [(0, .ref (e_a E (26))), (1, .int (x)), (2, .int (v))] := hl
  refine lv_iconst (v := 0) hx hb dX2_parcelAt_0 (by decide) ?_
  refine lv_istore_n (lv' := [(3, .int (0)), (0, .ref (e_a E (26))), (1, .int (x)), (2, .int (v))]) hx hb dX2_parcelAt_1 rfl hl (by decide) rfl (fun ls hl => ?_)
  refine w_loop (E := E) (o := o) (ι := Nat) (μ := fun i => 96 - i) (I := fun i => i ≤ 96 ∧ ∀ a, a < i → ¬ isAt σ x v a) (mem := fun _ => σ) (lv := fun i => [(3, .int (nI (i))), (0, .ref (e_a E (26))), (1, .int (x)), (2, .int (v))]) (nL := 4) (pch := 2) ?_ (0) (show (0) ≤ 96 ∧ ∀ a, a < (0) → ¬ isAt σ x v a from ⟨Nat.zero_le _, fun a h => absurd h (Nat.not_lt_zero a)⟩) hP hS (lv_sub hl [0, 1, 2, 3] rfl)
  rintro i hI IH H locs ls hP hS hl
  have hP : va_P (e_D E) vwCl (wd E σ o) H := hP
  have hl : lv_has ls 4 [(3, .int (nI (i))), (0, .ref (e_a E (26))), (1, .int (x)), (2, .int (v))] := hl
  have hI : i ≤ 96 ∧ ∀ a, a < i → ¬ isAt σ x v a := hI
  refine lv_iload_n hx hb dX2_parcelAt_2 rfl (lv_at hl 0 rfl) ?_
  refine lv_bipush (v := 96) hx hb dX2_parcelAt_3 (by decide) ?_
  refine nb_ge (i := i) (j := 96) hx hb rfl rfl (by omega) (by omega) dX2_parcelAt_5 (tgt := 35) (by decide) (fun c5 => ?_) (fun c5 => ?_)
  · skip
    refine lv_iconst (v := (-1)) hx hb dX2_parcelAt_35 (by decide) ?_
    exact r_i hx hb hr hlocks hP hS dX2_parcelAt_36 ⟨Or.inr ⟨rfl, fun a h => hI.2 a (by omega)⟩, rfl⟩
  · skip
    refine lv_aload_n hx hb dX2_parcelAt_8 rfl (lv_at hl 1 rfl) ?_
    refine q_get (C := RX2) (T := TX2) (N := 20) (ci := 2) (v := .ref (e_a E (27))) hx hb hts hinX2 hown hK hP at_26 rfl 1 (by decide) hf7 rfl dX2_parcelAt_9 ?_
    refine lv_iload_n hx hb dX2_parcelAt_12 rfl (lv_at hl 0 rfl) ?_
    refine q_ld hx hb hK hP at_27 (i := i) rfl (by omega) (by decide) dX2_parcelAt_13 ?_
    refine lv_iload_n hx hb dX2_parcelAt_14 rfl (lv_at hl 2 rfl) ?_
    refine lv_icmp_ne (tgt := 29) hx hb dX2_parcelAt_15 (by decide) (fun c15 => ?_) (fun c15 => ?_)
    · skip
      refine lv_iinc (v := nI (i + 1)) (lv' := [(3, .int (nI (i + 1))), (0, .ref (e_a E (26))), (1, .int (x)), (2, .int (v))]) hx hb dX2_parcelAt_29 hl (k := 0) rfl (by exact nI_add (i) 1) (by decide) rfl (fun ls hl => ?_)
      refine lv_goto (tgt := 2) hx hb dX2_parcelAt_32 (by decide) ?_
      exact IH (i + 1) (show (i + 1) ≤ 96 ∧ ∀ a, a < (i + 1) → ¬ isAt σ x v a from ⟨by omega, lt_s hI.2 (fun z => c15 z.1)⟩) (by (try dsimp only); omega) _ _ _ hP hS (lv_sub hl [0, 1, 2, 3] rfl)
    · skip
      refine lv_aload_n hx hb dX2_parcelAt_18 rfl (lv_at hl 1 rfl) ?_
      refine lv_iload_n hx hb dX2_parcelAt_19 rfl (lv_at hl 0 rfl) ?_
      refine k_Vi (As := [.int (nI (i))]) (rest := []) ⟨hx, hb, hml, hown, hts⟩ (mtX2_placeOf l E hok σ o i (by omega)) (cwV 1 hts gX2_parcelAt_X2_placeOf rfl rfl rfl (by decide +kernel) ⟨Nat.le_of_ble_eq_true rfl, Nat.le_of_ble_eq_true rfl⟩) (va_recv hK.K hP (ci := 2) (q0 := 26) rfl at_26) hK hP hS rfl hl.1 rfl (Nat.le_of_ble_eq_true rfl) dX2_parcelAt_20 ⟨Nat.le_of_ble_eq_true rfl, Nat.le_of_ble_eq_true rfl⟩ (fun r1 σ_2 H locs hr1 hP hS => ?_)
      obtain ⟨rfl, ehr1⟩ := hr1
      rw [ehr1] at hP
      refine lv_iload_n hx hb dX2_parcelAt_23 rfl (lv_at hl 3 rfl) ?_
      refine lv_icmp_ne (tgt := 29) hx hb dX2_parcelAt_24 (by decide) (fun c24 => ?_) (fun c24 => ?_)
      · skip
        refine lv_iinc (v := nI (i + 1)) (lv' := [(3, .int (nI (i + 1))), (0, .ref (e_a E (26))), (1, .int (x)), (2, .int (v))]) hx hb dX2_parcelAt_29 hl (k := 0) rfl (by exact nI_add (i) 1) (by decide) rfl (fun ls hl => ?_)
        refine lv_goto (tgt := 2) hx hb dX2_parcelAt_32 (by decide) ?_
        exact IH (i + 1) (show (i + 1) ≤ 96 ∧ ∀ a, a < (i + 1) → ¬ isAt σ x v a from ⟨by omega, lt_s hI.2 (fun z => c24 z.2)⟩) (by (try dsimp only); omega) _ _ _ hP hS (lv_sub hl [0, 1, 2, 3] rfl)
      · skip
        refine lv_iload_n hx hb dX2_parcelAt_27 rfl (lv_at hl 0 rfl) ?_
        exact r_i hx hb hr hlocks hP hS dX2_parcelAt_28 ⟨Or.inl ⟨i, by omega, rfl, ⟨c15, c24⟩, hI.2⟩, rfl⟩
set_option maxHeartbeats 4000000 in
set_option maxRecDepth 100000 in
/-- putIn -/
theorem mtX2_putIn (l : Launch) (E : Ev) (hok : e_ok E) (σ : Mem) (o : Nat → Int64) (w g x : Int32) (f : Nat) (hf : f < 96) (hfe : σ 27 f = -1) (hmin : ∀ a, a < f → σ 27 a ≠ -1) : Met l yX2_putIn wsX2_putIn ({ frames := 0, cells := 0, slots := 0, locals := 0 } : Room) (PW E σ o [.ref (e_a E (26)), .int (w), .int (g), .int (x)]) (va_Qv (fun (σ' : Mem) => σ' = m_put σ f w g x) (BW E o) (LB (e_B E))) 0 0 (LB (e_B E)) := by
  refine Met.ofW (cc := cX2_putIn) (maxL := 5) (ret := none) (by decide) rfl ?_
  intro p e s m args below meth c s₁ B hml hv
  obtain ⟨rfl, hP, hK⟩ := hv
  have hx := B.exec
  have hb := B.bytes
  have hr := B.returns
  have hts := atoms_spec (ws := wsX2_putIn) B.pre
  have hown : s.vm.findClass RX2 = some m.cls := findClass_of_methodNamed B.named
  have hlocks := B.notSynchronized
  have hS : va_S (LB (e_B E)) s.heap s.heap [] := va_S.rf
  have hinX2 : ∀ w ∈ wsX20, w ∈ wsX2_putIn := fun w h => by simp only [wsX2_putIn, List.mem_cons, List.mem_append, h, or_true, true_or]
  have hf7 := hts (.fieldLink RX2 7 "ParcelChutesModel" "home" "[I") (by decide +kernel)
  have hf13 := hts (.fieldLink RX2 13 "ParcelChutesModel" "heavy" "[I") (by decide +kernel)
  have hf16 := hts (.fieldLink RX2 16 "ParcelChutesModel" "round" "[I") (by decide +kernel)
  have hf19 := hts (.fieldLink RX2 19 "ParcelChutesModel" "came" "[I") (by decide +kernel)
  have hf62 := hts (.fieldLink RX2 62 "ParcelChutesModel" "clock" "I") (by decide +kernel)
  have hl := lv_entry ([.ref (e_a E (26)), .int (w), .int (g), .int (x)]) (n := 5) (Nat.le_of_ble_eq_true rfl)
  rw [lg_entry_eq]
  generalize (lg_sl ([.ref (e_a E (26)), .int (w), .int (g), .int (x)]) ++ List.replicate (5 - (lg_sl ([.ref (e_a E (26)), .int (w), .int (g), .int (x)])).length) Slot.unset).toArray = ls at hl ⊢
  have hl : lv_has ls 5 [(0, .ref (e_a E (26))), (1, .int (w)), (2, .int (g)), (3, .int (x))] := hl
  refine lv_iconst (v := 0) hx hb dX2_putIn_0 (by decide) ?_
  refine lv_istore (lv' := [(4, .int (0)), (0, .ref (e_a E (26))), (1, .int (w)), (2, .int (g)), (3, .int (x))]) hx hb dX2_putIn_1 hl (by decide) rfl (fun ls hl => ?_)
  refine w_loop (E := E) (o := o) (ι := Nat) (μ := fun i => 96 - i) (I := fun i => i ≤ f) (mem := fun _ => σ) (lv := fun i => [(4, .int (nI (i))), (0, .ref (e_a E (26))), (1, .int (w)), (2, .int (g)), (3, .int (x))]) (nL := 5) (pch := 3) ?_ (0) (show (0) ≤ f from Nat.zero_le _) hP hS (lv_sub hl [0, 1, 2, 3, 4] rfl)
  rintro i hI IH H locs ls hP hS hl
  have hP : va_P (e_D E) vwCl (wd E σ o) H := hP
  have hl : lv_has ls 5 [(4, .int (nI (i))), (0, .ref (e_a E (26))), (1, .int (w)), (2, .int (g)), (3, .int (x))] := hl
  have hI : i ≤ f := hI
  refine lv_aload_n hx hb dX2_putIn_3 rfl (lv_at hl 1 rfl) ?_
  refine q_get (C := RX2) (T := TX2) (N := 20) (ci := 2) (v := .ref (e_a E (27))) hx hb hts hinX2 hown hK hP at_26 rfl 1 (by decide) hf7 rfl dX2_putIn_4 ?_
  refine lv_iload hx hb dX2_putIn_7 (lv_at hl 0 rfl) ?_
  refine q_ld hx hb hK hP at_27 (i := i) rfl (by omega) (by decide) dX2_putIn_9 ?_
  refine lv_iconst (v := (-1)) hx hb dX2_putIn_10 (by decide) ?_
  refine lv_icmp_eq (tgt := 20) hx hb dX2_putIn_11 (by decide) (fun c11 => ?_) (fun c11 => ?_)
  · skip
    have hif : i = f := Nat.le_antisymm hI (Nat.not_lt.mp (fun z => hmin i z c11))
    subst hif
    refine lv_aload_n hx hb dX2_putIn_20 rfl (lv_at hl 1 rfl) ?_
    refine q_get (C := RX2) (T := TX2) (N := 20) (ci := 2) (v := .ref (e_a E (27))) hx hb hts hinX2 hown hK hP at_26 rfl 1 (by decide) hf7 rfl dX2_putIn_21 ?_
    refine lv_iload hx hb dX2_putIn_24 (lv_at hl 0 rfl) ?_
    refine lv_iload_n hx hb dX2_putIn_26 rfl (lv_at hl 4 rfl) ?_
    refine q_st hx hb hok hK hP hS at_27 (fun _ => rfl) (by decide) (i := i) rfl (by omega) (by decide) dX2_putIn_27 (fun H locs hP hS => ?_)
    refine lv_aload_n hx hb dX2_putIn_28 rfl (lv_at hl 1 rfl) ?_
    refine q_get (C := RX2) (T := TX2) (N := 20) (ci := 2) (v := .ref (e_a E (28))) hx hb hts hinX2 hown hK hP at_26 rfl 2 (by decide) hf13 rfl dX2_putIn_29 ?_
    refine lv_iload hx hb dX2_putIn_32 (lv_at hl 0 rfl) ?_
    refine lv_iload_n hx hb dX2_putIn_34 rfl (lv_at hl 2 rfl) ?_
    refine q_st hx hb hok hK hP hS at_28 (fun _ => rfl) (by decide) (i := i) rfl (by omega) (by decide) dX2_putIn_35 (fun H locs hP hS => ?_)
    refine lv_aload_n hx hb dX2_putIn_36 rfl (lv_at hl 1 rfl) ?_
    refine q_get (C := RX2) (T := TX2) (N := 20) (ci := 2) (v := .ref (e_a E (29))) hx hb hts hinX2 hown hK hP at_26 rfl 3 (by decide) hf16 rfl dX2_putIn_37 ?_
    refine lv_iload hx hb dX2_putIn_40 (lv_at hl 0 rfl) ?_
    refine lv_iload_n hx hb dX2_putIn_42 rfl (lv_at hl 3 rfl) ?_
    refine q_st hx hb hok hK hP hS at_29 (fun _ => rfl) (by decide) (i := i) rfl (by omega) (by decide) dX2_putIn_43 (fun H locs hP hS => ?_)
    refine lv_aload_n hx hb dX2_putIn_44 rfl (lv_at hl 1 rfl) ?_
    refine q_get (C := RX2) (T := TX2) (N := 20) (ci := 2) (v := .ref (e_a E (30))) hx hb hts hinX2 hown hK hP at_26 rfl 4 (by decide) hf19 rfl dX2_putIn_45 ?_
    refine lv_iload hx hb dX2_putIn_48 (lv_at hl 0 rfl) ?_
    refine lv_aload_n hx hb dX2_putIn_50 rfl (lv_at hl 1 rfl) ?_
    refine q_get (C := RX2) (T := TX2) (N := 20) (ci := 2) (v := .int (σ (26) 5)) hx hb hts hinX2 hown hK hP at_26 rfl 5 (by decide) hf62 rfl dX2_putIn_51 ?_
    refine q_st hx hb hok hK hP hS at_30 (fun _ => rfl) (by decide) (i := i) rfl (by omega) (by decide) dX2_putIn_54 (fun H locs hP hS => ?_)
    refine lv_aload_n hx hb dX2_putIn_55 rfl (lv_at hl 1 rfl) ?_
    refine lv_dup hx hb dX2_putIn_56 rfl ?_
    refine q_get (C := RX2) (T := TX2) (N := 20) (ci := 2) (v := .int (σ (26) 5)) hx hb hts hinX2 hown hK hP at_26 rfl 5 (by decide) hf62 rfl dX2_putIn_57 ?_
    refine lv_iconst (v := 1) hx hb dX2_putIn_60 (by decide) ?_
    refine lv_iadd hx hb dX2_putIn_61 ?_
    refine q_put (C := RX2) (T := TX2) (N := 20) (ci := 2) (ty := .int) (v := (σ (26) 5) + 1) hx hb hts hinX2 tyX2 tyX2_ok nmX2 hown hok hK hP hS at_26 (by decide) rfl 5 (by decide) hf62 rfl (tyX2_ok 5 (by decide)) rfl rfl (Nat.le_of_ble_eq_true rfl) rfl dX2_putIn_62 (fun H locs hP hS => ?_)
    exact r_v hx hb hr hlocks hP hS dX2_putIn_65 rfl
  · skip
    refine lv_iinc (v := nI (i + 1)) (lv' := [(4, .int (nI (i + 1))), (0, .ref (e_a E (26))), (1, .int (w)), (2, .int (g)), (3, .int (x))]) hx hb dX2_putIn_14 hl (k := 0) rfl (by exact nI_add (i) 1) (by decide) rfl (fun ls hl => ?_)
    refine lv_goto (tgt := 3) hx hb dX2_putIn_17 (by decide) ?_
    exact IH (i + 1) (show (i + 1) ≤ f from (Nat.lt_of_le_of_ne hI (fun z => c11 (by rw [z]; exact hfe)))) (by (try dsimp only); omega) _ _ _ hP hS (lv_sub hl [0, 1, 2, 3, 4] rfl)
set_option maxHeartbeats 4000000 in
set_option maxRecDepth 100000 in
/-- putAside -/
theorem mtX2_putAside (l : Launch) (E : Ev) (hok : e_ok E) (σ : Mem) (o : Nat → Int64) (w g : Int32) : Met l yX2_putAside wsX2_putAside ({ frames := 0, cells := 0, slots := 0, locals := 0 } : Room) (PW E σ o [.ref (e_a E (26)), .int (w), .int (g)]) (va_Qv (fun (σ' : Mem) => σ' = asM σ w g) (BW E o) (LB (e_B E))) 0 0 (LB (e_B E)) := by
  refine Met.ofW (cc := cX2_putAside) (maxL := 3) (ret := none) (by decide) rfl ?_
  intro p e s m args below meth c s₁ B hml hv
  obtain ⟨rfl, hP, hK⟩ := hv
  have hx := B.exec
  have hb := B.bytes
  have hr := B.returns
  have hts := atoms_spec (ws := wsX2_putAside) B.pre
  have hown : s.vm.findClass RX2 = some m.cls := findClass_of_methodNamed B.named
  have hlocks := B.notSynchronized
  have hS : va_S (LB (e_B E)) s.heap s.heap [] := va_S.rf
  have hinX2 : ∀ w ∈ wsX20, w ∈ wsX2_putAside := fun w h => by simp only [wsX2_putAside, List.mem_cons, List.mem_append, h, or_true, true_or]
  have hf65 := hts (.fieldLink RX2 65 "ParcelChutesModel" "lost" "I") (by decide +kernel)
  have hf68 := hts (.fieldLink RX2 68 "ParcelChutesModel" "lostWeight" "I") (by decide +kernel)
  have hf71 := hts (.fieldLink RX2 71 "ParcelChutesModel" "lostGirth" "I") (by decide +kernel)
  have hl := lv_entry ([.ref (e_a E (26)), .int (w), .int (g)]) (n := 3) (Nat.le_of_ble_eq_true rfl)
  rw [lg_entry_eq]
  generalize (lg_sl ([.ref (e_a E (26)), .int (w), .int (g)]) ++ List.replicate (3 - (lg_sl ([.ref (e_a E (26)), .int (w), .int (g)])).length) Slot.unset).toArray = ls at hl ⊢
  have hl : lv_has ls 3 [(0, .ref (e_a E (26))), (1, .int (w)), (2, .int (g))] := hl
  refine lv_aload_n hx hb dX2_putAside_0 rfl (lv_at hl 0 rfl) ?_
  refine lv_dup hx hb dX2_putAside_1 rfl ?_
  refine q_get (C := RX2) (T := TX2) (N := 20) (ci := 2) (v := .int (σ (26) 17)) hx hb hts hinX2 hown hK hP at_26 rfl 17 (by decide) hf65 rfl dX2_putAside_2 ?_
  refine lv_iconst (v := 1) hx hb dX2_putAside_5 (by decide) ?_
  refine lv_iadd hx hb dX2_putAside_6 ?_
  refine q_put (C := RX2) (T := TX2) (N := 20) (ci := 2) (ty := .int) (v := (σ (26) 17) + 1) hx hb hts hinX2 tyX2 tyX2_ok nmX2 hown hok hK hP hS at_26 (by decide) rfl 17 (by decide) hf65 rfl (tyX2_ok 17 (by decide)) rfl rfl (Nat.le_of_ble_eq_true rfl) rfl dX2_putAside_7 (fun H locs hP hS => ?_)
  refine lv_aload_n hx hb dX2_putAside_10 rfl (lv_at hl 0 rfl) ?_
  refine lv_iload_n hx hb dX2_putAside_11 rfl (lv_at hl 1 rfl) ?_
  refine q_put (C := RX2) (T := TX2) (N := 20) (ci := 2) (ty := .int) (v := w) hx hb hts hinX2 tyX2 tyX2_ok nmX2 hown hok hK hP hS at_26 (by decide) rfl 18 (by decide) hf68 rfl (tyX2_ok 18 (by decide)) rfl rfl (Nat.le_of_ble_eq_true rfl) rfl dX2_putAside_12 (fun H locs hP hS => ?_)
  refine lv_aload_n hx hb dX2_putAside_15 rfl (lv_at hl 0 rfl) ?_
  refine lv_iload_n hx hb dX2_putAside_16 rfl (lv_at hl 2 rfl) ?_
  refine q_put (C := RX2) (T := TX2) (N := 20) (ci := 2) (ty := .int) (v := g) hx hb hts hinX2 tyX2 tyX2_ok nmX2 hown hok hK hP hS at_26 (by decide) rfl 19 (by decide) hf71 rfl (tyX2_ok 19 (by decide)) rfl rfl (Nat.le_of_ble_eq_true rfl) rfl dX2_putAside_17 (fun H locs hP hS => ?_)
  exact r_v hx hb hr hlocks hP hS dX2_putAside_20 rfl
set_option maxHeartbeats 4000000 in
set_option maxRecDepth 100000 in
/-- sort -/
theorem mtX2_sort (l : Launch) (E : Ev) (hok : e_ok E) (σ : Mem) (o : Nat → Int64) (x v : Int32) : Met l yX2_sort wsX2_sort ({ frames := 2, cells := 0, slots := 0, locals := 41 } : Room) (PW E σ o [.ref (e_a E (26)), .int (x), .int (v)]) (va_Qi (fun (r : Int32) (σ' : Mem) => (tS σ x v ≠ 0 ∧ r = 0 ∧ σ' = m_up σ 26 0 (tS σ x v)) ∨ (tS σ x v = 0 ∧ ∃ k : Nat, k < 8 ∧ x = nI k ∧ r = σ 31 k ∧ σ' = m_up (m_up σ 26 0 0) 31 k v)) (BW E o) (LB (e_B E))) 0 0 (LB (e_B E)) := by
  refine Met.ofW (cc := cX2_sort) (maxL := 4) (ret := (some .int)) (by decide) rfl ?_
  intro p e s m args below meth c s₁ B hml hv
  obtain ⟨rfl, hP, hK⟩ := hv
  have hx := B.exec
  have hb := B.bytes
  have hr := B.returns
  have hts := atoms_spec (ws := wsX2_sort) B.pre
  have hown : s.vm.findClass RX2 = some m.cls := findClass_of_methodNamed B.named
  have hlocks := B.notSynchronized
  have hS : va_S (LB (e_B E)) s.heap s.heap [] := va_S.rf
  have hinX2 : ∀ w ∈ wsX20, w ∈ wsX2_sort := fun w h => by simp only [wsX2_sort, List.mem_cons, List.mem_append, h, or_true, true_or]
  have hf22 := hts (.fieldLink RX2 22 "ParcelChutesModel" "kind" "[I") (by decide +kernel)
  have hf38 := hts (.fieldLink RX2 38 "ParcelChutesModel" "thrown" "I") (by decide +kernel)
  have hl := lv_entry ([.ref (e_a E (26)), .int (x), .int (v)]) (n := 4) (Nat.le_of_ble_eq_true rfl)
  rw [lg_entry_eq]
  generalize (lg_sl ([.ref (e_a E (26)), .int (x), .int (v)]) ++ List.replicate (4 - (lg_sl ([.ref (e_a E (26)), .int (x), .int (v)])).length) Slot.unset).toArray = ls at hl ⊢
  have hl : lv_has ls 4 [(0, .ref (e_a E (26))), (1, .int (x)), (2, .int (v))] := hl
  refine lv_aload_n hx hb dX2_sort_0 rfl (lv_at hl 0 rfl) ?_
  refine lv_iload_n hx hb dX2_sort_1 rfl (lv_at hl 1 rfl) ?_
  refine cut_w (ls := ls) (E := E) (o := o) (σ := σ) (pcj := 37) (rest := [.ref (e_a E (26))]) (P := fun vv : Int32 => vv = tS σ x v) ?_ (fun J37 => ?_)
  · intro v1 H locs ev1 hP hS
    subst ev1
    refine q_put (C := RX2) (T := TX2) (N := 20) (ci := 2) (ty := .int) (v := tS σ x v) hx hb hts hinX2 tyX2 tyX2_ok nmX2 hown hok hK hP hS at_26 (by decide) rfl 0 (by decide) hf38 rfl (tyX2_ok 0 (by decide)) rfl rfl (Nat.le_of_ble_eq_true rfl) rfl dX2_sort_37 (fun H locs hP hS => ?_)
    refine lv_aload_n hx hb dX2_sort_40 rfl (lv_at hl 0 rfl) ?_
    refine q_get (C := RX2) (T := TX2) (N := 20) (ci := 2) (v := .int (tS σ x v)) hx hb hts hinX2 hown hK hP at_26 rfl 0 (by decide) hf38 rfl dX2_sort_41 ?_
    refine lv_if_eq (tgt := 49) hx hb dX2_sort_44 (by decide) (fun c44 => ?_) (fun c44 => ?_)
    · skip
      obtain ⟨k, hk, ek⟩ := tS_ch c44
      rw [c44] at hP
      refine lv_aload_n hx hb dX2_sort_49 rfl (lv_at hl 0 rfl) ?_
      refine q_get (C := RX2) (T := TX2) (N := 20) (ci := 2) (v := .ref (e_a E (31))) hx hb hts hinX2 hown hK hP at_26 rfl 6 (by decide) hf22 rfl dX2_sort_50 ?_
      refine lv_iload_n hx hb dX2_sort_53 rfl (lv_at hl 1 rfl) ?_
      refine q_ldv hx hb hK hP at_31 (i := k) ek (by omega) (by decide) dX2_sort_54 (v := σ (31) (k)) rfl ?_
      refine lv_istore_n (lv' := [(3, .int (σ (31) (k))), (0, .ref (e_a E (26))), (1, .int (x)), (2, .int (v))]) hx hb dX2_sort_55 rfl hl (by decide) rfl (fun ls hl => ?_)
      refine lv_aload_n hx hb dX2_sort_56 rfl (lv_at hl 1 rfl) ?_
      refine q_get (C := RX2) (T := TX2) (N := 20) (ci := 2) (v := .ref (e_a E (31))) hx hb hts hinX2 hown hK hP at_26 rfl 6 (by decide) hf22 rfl dX2_sort_57 ?_
      refine lv_iload_n hx hb dX2_sort_60 rfl (lv_at hl 2 rfl) ?_
      refine lv_iload_n hx hb dX2_sort_61 rfl (lv_at hl 3 rfl) ?_
      refine q_st hx hb hok hK hP hS at_31 (fun _ => rfl) (by decide) (i := k) ek (by omega) (by decide) dX2_sort_62 (fun H locs hP hS => ?_)
      refine lv_iload_n hx hb dX2_sort_63 rfl (lv_at hl 0 rfl) ?_
      exact r_i hx hb hr hlocks hP hS dX2_sort_64 (Or.inr ⟨c44, k, hk, ek, rfl, rfl⟩)
    · skip
      refine lv_iconst (v := 0) hx hb dX2_sort_47 (by decide) ?_
      exact r_i hx hb hr hlocks hP hS dX2_sort_48 (Or.inl ⟨c44, rfl, rfl⟩)
  refine k_Si (As := [.int (x)]) (rest := [.ref (e_a E (26))]) ⟨hx, hb, hml, hown, hts⟩ (mtX2_isChute l x) (va_cwS 1 hts gX2_sort_X2_isChute rfl rfl rfl (by decide +kernel) ⟨Nat.le_of_ble_eq_true rfl, Nat.le_of_ble_eq_true rfl⟩) rfl hl.1 rfl (Nat.le_of_ble_eq_true rfl) dX2_sort_2 ⟨Nat.le_of_ble_eq_true rfl, Nat.le_of_ble_eq_true rfl⟩ (fun r2 er2 => ?_)
  subst er2
  refine lv_if_ne (tgt := 12) hx hb dX2_sort_5 (by decide) (fun c5 => ?_) (fun c5 => ?_)
  · skip
    refine lv_iload_n hx hb dX2_sort_12 rfl (lv_at hl 2 rfl) ?_
    refine lv_iconst (v := 4) hx hb dX2_sort_13 (by decide) ?_
    refine k_Si (As := [.int (v), .int (4)]) (rest := [.ref (e_a E (26))]) ⟨hx, hb, hml, hown, hts⟩ (mtX2_isWithin l v 4) (va_cwS 2 hts gX2_sort_X2_isWithin rfl rfl rfl (by decide +kernel) ⟨Nat.le_of_ble_eq_true rfl, Nat.le_of_ble_eq_true rfl⟩) rfl hl.1 rfl (Nat.le_of_ble_eq_true rfl) dX2_sort_14 ⟨Nat.le_of_ble_eq_true rfl, Nat.le_of_ble_eq_true rfl⟩ (fun r3 er3 => ?_)
    subst er3
    refine lv_if_ne (tgt := 24) hx hb dX2_sort_17 (by decide) (fun c17 => ?_) (fun c17 => ?_)
    · skip
      refine lv_aload_n hx hb dX2_sort_24 rfl (lv_at hl 0 rfl) ?_
      refine lv_iload_n hx hb dX2_sort_25 rfl (lv_at hl 1 rfl) ?_
      refine k_Vi (As := [.int (x)]) (rest := [.ref (e_a E (26))]) ⟨hx, hb, hml, hown, hts⟩ (mtX2_many l E hok σ o x) (cwV 1 hts gX2_sort_X2_many rfl rfl rfl (by decide +kernel) ⟨Nat.le_of_ble_eq_true rfl, Nat.le_of_ble_eq_true rfl⟩) (va_recv hK.K hP (ci := 2) (q0 := 26) rfl at_26) hK hP hS rfl hl.1 rfl (Nat.le_of_ble_eq_true rfl) dX2_sort_26 ⟨Nat.le_of_ble_eq_true rfl, Nat.le_of_ble_eq_true rfl⟩ (fun r4 σ_5 H locs hr4 hP hS => ?_)
      obtain ⟨zhr4, ehr4⟩ := hr4
      rw [ehr4] at hP
      have zhr4 : r4 = nI (ct (fHome (σ 27) x) 96) := zhr4
      subst zhr4
      refine lv_if_le (tgt := 36) hx hb dX2_sort_29 (by decide) (fun c29 => ?_) (fun c29 => ?_)
      · skip
        refine lv_iconst (v := 0) hx hb dX2_sort_36 (by decide) ?_
        exact J37 _ _ _ (by simp [tS, c5, c17, c29]) hP hS
      · skip
        refine lv_iconst (v := 3) hx hb dX2_sort_32 (by decide) ?_
        refine lv_goto (tgt := 37) hx hb dX2_sort_33 (by decide) ?_
        exact J37 _ _ _ (by simp [tS, c5, c17, c29]) hP hS
    · skip
      refine lv_iconst (v := 2) hx hb dX2_sort_20 (by decide) ?_
      refine lv_goto (tgt := 37) hx hb dX2_sort_21 (by decide) ?_
      exact J37 _ _ _ (by simp [tS, c5, c17]) hP hS
  · skip
    refine lv_iconst (v := 1) hx hb dX2_sort_8 (by decide) ?_
    refine lv_goto (tgt := 37) hx hb dX2_sort_9 (by decide) ?_
    exact J37 _ _ _ (by simp [tS, c5]) hP hS
set_option maxHeartbeats 4000000 in
set_option maxRecDepth 100000 in
/-- limits -/
theorem mtX2_limits (l : Launch) (E : Ev) (hok : e_ok E) (σ : Mem) (o : Nat → Int64) (x a b d : Int32) : Met l yX2_limits wsX2_limits ({ frames := 2, cells := 0, slots := 0, locals := 43 } : Room) (PW E σ o [.ref (e_a E (26)), .int (x), .int (a), .int (b), .int (d)]) (va_Qi (fun (r : Int32) (σ' : Mem) => (tL x a b d ≠ 0 ∧ r = 0 ∧ σ' = m_up σ 26 0 (tL x a b d)) ∨ (tL x a b d = 0 ∧ ∃ k : Nat, k < 8 ∧ x = nI k ∧ r = p1 a + p1 b + p1 d ∧ σ' = m_up (m_up (m_up (m_up σ 26 0 0) 32 k a) 33 k b) 34 k d)) (BW E o) (LB (e_B E))) 0 0 (LB (e_B E)) := by
  refine Met.ofW (cc := cX2_limits) (maxL := 5) (ret := (some .int)) (by decide) rfl ?_
  intro p e s m args below meth c s₁ B hml hv
  obtain ⟨rfl, hP, hK⟩ := hv
  have hx := B.exec
  have hb := B.bytes
  have hr := B.returns
  have hts := atoms_spec (ws := wsX2_limits) B.pre
  have hown : s.vm.findClass RX2 = some m.cls := findClass_of_methodNamed B.named
  have hlocks := B.notSynchronized
  have hS : va_S (LB (e_B E)) s.heap s.heap [] := va_S.rf
  have hinX2 : ∀ w ∈ wsX20, w ∈ wsX2_limits := fun w h => by simp only [wsX2_limits, List.mem_cons, List.mem_append, h, or_true, true_or]
  have hf25 := hts (.fieldLink RX2 25 "ParcelChutesModel" "low" "[I") (by decide +kernel)
  have hf28 := hts (.fieldLink RX2 28 "ParcelChutesModel" "high" "[I") (by decide +kernel)
  have hf31 := hts (.fieldLink RX2 31 "ParcelChutesModel" "wide" "[I") (by decide +kernel)
  have hf38 := hts (.fieldLink RX2 38 "ParcelChutesModel" "thrown" "I") (by decide +kernel)
  have hl := lv_entry ([.ref (e_a E (26)), .int (x), .int (a), .int (b), .int (d)]) (n := 5) (Nat.le_of_ble_eq_true rfl)
  rw [lg_entry_eq]
  generalize (lg_sl ([.ref (e_a E (26)), .int (x), .int (a), .int (b), .int (d)]) ++ List.replicate (5 - (lg_sl ([.ref (e_a E (26)), .int (x), .int (a), .int (b), .int (d)])).length) Slot.unset).toArray = ls at hl ⊢
  have hl : lv_has ls 5 [(0, .ref (e_a E (26))), (1, .int (x)), (2, .int (a)), (3, .int (b)), (4, .int (d))] := hl
  refine lv_aload_n hx hb dX2_limits_0 rfl (lv_at hl 0 rfl) ?_
  refine lv_iload_n hx hb dX2_limits_1 rfl (lv_at hl 1 rfl) ?_
  refine cut_w (ls := ls) (E := E) (o := o) (σ := σ) (pcj := 59) (rest := [.ref (e_a E (26))]) (P := fun vv : Int32 => vv = tL x a b d) ?_ (fun J59 => ?_)
  · intro v1 H locs ev1 hP hS
    subst ev1
    refine q_put (C := RX2) (T := TX2) (N := 20) (ci := 2) (ty := .int) (v := tL x a b d) hx hb hts hinX2 tyX2 tyX2_ok nmX2 hown hok hK hP hS at_26 (by decide) rfl 0 (by decide) hf38 rfl (tyX2_ok 0 (by decide)) rfl rfl (Nat.le_of_ble_eq_true rfl) rfl dX2_limits_59 (fun H locs hP hS => ?_)
    refine lv_aload_n hx hb dX2_limits_62 rfl (lv_at hl 0 rfl) ?_
    refine q_get (C := RX2) (T := TX2) (N := 20) (ci := 2) (v := .int (tL x a b d)) hx hb hts hinX2 hown hK hP at_26 rfl 0 (by decide) hf38 rfl dX2_limits_63 ?_
    refine lv_if_eq (tgt := 71) hx hb dX2_limits_66 (by decide) (fun c66 => ?_) (fun c66 => ?_)
    · skip
      obtain ⟨k, hk, ek⟩ := tL_ch c66
      rw [c66] at hP
      refine lv_aload_n hx hb dX2_limits_71 rfl (lv_at hl 0 rfl) ?_
      refine q_get (C := RX2) (T := TX2) (N := 20) (ci := 2) (v := .ref (e_a E (32))) hx hb hts hinX2 hown hK hP at_26 rfl 7 (by decide) hf25 rfl dX2_limits_72 ?_
      refine lv_iload_n hx hb dX2_limits_75 rfl (lv_at hl 1 rfl) ?_
      refine lv_iload_n hx hb dX2_limits_76 rfl (lv_at hl 2 rfl) ?_
      refine q_st hx hb hok hK hP hS at_32 (fun _ => rfl) (by decide) (i := k) ek (by omega) (by decide) dX2_limits_77 (fun H locs hP hS => ?_)
      refine lv_aload_n hx hb dX2_limits_78 rfl (lv_at hl 0 rfl) ?_
      refine q_get (C := RX2) (T := TX2) (N := 20) (ci := 2) (v := .ref (e_a E (33))) hx hb hts hinX2 hown hK hP at_26 rfl 8 (by decide) hf28 rfl dX2_limits_79 ?_
      refine lv_iload_n hx hb dX2_limits_82 rfl (lv_at hl 1 rfl) ?_
      refine lv_iload_n hx hb dX2_limits_83 rfl (lv_at hl 3 rfl) ?_
      refine q_st hx hb hok hK hP hS at_33 (fun _ => rfl) (by decide) (i := k) ek (by omega) (by decide) dX2_limits_84 (fun H locs hP hS => ?_)
      refine lv_aload_n hx hb dX2_limits_85 rfl (lv_at hl 0 rfl) ?_
      refine q_get (C := RX2) (T := TX2) (N := 20) (ci := 2) (v := .ref (e_a E (34))) hx hb hts hinX2 hown hK hP at_26 rfl 9 (by decide) hf31 rfl dX2_limits_86 ?_
      refine lv_iload_n hx hb dX2_limits_89 rfl (lv_at hl 1 rfl) ?_
      refine lv_iload hx hb dX2_limits_90 (lv_at hl 4 rfl) ?_
      refine q_st hx hb hok hK hP hS at_34 (fun _ => rfl) (by decide) (i := k) ek (by omega) (by decide) dX2_limits_92 (fun H locs hP hS => ?_)
      refine lv_iload_n hx hb dX2_limits_93 rfl (lv_at hl 2 rfl) ?_
      refine cut_i (ls := ls) (pcj := 102) (rest := []) (P := fun vv : Int32 => vv = p1 a) ?_ (fun J102 => ?_)
      · intro v2 ev2
        subst ev2
        refine lv_iload_n hx hb dX2_limits_102 rfl (lv_at hl 3 rfl) ?_
        refine cut_i (ls := ls) (pcj := 111) (rest := [.int (p1 a)]) (P := fun vv : Int32 => vv = p1 b) ?_ (fun J111 => ?_)
        · intro v3 ev3
          subst ev3
          refine lv_iadd hx hb dX2_limits_111 ?_
          refine lv_iload hx hb dX2_limits_112 (lv_at hl 4 rfl) ?_
          refine cut_i (ls := ls) (pcj := 122) (rest := [.int ((p1 a) + (p1 b))]) (P := fun vv : Int32 => vv = p1 d) ?_ (fun J122 => ?_)
          · intro v4 ev4
            subst ev4
            refine lv_iadd hx hb dX2_limits_122 ?_
            exact r_i hx hb hr hlocks hP hS dX2_limits_123 (Or.inr ⟨c66, k, hk, ek, rfl, rfl⟩)
          refine lv_if_le (tgt := 121) hx hb dX2_limits_114 (by decide) (fun c114 => ?_) (fun c114 => ?_)
          · skip
            refine lv_iconst (v := 0) hx hb dX2_limits_121 (by decide) ?_
            exact J122 _ (by simp [p1, c66, c114])
          · skip
            refine lv_iconst (v := 1) hx hb dX2_limits_117 (by decide) ?_
            refine lv_goto (tgt := 122) hx hb dX2_limits_118 (by decide) ?_
            exact J122 _ (by simp [p1, c66, c114])
        refine lv_if_le (tgt := 110) hx hb dX2_limits_103 (by decide) (fun c103 => ?_) (fun c103 => ?_)
        · skip
          refine lv_iconst (v := 0) hx hb dX2_limits_110 (by decide) ?_
          exact J111 _ (by simp [p1, c66, c103])
        · skip
          refine lv_iconst (v := 1) hx hb dX2_limits_106 (by decide) ?_
          refine lv_goto (tgt := 111) hx hb dX2_limits_107 (by decide) ?_
          exact J111 _ (by simp [p1, c66, c103])
      refine lv_if_le (tgt := 101) hx hb dX2_limits_94 (by decide) (fun c94 => ?_) (fun c94 => ?_)
      · skip
        refine lv_iconst (v := 0) hx hb dX2_limits_101 (by decide) ?_
        exact J102 _ (by simp [p1, c66, c94])
      · skip
        refine lv_iconst (v := 1) hx hb dX2_limits_97 (by decide) ?_
        refine lv_goto (tgt := 102) hx hb dX2_limits_98 (by decide) ?_
        exact J102 _ (by simp [p1, c66, c94])
    · skip
      refine lv_iconst (v := 0) hx hb dX2_limits_69 (by decide) ?_
      exact r_i hx hb hr hlocks hP hS dX2_limits_70 (Or.inl ⟨c66, rfl, rfl⟩)
  refine k_Si (As := [.int (x)]) (rest := [.ref (e_a E (26))]) ⟨hx, hb, hml, hown, hts⟩ (mtX2_isChute l x) (va_cwS 1 hts gX2_limits_X2_isChute rfl rfl rfl (by decide +kernel) ⟨Nat.le_of_ble_eq_true rfl, Nat.le_of_ble_eq_true rfl⟩) rfl hl.1 rfl (Nat.le_of_ble_eq_true rfl) dX2_limits_2 ⟨Nat.le_of_ble_eq_true rfl, Nat.le_of_ble_eq_true rfl⟩ (fun r5 er5 => ?_)
  subst er5
  refine lv_if_ne (tgt := 12) hx hb dX2_limits_5 (by decide) (fun c5 => ?_) (fun c5 => ?_)
  · skip
    refine lv_iload_n hx hb dX2_limits_12 rfl (lv_at hl 2 rfl) ?_
    refine lv_ldc (v := 800000) hx hb hown (hts (.constant RX2 46 (800000)) (by decide +kernel)) dX2_limits_13 ?_
    refine k_Si (As := [.int (a), .int (800000)]) (rest := [.ref (e_a E (26))]) ⟨hx, hb, hml, hown, hts⟩ (mtX2_isWithin l a 800000) (va_cwS 2 hts gX2_limits_X2_isWithin rfl rfl rfl (by decide +kernel) ⟨Nat.le_of_ble_eq_true rfl, Nat.le_of_ble_eq_true rfl⟩) rfl hl.1 rfl (Nat.le_of_ble_eq_true rfl) dX2_limits_15 ⟨Nat.le_of_ble_eq_true rfl, Nat.le_of_ble_eq_true rfl⟩ (fun r6 er6 => ?_)
    subst er6
    refine lv_if_eq (tgt := 41) hx hb dX2_limits_18 (by decide) (fun c18 => ?_) (fun c18 => ?_)
    · skip
      refine lv_iconst (v := 2) hx hb dX2_limits_41 (by decide) ?_
      refine lv_goto (tgt := 59) hx hb dX2_limits_42 (by decide) ?_
      exact J59 _ _ _ (by simp [tL, c5, c18]) hP hS
    · skip
      refine lv_iload_n hx hb dX2_limits_21 rfl (lv_at hl 3 rfl) ?_
      refine lv_ldc (v := 800000) hx hb hown (hts (.constant RX2 46 (800000)) (by decide +kernel)) dX2_limits_22 ?_
      refine k_Si (As := [.int (b), .int (800000)]) (rest := [.ref (e_a E (26))]) ⟨hx, hb, hml, hown, hts⟩ (mtX2_isWithin l b 800000) (va_cwS 2 hts gX2_limits_X2_isWithin rfl rfl rfl (by decide +kernel) ⟨Nat.le_of_ble_eq_true rfl, Nat.le_of_ble_eq_true rfl⟩) rfl hl.1 rfl (Nat.le_of_ble_eq_true rfl) dX2_limits_24 ⟨Nat.le_of_ble_eq_true rfl, Nat.le_of_ble_eq_true rfl⟩ (fun r7 er7 => ?_)
      subst er7
      refine lv_if_eq (tgt := 41) hx hb dX2_limits_27 (by decide) (fun c27 => ?_) (fun c27 => ?_)
      · skip
        refine lv_iconst (v := 2) hx hb dX2_limits_41 (by decide) ?_
        refine lv_goto (tgt := 59) hx hb dX2_limits_42 (by decide) ?_
        exact J59 _ _ _ (by simp [tL, c5, c18, c27]) hP hS
      · skip
        refine lv_iload hx hb dX2_limits_30 (lv_at hl 4 rfl) ?_
        refine lv_sipush (v := 16000) hx hb dX2_limits_32 (by decide) ?_
        refine k_Si (As := [.int (d), .int (16000)]) (rest := [.ref (e_a E (26))]) ⟨hx, hb, hml, hown, hts⟩ (mtX2_isWithin l d 16000) (va_cwS 2 hts gX2_limits_X2_isWithin rfl rfl rfl (by decide +kernel) ⟨Nat.le_of_ble_eq_true rfl, Nat.le_of_ble_eq_true rfl⟩) rfl hl.1 rfl (Nat.le_of_ble_eq_true rfl) dX2_limits_35 ⟨Nat.le_of_ble_eq_true rfl, Nat.le_of_ble_eq_true rfl⟩ (fun r8 er8 => ?_)
        subst er8
        refine lv_if_ne (tgt := 45) hx hb dX2_limits_38 (by decide) (fun c38 => ?_) (fun c38 => ?_)
        · skip
          refine lv_iload_n hx hb dX2_limits_45 rfl (lv_at hl 3 rfl) ?_
          refine lv_iload_n hx hb dX2_limits_46 rfl (lv_at hl 2 rfl) ?_
          refine lv_iconst (v := 1) hx hb dX2_limits_47 (by decide) ?_
          refine k_Si (As := [.int (b), .int (a), .int (1)]) (rest := [.ref (e_a E (26))]) ⟨hx, hb, hml, hown, hts⟩ (mtX2_holds l b a 1) (va_cwS 3 hts gX2_limits_X2_holds rfl rfl rfl (by decide +kernel) ⟨Nat.le_of_ble_eq_true rfl, Nat.le_of_ble_eq_true rfl⟩) rfl hl.1 rfl (Nat.le_of_ble_eq_true rfl) dX2_limits_48 ⟨Nat.le_of_ble_eq_true rfl, Nat.le_of_ble_eq_true rfl⟩ (fun r9 er9 => ?_)
          subst er9
          refine lv_if_eq (tgt := 58) hx hb dX2_limits_51 (by decide) (fun c51 => ?_) (fun c51 => ?_)
          · skip
            refine lv_iconst (v := 0) hx hb dX2_limits_58 (by decide) ?_
            exact J59 _ _ _ (by simp [tL, c5, c18, c27, c38, c51]) hP hS
          · skip
            refine lv_iconst (v := 3) hx hb dX2_limits_54 (by decide) ?_
            refine lv_goto (tgt := 59) hx hb dX2_limits_55 (by decide) ?_
            exact J59 _ _ _ (by simp [tL, c5, c18, c27, c38, c51]) hP hS
        · skip
          refine lv_iconst (v := 2) hx hb dX2_limits_41 (by decide) ?_
          refine lv_goto (tgt := 59) hx hb dX2_limits_42 (by decide) ?_
          exact J59 _ _ _ (by simp [tL, c5, c18, c27, c38]) hP hS
  · skip
    refine lv_iconst (v := 1) hx hb dX2_limits_8 (by decide) ?_
    refine lv_goto (tgt := 59) hx hb dX2_limits_9 (by decide) ?_
    exact J59 _ _ _ (by simp [tL, c5]) hP hS
set_option maxHeartbeats 4000000 in
set_option maxRecDepth 100000 in
/-- shut -/
theorem mtX2_shut (l : Launch) (E : Ev) (hok : e_ok E) (σ : Mem) (o : Nat → Int64) (x v : Int32) (hv : v = 0 ∨ v = 1) (hcl : ∀ k, k < 8 → σ 35 k = 0 ∨ σ 35 k = 1) : Met l yX2_shut wsX2_shut ({ frames := 2, cells := 0, slots := 0, locals := 41 } : Room) (PW E σ o [.ref (e_a E (26)), .int (x), .int (v)]) (va_Qi (fun (r : Int32) (σ' : Mem) => (tC x ≠ 0 ∧ r = 0 ∧ σ' = m_up σ 26 0 (tC x)) ∨ (tC x = 0 ∧ ∃ k : Nat, k < 8 ∧ x = nI k ∧ r = σ 35 k ∧ σ' = m_up (m_up σ 26 0 0) 35 k v)) (BW E o) (LB (e_B E))) 0 0 (LB (e_B E)) := by
  refine Met.ofW (cc := cX2_shut) (maxL := 4) (ret := (some .boolean)) (by decide) rfl ?_
  intro p e s m args below meth c s₁ B hml hv
  obtain ⟨rfl, hP, hK⟩ := hv
  have hx := B.exec
  have hb := B.bytes
  have hr := B.returns
  have hts := atoms_spec (ws := wsX2_shut) B.pre
  have hown : s.vm.findClass RX2 = some m.cls := findClass_of_methodNamed B.named
  have hlocks := B.notSynchronized
  have hS : va_S (LB (e_B E)) s.heap s.heap [] := va_S.rf
  have hinX2 : ∀ w ∈ wsX20, w ∈ wsX2_shut := fun w h => by simp only [wsX2_shut, List.mem_cons, List.mem_append, h, or_true, true_or]
  have hf34 := hts (.fieldLink RX2 34 "ParcelChutesModel" "closed" "[Z") (by decide +kernel)
  have hf38 := hts (.fieldLink RX2 38 "ParcelChutesModel" "thrown" "I") (by decide +kernel)
  have hl := lv_entry ([.ref (e_a E (26)), .int (x), .int (v)]) (n := 4) (Nat.le_of_ble_eq_true rfl)
  rw [lg_entry_eq]
  generalize (lg_sl ([.ref (e_a E (26)), .int (x), .int (v)]) ++ List.replicate (4 - (lg_sl ([.ref (e_a E (26)), .int (x), .int (v)])).length) Slot.unset).toArray = ls at hl ⊢
  have hl : lv_has ls 4 [(0, .ref (e_a E (26))), (1, .int (x)), (2, .int (v))] := hl
  refine lv_aload_n hx hb dX2_shut_0 rfl (lv_at hl 0 rfl) ?_
  refine lv_iload_n hx hb dX2_shut_1 rfl (lv_at hl 1 rfl) ?_
  refine cut_w (ls := ls) (E := E) (o := o) (σ := σ) (pcj := 13) (rest := [.ref (e_a E (26))]) (P := fun vv : Int32 => vv = tC x) ?_ (fun J13 => ?_)
  · intro v1 H locs ev1 hP hS
    subst ev1
    refine q_put (C := RX2) (T := TX2) (N := 20) (ci := 2) (ty := .int) (v := tC x) hx hb hts hinX2 tyX2 tyX2_ok nmX2 hown hok hK hP hS at_26 (by decide) rfl 0 (by decide) hf38 rfl (tyX2_ok 0 (by decide)) rfl rfl (Nat.le_of_ble_eq_true rfl) rfl dX2_shut_13 (fun H locs hP hS => ?_)
    refine lv_aload_n hx hb dX2_shut_16 rfl (lv_at hl 0 rfl) ?_
    refine q_get (C := RX2) (T := TX2) (N := 20) (ci := 2) (v := .int (tC x)) hx hb hts hinX2 hown hK hP at_26 rfl 0 (by decide) hf38 rfl dX2_shut_17 ?_
    refine lv_if_eq (tgt := 25) hx hb dX2_shut_20 (by decide) (fun c20 => ?_) (fun c20 => ?_)
    · skip
      obtain ⟨k, hk, ek⟩ := tC_ch c20
      rw [c20] at hP
      refine lv_aload_n hx hb dX2_shut_25 rfl (lv_at hl 0 rfl) ?_
      refine q_get (C := RX2) (T := TX2) (N := 20) (ci := 2) (v := .ref (e_a E (35))) hx hb hts hinX2 hown hK hP at_26 rfl 10 (by decide) hf34 rfl dX2_shut_26 ?_
      refine lv_iload_n hx hb dX2_shut_29 rfl (lv_at hl 1 rfl) ?_
      refine q_zldv hx hb hK hP (i := k) ek (by omega) dX2_shut_30 (v := σ (35) (k)) rfl ?_
      refine lv_istore_n (lv' := [(3, .int (σ (35) (k))), (0, .ref (e_a E (26))), (1, .int (x)), (2, .int (v))]) hx hb dX2_shut_31 rfl hl (by decide) rfl (fun ls hl => ?_)
      refine lv_aload_n hx hb dX2_shut_32 rfl (lv_at hl 1 rfl) ?_
      refine q_get (C := RX2) (T := TX2) (N := 20) (ci := 2) (v := .ref (e_a E (35))) hx hb hts hinX2 hown hK hP at_26 rfl 10 (by decide) hf34 rfl dX2_shut_33 ?_
      refine lv_iload_n hx hb dX2_shut_36 rfl (lv_at hl 2 rfl) ?_
      refine lv_iload_n hx hb dX2_shut_37 rfl (lv_at hl 3 rfl) ?_
      refine q_zst hx hb hok hK hP hS (i := k) ek (by omega) (by rcases hv with h | h <;> rw [h] <;> rfl) dX2_shut_38 (fun H locs hP hS => ?_)
      refine lv_iload_n hx hb dX2_shut_39 rfl (lv_at hl 0 rfl) ?_
      exact r_z hx hb hr hlocks (by first | rfl | (rcases hcl _ hk with h | h <;> rw [h] <;> rfl)) hP hS dX2_shut_40 (Or.inr ⟨c20, k, hk, ek, rfl, rfl⟩)
    · skip
      refine lv_iconst (v := 0) hx hb dX2_shut_23 (by decide) ?_
      exact r_z hx hb hr hlocks (by first | rfl | (rcases hcl _ hk with h | h <;> rw [h] <;> rfl)) hP hS dX2_shut_24 (Or.inl ⟨c20, rfl, rfl⟩)
  refine k_Si (As := [.int (x)]) (rest := [.ref (e_a E (26))]) ⟨hx, hb, hml, hown, hts⟩ (mtX2_isChute l x) (va_cwS 1 hts gX2_shut_X2_isChute rfl rfl rfl (by decide +kernel) ⟨Nat.le_of_ble_eq_true rfl, Nat.le_of_ble_eq_true rfl⟩) rfl hl.1 rfl (Nat.le_of_ble_eq_true rfl) dX2_shut_2 ⟨Nat.le_of_ble_eq_true rfl, Nat.le_of_ble_eq_true rfl⟩ (fun r2 er2 => ?_)
  subst er2
  refine lv_if_eq (tgt := 12) hx hb dX2_shut_5 (by decide) (fun c5 => ?_) (fun c5 => ?_)
  · skip
    refine lv_iconst (v := 1) hx hb dX2_shut_12 (by decide) ?_
    exact J13 _ _ _ (by simp [tC, c5]) hP hS
  · skip
    refine lv_iconst (v := 0) hx hb dX2_shut_8 (by decide) ?_
    refine lv_goto (tgt := 13) hx hb dX2_shut_9 (by decide) ?_
    exact J13 _ _ _ (by simp [tC, c5]) hP hS
set_option maxHeartbeats 4000000 in
set_option maxRecDepth 100000 in
/-- signs -/
theorem mtX2_signs (l : Launch) (E : Ev) (hok : e_ok E) (σ : Mem) (o : Nat → Int64) (x v z : Int32) : Met l yX2_signs wsX2_signs ({ frames := 2, cells := 0, slots := 0, locals := 41 } : Room) (PW E σ o [.ref (e_a E (26)), .int (x), .int (v), .int (z)]) (va_Qi (fun (r : Int32) (σ' : Mem) => (tG x v z ≠ 0 ∧ r = 0 ∧ σ' = m_up σ 26 0 (tG x v z)) ∨ (tG x v z = 0 ∧ ∃ k : Nat, k < 8 ∧ x = nI k ∧ r = sg z (if v = 0 then σ 32 k else if v = 1 then σ 33 k else σ 34 k) ∧ σ' = m_up σ 26 0 0)) (BW E o) (LB (e_B E))) 0 0 (LB (e_B E)) := by
  refine Met.ofW (cc := cX2_signs) (maxL := 4) (ret := (some .int)) (by decide) rfl ?_
  intro p e s m args below meth c s₁ B hml hv
  obtain ⟨rfl, hP, hK⟩ := hv
  have hx := B.exec
  have hb := B.bytes
  have hr := B.returns
  have hts := atoms_spec (ws := wsX2_signs) B.pre
  have hown : s.vm.findClass RX2 = some m.cls := findClass_of_methodNamed B.named
  have hlocks := B.notSynchronized
  have hS : va_S (LB (e_B E)) s.heap s.heap [] := va_S.rf
  have hinX2 : ∀ w ∈ wsX20, w ∈ wsX2_signs := fun w h => by simp only [wsX2_signs, List.mem_cons, List.mem_append, h, or_true, true_or]
  have hf25 := hts (.fieldLink RX2 25 "ParcelChutesModel" "low" "[I") (by decide +kernel)
  have hf28 := hts (.fieldLink RX2 28 "ParcelChutesModel" "high" "[I") (by decide +kernel)
  have hf31 := hts (.fieldLink RX2 31 "ParcelChutesModel" "wide" "[I") (by decide +kernel)
  have hf38 := hts (.fieldLink RX2 38 "ParcelChutesModel" "thrown" "I") (by decide +kernel)
  have hl := lv_entry ([.ref (e_a E (26)), .int (x), .int (v), .int (z)]) (n := 4) (Nat.le_of_ble_eq_true rfl)
  rw [lg_entry_eq]
  generalize (lg_sl ([.ref (e_a E (26)), .int (x), .int (v), .int (z)]) ++ List.replicate (4 - (lg_sl ([.ref (e_a E (26)), .int (x), .int (v), .int (z)])).length) Slot.unset).toArray = ls at hl ⊢
  have hl : lv_has ls 4 [(0, .ref (e_a E (26))), (1, .int (x)), (2, .int (v)), (3, .int (z))] := hl
  refine lv_aload_n hx hb dX2_signs_0 rfl (lv_at hl 0 rfl) ?_
  refine lv_iload_n hx hb dX2_signs_1 rfl (lv_at hl 1 rfl) ?_
  refine cut_w (ls := ls) (E := E) (o := o) (σ := σ) (pcj := 45) (rest := [.ref (e_a E (26))]) (P := fun vv : Int32 => vv = tG x v z) ?_ (fun J45 => ?_)
  · intro v1 H locs ev1 hP hS
    subst ev1
    refine q_put (C := RX2) (T := TX2) (N := 20) (ci := 2) (ty := .int) (v := tG x v z) hx hb hts hinX2 tyX2 tyX2_ok nmX2 hown hok hK hP hS at_26 (by decide) rfl 0 (by decide) hf38 rfl (tyX2_ok 0 (by decide)) rfl rfl (Nat.le_of_ble_eq_true rfl) rfl dX2_signs_45 (fun H locs hP hS => ?_)
    refine lv_aload_n hx hb dX2_signs_48 rfl (lv_at hl 0 rfl) ?_
    refine q_get (C := RX2) (T := TX2) (N := 20) (ci := 2) (v := .int (tG x v z)) hx hb hts hinX2 hown hK hP at_26 rfl 0 (by decide) hf38 rfl dX2_signs_49 ?_
    refine lv_if_eq (tgt := 57) hx hb dX2_signs_52 (by decide) (fun c52 => ?_) (fun c52 => ?_)
    · skip
      obtain ⟨k, hk, ek⟩ := tG_ch c52
      rw [c52] at hP
      refine lv_iload_n hx hb dX2_signs_57 rfl (lv_at hl 3 rfl) ?_
      refine lv_iload_n hx hb dX2_signs_58 rfl (lv_at hl 2 rfl) ?_
      refine lv_if_ne (tgt := 71) hx hb dX2_signs_59 (by decide) (fun c59 => ?_) (fun c59 => ?_)
      · skip
        refine lv_iload_n hx hb dX2_signs_71 rfl (lv_at hl 2 rfl) ?_
        refine lv_iconst (v := 1) hx hb dX2_signs_72 (by decide) ?_
        refine lv_icmp_ne (tgt := 85) hx hb dX2_signs_73 (by decide) (fun c73 => ?_) (fun c73 => ?_)
        · skip
          refine lv_aload_n hx hb dX2_signs_85 rfl (lv_at hl 0 rfl) ?_
          refine q_get (C := RX2) (T := TX2) (N := 20) (ci := 2) (v := .ref (e_a E (34))) hx hb hts hinX2 hown hK hP at_26 rfl 9 (by decide) hf31 rfl dX2_signs_86 ?_
          refine lv_iload_n hx hb dX2_signs_89 rfl (lv_at hl 1 rfl) ?_
          refine q_ldv hx hb hK hP at_34 (i := k) ek (by omega) (by decide) dX2_signs_90 (v := σ (34) (k)) rfl ?_
          refine k_Si (As := [.int (z), .int (σ (34) (k))]) (rest := []) ⟨hx, hb, hml, hown, hts⟩ (mtX2_signsOf l z (σ (34) (k))) (va_cwS 2 hts gX2_signs_X2_signsOf rfl rfl rfl (by decide +kernel) ⟨Nat.le_of_ble_eq_true rfl, Nat.le_of_ble_eq_true rfl⟩) rfl hl.1 rfl (Nat.le_of_ble_eq_true rfl) dX2_signs_91 ⟨Nat.le_of_ble_eq_true rfl, Nat.le_of_ble_eq_true rfl⟩ (fun r2 er2 => ?_)
          subst er2
          exact r_i hx hb hr hlocks hP hS dX2_signs_94 (Or.inr ⟨c52, k, hk, ek, by simp [c59, c73], rfl⟩)
        · skip
          refine lv_aload_n hx hb dX2_signs_76 rfl (lv_at hl 0 rfl) ?_
          refine q_get (C := RX2) (T := TX2) (N := 20) (ci := 2) (v := .ref (e_a E (33))) hx hb hts hinX2 hown hK hP at_26 rfl 8 (by decide) hf28 rfl dX2_signs_77 ?_
          refine lv_iload_n hx hb dX2_signs_80 rfl (lv_at hl 1 rfl) ?_
          refine q_ldv hx hb hK hP at_33 (i := k) ek (by omega) (by decide) dX2_signs_81 (v := σ (33) (k)) rfl ?_
          refine lv_goto (tgt := 91) hx hb dX2_signs_82 (by decide) ?_
          refine k_Si (As := [.int (z), .int (σ (33) (k))]) (rest := []) ⟨hx, hb, hml, hown, hts⟩ (mtX2_signsOf l z (σ (33) (k))) (va_cwS 2 hts gX2_signs_X2_signsOf rfl rfl rfl (by decide +kernel) ⟨Nat.le_of_ble_eq_true rfl, Nat.le_of_ble_eq_true rfl⟩) rfl hl.1 rfl (Nat.le_of_ble_eq_true rfl) dX2_signs_91 ⟨Nat.le_of_ble_eq_true rfl, Nat.le_of_ble_eq_true rfl⟩ (fun r3 er3 => ?_)
          subst er3
          exact r_i hx hb hr hlocks hP hS dX2_signs_94 (Or.inr ⟨c52, k, hk, ek, by simp [c59, c73], rfl⟩)
      · skip
        refine lv_aload_n hx hb dX2_signs_62 rfl (lv_at hl 0 rfl) ?_
        refine q_get (C := RX2) (T := TX2) (N := 20) (ci := 2) (v := .ref (e_a E (32))) hx hb hts hinX2 hown hK hP at_26 rfl 7 (by decide) hf25 rfl dX2_signs_63 ?_
        refine lv_iload_n hx hb dX2_signs_66 rfl (lv_at hl 1 rfl) ?_
        refine q_ldv hx hb hK hP at_32 (i := k) ek (by omega) (by decide) dX2_signs_67 (v := σ (32) (k)) rfl ?_
        refine lv_goto (tgt := 91) hx hb dX2_signs_68 (by decide) ?_
        refine k_Si (As := [.int (z), .int (σ (32) (k))]) (rest := []) ⟨hx, hb, hml, hown, hts⟩ (mtX2_signsOf l z (σ (32) (k))) (va_cwS 2 hts gX2_signs_X2_signsOf rfl rfl rfl (by decide +kernel) ⟨Nat.le_of_ble_eq_true rfl, Nat.le_of_ble_eq_true rfl⟩) rfl hl.1 rfl (Nat.le_of_ble_eq_true rfl) dX2_signs_91 ⟨Nat.le_of_ble_eq_true rfl, Nat.le_of_ble_eq_true rfl⟩ (fun r4 er4 => ?_)
        subst er4
        exact r_i hx hb hr hlocks hP hS dX2_signs_94 (Or.inr ⟨c52, k, hk, ek, by simp [c59], rfl⟩)
    · skip
      refine lv_iconst (v := 0) hx hb dX2_signs_55 (by decide) ?_
      exact r_i hx hb hr hlocks hP hS dX2_signs_56 (Or.inl ⟨c52, rfl, rfl⟩)
  refine k_Si (As := [.int (x)]) (rest := [.ref (e_a E (26))]) ⟨hx, hb, hml, hown, hts⟩ (mtX2_isChute l x) (va_cwS 1 hts gX2_signs_X2_isChute rfl rfl rfl (by decide +kernel) ⟨Nat.le_of_ble_eq_true rfl, Nat.le_of_ble_eq_true rfl⟩) rfl hl.1 rfl (Nat.le_of_ble_eq_true rfl) dX2_signs_2 ⟨Nat.le_of_ble_eq_true rfl, Nat.le_of_ble_eq_true rfl⟩ (fun r5 er5 => ?_)
  subst er5
  refine lv_if_ne (tgt := 12) hx hb dX2_signs_5 (by decide) (fun c5 => ?_) (fun c5 => ?_)
  · skip
    refine lv_iload_n hx hb dX2_signs_12 rfl (lv_at hl 2 rfl) ?_
    refine lv_iconst (v := 2) hx hb dX2_signs_13 (by decide) ?_
    refine k_Si (As := [.int (v), .int (2)]) (rest := [.ref (e_a E (26))]) ⟨hx, hb, hml, hown, hts⟩ (mtX2_isWithin l v 2) (va_cwS 2 hts gX2_signs_X2_isWithin rfl rfl rfl (by decide +kernel) ⟨Nat.le_of_ble_eq_true rfl, Nat.le_of_ble_eq_true rfl⟩) rfl hl.1 rfl (Nat.le_of_ble_eq_true rfl) dX2_signs_14 ⟨Nat.le_of_ble_eq_true rfl, Nat.le_of_ble_eq_true rfl⟩ (fun r6 er6 => ?_)
    subst er6
    refine lv_if_eq (tgt := 40) hx hb dX2_signs_17 (by decide) (fun c17 => ?_) (fun c17 => ?_)
    · skip
      refine lv_iconst (v := 2) hx hb dX2_signs_40 (by decide) ?_
      refine lv_goto (tgt := 45) hx hb dX2_signs_41 (by decide) ?_
      exact J45 _ _ _ (by unfold tG; rw [if_neg c5, if_pos c17]) hP hS
    · skip
      refine lv_iload_n hx hb dX2_signs_20 rfl (lv_at hl 3 rfl) ?_
      refine lv_iload_n hx hb dX2_signs_21 rfl (lv_at hl 2 rfl) ?_
      refine lv_iconst (v := 2) hx hb dX2_signs_22 (by decide) ?_
      refine lv_icmp_ne (tgt := 32) hx hb dX2_signs_23 (by decide) (fun c23 => ?_) (fun c23 => ?_)
      · skip
        refine lv_ldc (v := 800000) hx hb hown (hts (.constant RX2 46 (800000)) (by decide +kernel)) dX2_signs_32 ?_
        refine k_Si (As := [.int (z), .int (800000)]) (rest := [.ref (e_a E (26))]) ⟨hx, hb, hml, hown, hts⟩ (mtX2_isWithin l z 800000) (va_cwS 2 hts gX2_signs_X2_isWithin rfl rfl rfl (by decide +kernel) ⟨Nat.le_of_ble_eq_true rfl, Nat.le_of_ble_eq_true rfl⟩) rfl hl.1 rfl (Nat.le_of_ble_eq_true rfl) dX2_signs_34 ⟨Nat.le_of_ble_eq_true rfl, Nat.le_of_ble_eq_true rfl⟩ (fun r7 er7 => ?_)
        subst er7
        refine lv_if_ne (tgt := 44) hx hb dX2_signs_37 (by decide) (fun c37 => ?_) (fun c37 => ?_)
        · skip
          refine lv_iconst (v := 0) hx hb dX2_signs_44 (by decide) ?_
          exact J45 _ _ _ (by unfold tG; rw [if_neg c5, if_neg c17, if_neg c23, if_neg c37]) hP hS
        · skip
          refine lv_iconst (v := 2) hx hb dX2_signs_40 (by decide) ?_
          refine lv_goto (tgt := 45) hx hb dX2_signs_41 (by decide) ?_
          exact J45 _ _ _ (by unfold tG; rw [if_neg c5, if_neg c17, if_neg c23, if_pos c37]) hP hS
      · skip
        refine lv_sipush (v := 16000) hx hb dX2_signs_26 (by decide) ?_
        refine lv_goto (tgt := 34) hx hb dX2_signs_29 (by decide) ?_
        refine k_Si (As := [.int (z), .int (16000)]) (rest := [.ref (e_a E (26))]) ⟨hx, hb, hml, hown, hts⟩ (mtX2_isWithin l z 16000) (va_cwS 2 hts gX2_signs_X2_isWithin rfl rfl rfl (by decide +kernel) ⟨Nat.le_of_ble_eq_true rfl, Nat.le_of_ble_eq_true rfl⟩) rfl hl.1 rfl (Nat.le_of_ble_eq_true rfl) dX2_signs_34 ⟨Nat.le_of_ble_eq_true rfl, Nat.le_of_ble_eq_true rfl⟩ (fun r8 er8 => ?_)
        subst er8
        refine lv_if_ne (tgt := 44) hx hb dX2_signs_37 (by decide) (fun c37 => ?_) (fun c37 => ?_)
        · skip
          refine lv_iconst (v := 0) hx hb dX2_signs_44 (by decide) ?_
          exact J45 _ _ _ (by unfold tG; rw [if_neg c5, if_neg c17, if_pos c23, if_neg c37]) hP hS
        · skip
          refine lv_iconst (v := 2) hx hb dX2_signs_40 (by decide) ?_
          refine lv_goto (tgt := 45) hx hb dX2_signs_41 (by decide) ?_
          exact J45 _ _ _ (by unfold tG; rw [if_neg c5, if_neg c17, if_pos c23, if_pos c37]) hP hS
  · skip
    refine lv_iconst (v := 1) hx hb dX2_signs_8 (by decide) ?_
    refine lv_goto (tgt := 45) hx hb dX2_signs_9 (by decide) ?_
    exact J45 _ _ _ (by unfold tG; rw [if_pos c5]) hP hS
set_option maxHeartbeats 4000000 in
set_option maxRecDepth 100000 in
/-- gaugeAll -/
theorem mtX2_gaugeAll (l : Launch) (E : Ev) (hok : e_ok E) (σ : Mem) (o : Nat → Int64) (w g : Int32) : Met l yX2_gaugeAll wsX2_gaugeAll ({ frames := 2, cells := 0, slots := 0, locals := 43 } : Room) (PW E σ o [.ref (e_a E (26)), .int (w), .int (g)]) (va_Qv (fun (σ' : Mem) => σ' = gM σ w g) (BW E o) (LB (e_B E))) 0 0 (LB (e_B E)) := by
  refine Met.ofW (cc := cX2_gaugeAll) (maxL := 3) (ret := none) (by decide) rfl ?_
  intro p e s m args below meth c s₁ B hml hv
  obtain ⟨rfl, hP, hK⟩ := hv
  have hx := B.exec
  have hb := B.bytes
  have hr := B.returns
  have hts := atoms_spec (ws := wsX2_gaugeAll) B.pre
  have hown : s.vm.findClass RX2 = some m.cls := findClass_of_methodNamed B.named
  have hlocks := B.notSynchronized
  have hS : va_S (LB (e_B E)) s.heap s.heap [] := va_S.rf
  have hinX2 : ∀ w ∈ wsX20, w ∈ wsX2_gaugeAll := fun w h => by simp only [wsX2_gaugeAll, List.mem_cons, List.mem_append, h, or_true, true_or]
  have hf81 := hts (.fieldLink RX2 81 "ParcelChutesModel" "sent" "I") (by decide +kernel)
  have hf84 := hts (.fieldLink RX2 84 "ParcelChutesModel" "before" "I") (by decide +kernel)
  have hf87 := hts (.fieldLink RX2 87 "ParcelChutesModel" "streak" "I") (by decide +kernel)
  have hf90 := hts (.fieldLink RX2 90 "ParcelChutesModel" "lightest" "I") (by decide +kernel)
  have hf93 := hts (.fieldLink RX2 93 "ParcelChutesModel" "heaviest" "I") (by decide +kernel)
  have hf96 := hts (.fieldLink RX2 96 "ParcelChutesModel" "widest" "I") (by decide +kernel)
  have hl := lv_entry ([.ref (e_a E (26)), .int (w), .int (g)]) (n := 3) (Nat.le_of_ble_eq_true rfl)
  rw [lg_entry_eq]
  generalize (lg_sl ([.ref (e_a E (26)), .int (w), .int (g)]) ++ List.replicate (3 - (lg_sl ([.ref (e_a E (26)), .int (w), .int (g)])).length) Slot.unset).toArray = ls at hl ⊢
  have hl : lv_has ls 3 [(0, .ref (e_a E (26))), (1, .int (w)), (2, .int (g))] := hl
  refine lv_aload_n hx hb dX2_gaugeAll_0 rfl (lv_at hl 0 rfl) ?_
  refine cut_i (ls := ls) (pcj := 30) (rest := [.ref (e_a E (26))]) (P := fun vv : Int32 => vv = stM (σ 26 15) (σ 26 16) (σ 26 14) w) ?_ (fun J30 => ?_)
  · intro v1 ev1
    subst ev1
    refine q_put (C := RX2) (T := TX2) (N := 20) (ci := 2) (ty := .int) (v := stM (σ 26 15) (σ 26 16) (σ 26 14) w) hx hb hts hinX2 tyX2 tyX2_ok nmX2 hown hok hK hP hS at_26 (by decide) rfl 14 (by decide) hf87 rfl (tyX2_ok 14 (by decide)) rfl rfl (Nat.le_of_ble_eq_true rfl) rfl dX2_gaugeAll_30 (fun H locs hP hS => ?_)
    refine lv_aload_n hx hb dX2_gaugeAll_33 rfl (lv_at hl 0 rfl) ?_
    refine lv_iload_n hx hb dX2_gaugeAll_34 rfl (lv_at hl 1 rfl) ?_
    refine q_put (C := RX2) (T := TX2) (N := 20) (ci := 2) (ty := .int) (v := w) hx hb hts hinX2 tyX2 tyX2_ok nmX2 hown hok hK hP hS at_26 (by decide) rfl 15 (by decide) hf84 rfl (tyX2_ok 15 (by decide)) rfl rfl (Nat.le_of_ble_eq_true rfl) rfl dX2_gaugeAll_35 (fun H locs hP hS => ?_)
    refine lv_aload_n hx hb dX2_gaugeAll_38 rfl (lv_at hl 0 rfl) ?_
    refine lv_dup hx hb dX2_gaugeAll_39 rfl ?_
    refine q_get (C := RX2) (T := TX2) (N := 20) (ci := 2) (v := .int (σ (26) 16)) hx hb hts hinX2 hown hK hP at_26 rfl 16 (by decide) hf81 rfl dX2_gaugeAll_40 ?_
    refine lv_iconst (v := 1) hx hb dX2_gaugeAll_43 (by decide) ?_
    refine lv_iadd hx hb dX2_gaugeAll_44 ?_
    refine q_put (C := RX2) (T := TX2) (N := 20) (ci := 2) (ty := .int) (v := (σ (26) 16) + 1) hx hb hts hinX2 tyX2 tyX2_ok nmX2 hown hok hK hP hS at_26 (by decide) rfl 16 (by decide) hf81 rfl (tyX2_ok 16 (by decide)) rfl rfl (Nat.le_of_ble_eq_true rfl) rfl dX2_gaugeAll_45 (fun H locs hP hS => ?_)
    refine lv_aload_n hx hb dX2_gaugeAll_48 rfl (lv_at hl 0 rfl) ?_
    refine cut_i (ls := ls) (pcj := 76) (rest := [.ref (e_a E (26))]) (P := fun vv : Int32 => vv = lgM w (σ 26 11)) ?_ (fun J76 => ?_)
    · intro v2 ev2
      subst ev2
      refine q_put (C := RX2) (T := TX2) (N := 20) (ci := 2) (ty := .int) (v := lgM w (σ 26 11)) hx hb hts hinX2 tyX2 tyX2_ok nmX2 hown hok hK hP hS at_26 (by decide) rfl 11 (by decide) hf90 rfl (tyX2_ok 11 (by decide)) rfl rfl (Nat.le_of_ble_eq_true rfl) rfl dX2_gaugeAll_76 (fun H locs hP hS => ?_)
      refine lv_aload_n hx hb dX2_gaugeAll_79 rfl (lv_at hl 0 rfl) ?_
      refine cut_i (ls := ls) (pcj := 96) (rest := [.ref (e_a E (26))]) (P := fun vv : Int32 => vv = gtM w (σ 26 12)) ?_ (fun J96 => ?_)
      · intro v3 ev3
        subst ev3
        refine q_put (C := RX2) (T := TX2) (N := 20) (ci := 2) (ty := .int) (v := gtM w (σ 26 12)) hx hb hts hinX2 tyX2 tyX2_ok nmX2 hown hok hK hP hS at_26 (by decide) rfl 12 (by decide) hf93 rfl (tyX2_ok 12 (by decide)) rfl rfl (Nat.le_of_ble_eq_true rfl) rfl dX2_gaugeAll_96 (fun H locs hP hS => ?_)
        refine lv_aload_n hx hb dX2_gaugeAll_99 rfl (lv_at hl 0 rfl) ?_
        refine cut_i (ls := ls) (pcj := 116) (rest := [.ref (e_a E (26))]) (P := fun vv : Int32 => vv = gtM g (σ 26 13)) ?_ (fun J116 => ?_)
        · intro v4 ev4
          subst ev4
          refine q_put (C := RX2) (T := TX2) (N := 20) (ci := 2) (ty := .int) (v := gtM g (σ 26 13)) hx hb hts hinX2 tyX2 tyX2_ok nmX2 hown hok hK hP hS at_26 (by decide) rfl 13 (by decide) hf96 rfl (tyX2_ok 13 (by decide)) rfl rfl (Nat.le_of_ble_eq_true rfl) rfl dX2_gaugeAll_116 (fun H locs hP hS => ?_)
          exact r_v hx hb hr hlocks hP hS dX2_gaugeAll_119 rfl
        refine lv_iload_n hx hb dX2_gaugeAll_100 rfl (lv_at hl 2 rfl) ?_
        refine lv_aload_n hx hb dX2_gaugeAll_101 rfl (lv_at hl 0 rfl) ?_
        refine q_get (C := RX2) (T := TX2) (N := 20) (ci := 2) (v := .int (σ (26) 13)) hx hb hts hinX2 hown hK hP at_26 rfl 13 (by decide) hf96 rfl dX2_gaugeAll_102 ?_
        refine lv_icmp_le (tgt := 112) hx hb dX2_gaugeAll_105 (by decide) (fun c105 => ?_) (fun c105 => ?_)
        · skip
          refine lv_aload_n hx hb dX2_gaugeAll_112 rfl (lv_at hl 0 rfl) ?_
          refine q_get (C := RX2) (T := TX2) (N := 20) (ci := 2) (v := .int (σ (26) 13)) hx hb hts hinX2 hown hK hP at_26 rfl 13 (by decide) hf96 rfl dX2_gaugeAll_113 ?_
          exact J116 _ (by simp [gtM, c105])
        · skip
          refine lv_iload_n hx hb dX2_gaugeAll_108 rfl (lv_at hl 2 rfl) ?_
          refine lv_goto (tgt := 116) hx hb dX2_gaugeAll_109 (by decide) ?_
          exact J116 _ (by simp [gtM, c105])
      refine lv_iload_n hx hb dX2_gaugeAll_80 rfl (lv_at hl 1 rfl) ?_
      refine lv_aload_n hx hb dX2_gaugeAll_81 rfl (lv_at hl 0 rfl) ?_
      refine q_get (C := RX2) (T := TX2) (N := 20) (ci := 2) (v := .int (σ (26) 12)) hx hb hts hinX2 hown hK hP at_26 rfl 12 (by decide) hf93 rfl dX2_gaugeAll_82 ?_
      refine lv_icmp_le (tgt := 92) hx hb dX2_gaugeAll_85 (by decide) (fun c85 => ?_) (fun c85 => ?_)
      · skip
        refine lv_aload_n hx hb dX2_gaugeAll_92 rfl (lv_at hl 0 rfl) ?_
        refine q_get (C := RX2) (T := TX2) (N := 20) (ci := 2) (v := .int (σ (26) 12)) hx hb hts hinX2 hown hK hP at_26 rfl 12 (by decide) hf93 rfl dX2_gaugeAll_93 ?_
        exact J96 _ (by simp [gtM, c85])
      · skip
        refine lv_iload_n hx hb dX2_gaugeAll_88 rfl (lv_at hl 1 rfl) ?_
        refine lv_goto (tgt := 96) hx hb dX2_gaugeAll_89 (by decide) ?_
        exact J96 _ (by simp [gtM, c85])
    refine lv_iload_n hx hb dX2_gaugeAll_49 rfl (lv_at hl 1 rfl) ?_
    refine lv_if_le (tgt := 72) hx hb dX2_gaugeAll_50 (by decide) (fun c50 => ?_) (fun c50 => ?_)
    · skip
      refine lv_aload_n hx hb dX2_gaugeAll_72 rfl (lv_at hl 0 rfl) ?_
      refine q_get (C := RX2) (T := TX2) (N := 20) (ci := 2) (v := .int (σ (26) 11)) hx hb hts hinX2 hown hK hP at_26 rfl 11 (by decide) hf90 rfl dX2_gaugeAll_73 ?_
      exact J76 _ (by simp [lgM, c50])
    · skip
      refine lv_aload_n hx hb dX2_gaugeAll_53 rfl (lv_at hl 0 rfl) ?_
      refine q_get (C := RX2) (T := TX2) (N := 20) (ci := 2) (v := .int (σ (26) 11)) hx hb hts hinX2 hown hK hP at_26 rfl 11 (by decide) hf90 rfl dX2_gaugeAll_54 ?_
      refine lv_if_eq (tgt := 68) hx hb dX2_gaugeAll_57 (by decide) (fun c57 => ?_) (fun c57 => ?_)
      · skip
        refine lv_iload_n hx hb dX2_gaugeAll_68 rfl (lv_at hl 1 rfl) ?_
        refine lv_goto (tgt := 76) hx hb dX2_gaugeAll_69 (by decide) ?_
        exact J76 _ (by simp [lgM, c50, c57])
      · skip
        refine lv_iload_n hx hb dX2_gaugeAll_60 rfl (lv_at hl 1 rfl) ?_
        refine lv_aload_n hx hb dX2_gaugeAll_61 rfl (lv_at hl 0 rfl) ?_
        refine q_get (C := RX2) (T := TX2) (N := 20) (ci := 2) (v := .int (σ (26) 11)) hx hb hts hinX2 hown hK hP at_26 rfl 11 (by decide) hf90 rfl dX2_gaugeAll_62 ?_
        refine lv_icmp_ge (tgt := 72) hx hb dX2_gaugeAll_65 (by decide) (fun c65 => ?_) (fun c65 => ?_)
        · skip
          refine lv_aload_n hx hb dX2_gaugeAll_72 rfl (lv_at hl 0 rfl) ?_
          refine q_get (C := RX2) (T := TX2) (N := 20) (ci := 2) (v := .int (σ (26) 11)) hx hb hts hinX2 hown hK hP at_26 rfl 11 (by decide) hf90 rfl dX2_gaugeAll_73 ?_
          exact J76 _ (by simp [lgM, c50, c57, c65])
        · skip
          refine lv_iload_n hx hb dX2_gaugeAll_68 rfl (lv_at hl 1 rfl) ?_
          refine lv_goto (tgt := 76) hx hb dX2_gaugeAll_69 (by decide) ?_
          exact J76 _ (by simp [lgM, c50, c57, c65])
  refine lv_aload_n hx hb dX2_gaugeAll_1 rfl (lv_at hl 0 rfl) ?_
  refine q_get (C := RX2) (T := TX2) (N := 20) (ci := 2) (v := .int (σ (26) 16)) hx hb hts hinX2 hown hK hP at_26 rfl 16 (by decide) hf81 rfl dX2_gaugeAll_2 ?_
  refine lv_if_le (tgt := 24) hx hb dX2_gaugeAll_5 (by decide) (fun c5 => ?_) (fun c5 => ?_)
  · skip
    refine lv_aload_n hx hb dX2_gaugeAll_24 rfl (lv_at hl 0 rfl) ?_
    refine q_get (C := RX2) (T := TX2) (N := 20) (ci := 2) (v := .int (σ (26) 14)) hx hb hts hinX2 hown hK hP at_26 rfl 14 (by decide) hf87 rfl dX2_gaugeAll_25 ?_
    refine lv_iconst (v := 1) hx hb dX2_gaugeAll_28 (by decide) ?_
    refine lv_iadd hx hb dX2_gaugeAll_29 ?_
    exact J30 _ (by simp [stM, c5])
  · skip
    refine lv_iload_n hx hb dX2_gaugeAll_8 rfl (lv_at hl 1 rfl) ?_
    refine lv_aload_n hx hb dX2_gaugeAll_9 rfl (lv_at hl 0 rfl) ?_
    refine q_get (C := RX2) (T := TX2) (N := 20) (ci := 2) (v := .int (σ (26) 15)) hx hb hts hinX2 hown hK hP at_26 rfl 15 (by decide) hf84 rfl dX2_gaugeAll_10 ?_
    refine lv_iconst (v := 1) hx hb dX2_gaugeAll_13 (by decide) ?_
    refine k_Si (As := [.int (w), .int (σ (26) 15), .int (1)]) (rest := [.ref (e_a E (26))]) ⟨hx, hb, hml, hown, hts⟩ (mtX2_holds l w (σ (26) 15) 1) (va_cwS 3 hts gX2_gaugeAll_X2_holds rfl rfl rfl (by decide +kernel) ⟨Nat.le_of_ble_eq_true rfl, Nat.le_of_ble_eq_true rfl⟩) rfl hl.1 rfl (Nat.le_of_ble_eq_true rfl) dX2_gaugeAll_14 ⟨Nat.le_of_ble_eq_true rfl, Nat.le_of_ble_eq_true rfl⟩ (fun r5 er5 => ?_)
    subst er5
    refine lv_if_eq (tgt := 24) hx hb dX2_gaugeAll_17 (by decide) (fun c17 => ?_) (fun c17 => ?_)
    · skip
      refine lv_aload_n hx hb dX2_gaugeAll_24 rfl (lv_at hl 0 rfl) ?_
      refine q_get (C := RX2) (T := TX2) (N := 20) (ci := 2) (v := .int (σ (26) 14)) hx hb hts hinX2 hown hK hP at_26 rfl 14 (by decide) hf87 rfl dX2_gaugeAll_25 ?_
      refine lv_iconst (v := 1) hx hb dX2_gaugeAll_28 (by decide) ?_
      refine lv_iadd hx hb dX2_gaugeAll_29 ?_
      exact J30 _ (by simp [stM, c5, c17])
    · skip
      refine lv_iconst (v := 1) hx hb dX2_gaugeAll_20 (by decide) ?_
      refine lv_goto (tgt := 30) hx hb dX2_gaugeAll_21 (by decide) ?_
      exact J30 _ (by simp [stM, c5, c17])
set_option maxHeartbeats 4000000 in
set_option maxRecDepth 100000 in
/-- unknownIn -/
theorem mtX2_unknownIn_w (l : Launch) (E : Ev) (hok : e_ok E) (σ : Mem) (o : Nat → Int64) (x : Int32) : Met l yX2_unknownIn wsX2_unknownIn ({ frames := 0, cells := 0, slots := 0, locals := 0 } : Room) (PW E σ o [.ref (e_a E (26)), .int (x), .int (0)]) (va_Qi (fun (r : Int32) (σ' : Mem) => r = nI (ct (fZero (σ 27) (σ 28) x) 96) ∧ σ' = σ) (BW E o) (LB (e_B E))) 0 0 (LB (e_B E)) := by
  refine Met.ofW (cc := cX2_unknownIn) (maxL := 5) (ret := (some .int)) (by decide) rfl ?_
  intro p e s m args below meth c s₁ B hml hv
  obtain ⟨rfl, hP, hK⟩ := hv
  have hx := B.exec
  have hb := B.bytes
  have hr := B.returns
  have hts := atoms_spec (ws := wsX2_unknownIn) B.pre
  have hown : s.vm.findClass RX2 = some m.cls := findClass_of_methodNamed B.named
  have hlocks := B.notSynchronized
  have hS : va_S (LB (e_B E)) s.heap s.heap [] := va_S.rf
  have hinX2 : ∀ w ∈ wsX20, w ∈ wsX2_unknownIn := fun w h => by simp only [wsX2_unknownIn, List.mem_cons, List.mem_append, h, or_true, true_or]
  have hf7 := hts (.fieldLink RX2 7 "ParcelChutesModel" "home" "[I") (by decide +kernel)
  have hf13 := hts (.fieldLink RX2 13 "ParcelChutesModel" "heavy" "[I") (by decide +kernel)
  have hl := lv_entry ([.ref (e_a E (26)), .int (x), .int (0)]) (n := 5) (Nat.le_of_ble_eq_true rfl)
  rw [lg_entry_eq]
  generalize (lg_sl ([.ref (e_a E (26)), .int (x), .int (0)]) ++ List.replicate (5 - (lg_sl ([.ref (e_a E (26)), .int (x), .int (0)])).length) Slot.unset).toArray = ls at hl ⊢
  have hl : lv_has ls 5 [(0, .ref (e_a E (26))), (1, .int (x)), (2, .int (0))] := hl
  refine lv_iconst (v := 0) hx hb dX2_unknownIn_0 (by decide) ?_
  refine lv_istore_n (lv' := [(3, .int (0)), (0, .ref (e_a E (26))), (1, .int (x)), (2, .int (0))]) hx hb dX2_unknownIn_1 rfl hl (by decide) rfl (fun ls hl => ?_)
  refine lv_iconst (v := 0) hx hb dX2_unknownIn_2 (by decide) ?_
  refine lv_istore (lv' := [(4, .int (0)), (3, .int (0)), (0, .ref (e_a E (26))), (1, .int (x)), (2, .int (0))]) hx hb dX2_unknownIn_3 hl (by decide) rfl (fun ls hl => ?_)
  refine w_loop (E := E) (o := o) (ι := Nat × Int32) (μ := fun (i, y) => 96 - i) (I := fun (i, y) => i ≤ 96 ∧ y = nI (ct (fZero (σ 27) (σ 28) x) i)) (mem := fun _ => σ) (lv := fun (i, y) => [(4, .int (nI (i))), (3, .int (y)), (0, .ref (e_a E (26))), (1, .int (x)), (2, .int (0))]) (nL := 5) (pch := 5) ?_ ((0), (0)) (show (0) ≤ 96 ∧ (0) = nI (ct (fZero (σ 27) (σ 28) x) (0)) from ⟨Nat.zero_le _, rfl⟩) hP hS (lv_sub hl [0, 1, 2, 3, 4] rfl)
  rintro ⟨i, y⟩ hI IH H locs ls hP hS hl
  have hP : va_P (e_D E) vwCl (wd E σ o) H := hP
  have hl : lv_has ls 5 [(4, .int (nI (i))), (3, .int (y)), (0, .ref (e_a E (26))), (1, .int (x)), (2, .int (0))] := hl
  have hI : i ≤ 96 ∧ y = nI (ct (fZero (σ 27) (σ 28) x) i) := hI
  refine lv_iload hx hb dX2_unknownIn_5 (lv_at hl 0 rfl) ?_
  refine lv_bipush (v := 96) hx hb dX2_unknownIn_7 (by decide) ?_
  refine nb_ge (i := i) (j := 96) hx hb rfl rfl (by omega) (by omega) dX2_unknownIn_9 (tgt := 61) (by decide) (fun c9 => ?_) (fun c9 => ?_)
  · skip
    refine lv_iload_n hx hb dX2_unknownIn_61 rfl (lv_at hl 1 rfl) ?_
    exact r_i hx hb hr hlocks hP hS dX2_unknownIn_62 ⟨by rw [hI.2, show i = 96 by omega], rfl⟩
  · skip
    refine lv_iload_n hx hb dX2_unknownIn_12 rfl (lv_at hl 1 rfl) ?_
    refine lv_aload_n hx hb dX2_unknownIn_13 rfl (lv_at hl 2 rfl) ?_
    refine q_get (C := RX2) (T := TX2) (N := 20) (ci := 2) (v := .ref (e_a E (27))) hx hb hts hinX2 hown hK hP at_26 rfl 1 (by decide) hf7 rfl dX2_unknownIn_14 ?_
    refine lv_iload hx hb dX2_unknownIn_17 (lv_at hl 0 rfl) ?_
    refine q_ld hx hb hK hP at_27 (i := i) rfl (by omega) (by decide) dX2_unknownIn_19 ?_
    refine lv_iload_n hx hb dX2_unknownIn_20 rfl (lv_at hl 3 rfl) ?_
    refine lv_icmp_ne (tgt := 52) hx hb dX2_unknownIn_21 (by decide) (fun c21 => ?_) (fun c21 => ?_)
    · skip
      refine lv_iconst (v := 0) hx hb dX2_unknownIn_52 (by decide) ?_
      refine lv_iadd hx hb dX2_unknownIn_53 ?_
      refine lv_istore_n (lv' := [(3, .int (y + 0)), (4, .int (nI (i))), (0, .ref (e_a E (26))), (1, .int (x)), (2, .int (0))]) hx hb dX2_unknownIn_54 rfl hl (by decide) rfl (fun ls hl => ?_)
      refine lv_iinc (v := nI (i + 1)) (lv' := [(4, .int (nI (i + 1))), (3, .int (y + 0)), (0, .ref (e_a E (26))), (1, .int (x)), (2, .int (0))]) hx hb dX2_unknownIn_55 hl (k := 1) rfl (by exact nI_add (i) 1) (by decide) rfl (fun ls hl => ?_)
      refine lv_goto (tgt := 5) hx hb dX2_unknownIn_58 (by decide) ?_
      exact IH ((i + 1), (y + 0)) (show (i + 1) ≤ 96 ∧ (y + 0) = nI (ct (fZero (σ 27) (σ 28) x) (i + 1)) from ⟨by omega, ct_0 hI.2 (by simp [fZero, c21])⟩) (by (try dsimp only); omega) _ _ _ hP hS (lv_sub hl [0, 1, 2, 3, 4] rfl)
    · skip
      refine lv_iload_n hx hb dX2_unknownIn_24 rfl (lv_at hl 4 rfl) ?_
      refine lv_if_eq (tgt := 38) hx hb dX2_unknownIn_25 (by decide) (fun c25 => ?_) (fun c25 => ?_)
      rotate_left
      · exact absurd c25 (fun h => h rfl)
      refine lv_aload_n hx hb dX2_unknownIn_38 rfl (lv_at hl 2 rfl) ?_
      refine q_get (C := RX2) (T := TX2) (N := 20) (ci := 2) (v := .ref (e_a E (28))) hx hb hts hinX2 hown hK hP at_26 rfl 2 (by decide) hf13 rfl dX2_unknownIn_39 ?_
      refine lv_iload hx hb dX2_unknownIn_42 (lv_at hl 0 rfl) ?_
      refine q_ld hx hb hK hP at_28 (i := i) rfl (by omega) (by decide) dX2_unknownIn_44 ?_
      refine lv_if_ne (tgt := 52) hx hb dX2_unknownIn_45 (by decide) (fun c45 => ?_) (fun c45 => ?_)
      · skip
        refine lv_iconst (v := 0) hx hb dX2_unknownIn_52 (by decide) ?_
        refine lv_iadd hx hb dX2_unknownIn_53 ?_
        refine lv_istore_n (lv' := [(3, .int (y + 0)), (4, .int (nI (i))), (0, .ref (e_a E (26))), (1, .int (x)), (2, .int (0))]) hx hb dX2_unknownIn_54 rfl hl (by decide) rfl (fun ls hl => ?_)
        refine lv_iinc (v := nI (i + 1)) (lv' := [(4, .int (nI (i + 1))), (3, .int (y + 0)), (0, .ref (e_a E (26))), (1, .int (x)), (2, .int (0))]) hx hb dX2_unknownIn_55 hl (k := 1) rfl (by exact nI_add (i) 1) (by decide) rfl (fun ls hl => ?_)
        refine lv_goto (tgt := 5) hx hb dX2_unknownIn_58 (by decide) ?_
        exact IH ((i + 1), (y + 0)) (show (i + 1) ≤ 96 ∧ (y + 0) = nI (ct (fZero (σ 27) (σ 28) x) (i + 1)) from ⟨by omega, ct_0 hI.2 (by simp [fZero, c21, c45])⟩) (by (try dsimp only); omega) _ _ _ hP hS (lv_sub hl [0, 1, 2, 3, 4] rfl)
      · skip
        refine lv_iconst (v := 1) hx hb dX2_unknownIn_48 (by decide) ?_
        refine lv_goto (tgt := 53) hx hb dX2_unknownIn_49 (by decide) ?_
        refine lv_iadd hx hb dX2_unknownIn_53 ?_
        refine lv_istore_n (lv' := [(3, .int (y + 1)), (4, .int (nI (i))), (0, .ref (e_a E (26))), (1, .int (x)), (2, .int (0))]) hx hb dX2_unknownIn_54 rfl hl (by decide) rfl (fun ls hl => ?_)
        refine lv_iinc (v := nI (i + 1)) (lv' := [(4, .int (nI (i + 1))), (3, .int (y + 1)), (0, .ref (e_a E (26))), (1, .int (x)), (2, .int (0))]) hx hb dX2_unknownIn_55 hl (k := 1) rfl (by exact nI_add (i) 1) (by decide) rfl (fun ls hl => ?_)
        refine lv_goto (tgt := 5) hx hb dX2_unknownIn_58 (by decide) ?_
        exact IH ((i + 1), (y + 1)) (show (i + 1) ≤ 96 ∧ (y + 1) = nI (ct (fZero (σ 27) (σ 28) x) (i + 1)) from ⟨by omega, ct_1 hI.2 (by simp [fZero, c21, c45])⟩) (by (try dsimp only); omega) _ _ _ hP hS (lv_sub hl [0, 1, 2, 3, 4] rfl)
set_option maxHeartbeats 4000000 in
set_option maxRecDepth 100000 in
/-- unknownIn -/
theorem mtX2_unknownIn_g (l : Launch) (E : Ev) (hok : e_ok E) (σ : Mem) (o : Nat → Int64) (x : Int32) : Met l yX2_unknownIn wsX2_unknownIn ({ frames := 0, cells := 0, slots := 0, locals := 0 } : Room) (PW E σ o [.ref (e_a E (26)), .int (x), .int (1)]) (va_Qi (fun (r : Int32) (σ' : Mem) => r = nI (ct (fZero (σ 27) (σ 29) x) 96) ∧ σ' = σ) (BW E o) (LB (e_B E))) 0 0 (LB (e_B E)) := by
  refine Met.ofW (cc := cX2_unknownIn) (maxL := 5) (ret := (some .int)) (by decide) rfl ?_
  intro p e s m args below meth c s₁ B hml hv
  obtain ⟨rfl, hP, hK⟩ := hv
  have hx := B.exec
  have hb := B.bytes
  have hr := B.returns
  have hts := atoms_spec (ws := wsX2_unknownIn) B.pre
  have hown : s.vm.findClass RX2 = some m.cls := findClass_of_methodNamed B.named
  have hlocks := B.notSynchronized
  have hS : va_S (LB (e_B E)) s.heap s.heap [] := va_S.rf
  have hinX2 : ∀ w ∈ wsX20, w ∈ wsX2_unknownIn := fun w h => by simp only [wsX2_unknownIn, List.mem_cons, List.mem_append, h, or_true, true_or]
  have hf7 := hts (.fieldLink RX2 7 "ParcelChutesModel" "home" "[I") (by decide +kernel)
  have hf16 := hts (.fieldLink RX2 16 "ParcelChutesModel" "round" "[I") (by decide +kernel)
  have hl := lv_entry ([.ref (e_a E (26)), .int (x), .int (1)]) (n := 5) (Nat.le_of_ble_eq_true rfl)
  rw [lg_entry_eq]
  generalize (lg_sl ([.ref (e_a E (26)), .int (x), .int (1)]) ++ List.replicate (5 - (lg_sl ([.ref (e_a E (26)), .int (x), .int (1)])).length) Slot.unset).toArray = ls at hl ⊢
  have hl : lv_has ls 5 [(0, .ref (e_a E (26))), (1, .int (x)), (2, .int (1))] := hl
  refine lv_iconst (v := 0) hx hb dX2_unknownIn_0 (by decide) ?_
  refine lv_istore_n (lv' := [(3, .int (0)), (0, .ref (e_a E (26))), (1, .int (x)), (2, .int (1))]) hx hb dX2_unknownIn_1 rfl hl (by decide) rfl (fun ls hl => ?_)
  refine lv_iconst (v := 0) hx hb dX2_unknownIn_2 (by decide) ?_
  refine lv_istore (lv' := [(4, .int (0)), (3, .int (0)), (0, .ref (e_a E (26))), (1, .int (x)), (2, .int (1))]) hx hb dX2_unknownIn_3 hl (by decide) rfl (fun ls hl => ?_)
  refine w_loop (E := E) (o := o) (ι := Nat × Int32) (μ := fun (i, y) => 96 - i) (I := fun (i, y) => i ≤ 96 ∧ y = nI (ct (fZero (σ 27) (σ 29) x) i)) (mem := fun _ => σ) (lv := fun (i, y) => [(4, .int (nI (i))), (3, .int (y)), (0, .ref (e_a E (26))), (1, .int (x)), (2, .int (1))]) (nL := 5) (pch := 5) ?_ ((0), (0)) (show (0) ≤ 96 ∧ (0) = nI (ct (fZero (σ 27) (σ 29) x) (0)) from ⟨Nat.zero_le _, rfl⟩) hP hS (lv_sub hl [0, 1, 2, 3, 4] rfl)
  rintro ⟨i, y⟩ hI IH H locs ls hP hS hl
  have hP : va_P (e_D E) vwCl (wd E σ o) H := hP
  have hl : lv_has ls 5 [(4, .int (nI (i))), (3, .int (y)), (0, .ref (e_a E (26))), (1, .int (x)), (2, .int (1))] := hl
  have hI : i ≤ 96 ∧ y = nI (ct (fZero (σ 27) (σ 29) x) i) := hI
  refine lv_iload hx hb dX2_unknownIn_5 (lv_at hl 0 rfl) ?_
  refine lv_bipush (v := 96) hx hb dX2_unknownIn_7 (by decide) ?_
  refine nb_ge (i := i) (j := 96) hx hb rfl rfl (by omega) (by omega) dX2_unknownIn_9 (tgt := 61) (by decide) (fun c9 => ?_) (fun c9 => ?_)
  · skip
    refine lv_iload_n hx hb dX2_unknownIn_61 rfl (lv_at hl 1 rfl) ?_
    exact r_i hx hb hr hlocks hP hS dX2_unknownIn_62 ⟨by rw [hI.2, show i = 96 by omega], rfl⟩
  · skip
    refine lv_iload_n hx hb dX2_unknownIn_12 rfl (lv_at hl 1 rfl) ?_
    refine lv_aload_n hx hb dX2_unknownIn_13 rfl (lv_at hl 2 rfl) ?_
    refine q_get (C := RX2) (T := TX2) (N := 20) (ci := 2) (v := .ref (e_a E (27))) hx hb hts hinX2 hown hK hP at_26 rfl 1 (by decide) hf7 rfl dX2_unknownIn_14 ?_
    refine lv_iload hx hb dX2_unknownIn_17 (lv_at hl 0 rfl) ?_
    refine q_ld hx hb hK hP at_27 (i := i) rfl (by omega) (by decide) dX2_unknownIn_19 ?_
    refine lv_iload_n hx hb dX2_unknownIn_20 rfl (lv_at hl 3 rfl) ?_
    refine lv_icmp_ne (tgt := 52) hx hb dX2_unknownIn_21 (by decide) (fun c21 => ?_) (fun c21 => ?_)
    · skip
      refine lv_iconst (v := 0) hx hb dX2_unknownIn_52 (by decide) ?_
      refine lv_iadd hx hb dX2_unknownIn_53 ?_
      refine lv_istore_n (lv' := [(3, .int (y + 0)), (4, .int (nI (i))), (0, .ref (e_a E (26))), (1, .int (x)), (2, .int (1))]) hx hb dX2_unknownIn_54 rfl hl (by decide) rfl (fun ls hl => ?_)
      refine lv_iinc (v := nI (i + 1)) (lv' := [(4, .int (nI (i + 1))), (3, .int (y + 0)), (0, .ref (e_a E (26))), (1, .int (x)), (2, .int (1))]) hx hb dX2_unknownIn_55 hl (k := 1) rfl (by exact nI_add (i) 1) (by decide) rfl (fun ls hl => ?_)
      refine lv_goto (tgt := 5) hx hb dX2_unknownIn_58 (by decide) ?_
      exact IH ((i + 1), (y + 0)) (show (i + 1) ≤ 96 ∧ (y + 0) = nI (ct (fZero (σ 27) (σ 29) x) (i + 1)) from ⟨by omega, ct_0 hI.2 (by simp [fZero, c21])⟩) (by (try dsimp only); omega) _ _ _ hP hS (lv_sub hl [0, 1, 2, 3, 4] rfl)
    · skip
      refine lv_iload_n hx hb dX2_unknownIn_24 rfl (lv_at hl 4 rfl) ?_
      refine lv_if_eq (tgt := 38) hx hb dX2_unknownIn_25 (by decide) (fun c25 => ?_) (fun c25 => ?_)
      · exact absurd c25 (by decide)
      refine lv_aload_n hx hb dX2_unknownIn_28 rfl (lv_at hl 2 rfl) ?_
      refine q_get (C := RX2) (T := TX2) (N := 20) (ci := 2) (v := .ref (e_a E (29))) hx hb hts hinX2 hown hK hP at_26 rfl 3 (by decide) hf16 rfl dX2_unknownIn_29 ?_
      refine lv_iload hx hb dX2_unknownIn_32 (lv_at hl 0 rfl) ?_
      refine q_ld hx hb hK hP at_29 (i := i) rfl (by omega) (by decide) dX2_unknownIn_34 ?_
      refine lv_goto (tgt := 45) hx hb dX2_unknownIn_35 (by decide) ?_
      refine lv_if_ne (tgt := 52) hx hb dX2_unknownIn_45 (by decide) (fun c45 => ?_) (fun c45 => ?_)
      · skip
        refine lv_iconst (v := 0) hx hb dX2_unknownIn_52 (by decide) ?_
        refine lv_iadd hx hb dX2_unknownIn_53 ?_
        refine lv_istore_n (lv' := [(3, .int (y + 0)), (4, .int (nI (i))), (0, .ref (e_a E (26))), (1, .int (x)), (2, .int (1))]) hx hb dX2_unknownIn_54 rfl hl (by decide) rfl (fun ls hl => ?_)
        refine lv_iinc (v := nI (i + 1)) (lv' := [(4, .int (nI (i + 1))), (3, .int (y + 0)), (0, .ref (e_a E (26))), (1, .int (x)), (2, .int (1))]) hx hb dX2_unknownIn_55 hl (k := 1) rfl (by exact nI_add (i) 1) (by decide) rfl (fun ls hl => ?_)
        refine lv_goto (tgt := 5) hx hb dX2_unknownIn_58 (by decide) ?_
        exact IH ((i + 1), (y + 0)) (show (i + 1) ≤ 96 ∧ (y + 0) = nI (ct (fZero (σ 27) (σ 29) x) (i + 1)) from ⟨by omega, ct_0 hI.2 (by simp [fZero, c21, c45])⟩) (by (try dsimp only); omega) _ _ _ hP hS (lv_sub hl [0, 1, 2, 3, 4] rfl)
      · skip
        refine lv_iconst (v := 1) hx hb dX2_unknownIn_48 (by decide) ?_
        refine lv_goto (tgt := 53) hx hb dX2_unknownIn_49 (by decide) ?_
        refine lv_iadd hx hb dX2_unknownIn_53 ?_
        refine lv_istore_n (lv' := [(3, .int (y + 1)), (4, .int (nI (i))), (0, .ref (e_a E (26))), (1, .int (x)), (2, .int (1))]) hx hb dX2_unknownIn_54 rfl hl (by decide) rfl (fun ls hl => ?_)
        refine lv_iinc (v := nI (i + 1)) (lv' := [(4, .int (nI (i + 1))), (3, .int (y + 1)), (0, .ref (e_a E (26))), (1, .int (x)), (2, .int (1))]) hx hb dX2_unknownIn_55 hl (k := 1) rfl (by exact nI_add (i) 1) (by decide) rfl (fun ls hl => ?_)
        refine lv_goto (tgt := 5) hx hb dX2_unknownIn_58 (by decide) ?_
        exact IH ((i + 1), (y + 1)) (show (i + 1) ≤ 96 ∧ (y + 1) = nI (ct (fZero (σ 27) (σ 29) x) (i + 1)) from ⟨by omega, ct_1 hI.2 (by simp [fZero, c21, c45])⟩) (by (try dsimp only); omega) _ _ _ hP hS (lv_sub hl [0, 1, 2, 3, 4] rfl)
set_option maxHeartbeats 4000000 in
set_option maxRecDepth 100000 in
/-- chute -/
theorem mtX2_chute (l : Launch) (E : Ev) (hok : e_ok E) (σ : Mem) (o : Nat → Int64) (x v : Int32) : Met l yX2_chute wsX2_chute ({ frames := 2, cells := 0, slots := 0, locals := 41 } : Room) (PW E σ o [.ref (e_a E (26)), .int (x), .int (v)]) (va_Qi (fun (r : Int32) (σ' : Mem) => (tH x v ≠ 0 ∧ r = 0 ∧ σ' = m_up σ 26 0 (tH x v)) ∨ (tH x v = 0 ∧ ∃ k : Nat, k < 8 ∧ x = nI k ∧ r = chM σ k v ∧ σ' = m_up σ 26 0 0)) (BW E o) (LB (e_B E))) 0 0 (LB (e_B E)) := by
  refine Met.ofW (cc := cX2_chute) (maxL := 3) (ret := (some .int)) (by decide) rfl ?_
  intro p e s m args below meth c s₁ B hml hv
  obtain ⟨rfl, hP, hK⟩ := hv
  have hx := B.exec
  have hb := B.bytes
  have hr := B.returns
  have hts := atoms_spec (ws := wsX2_chute) B.pre
  have hown : s.vm.findClass RX2 = some m.cls := findClass_of_methodNamed B.named
  have hlocks := B.notSynchronized
  have hS : va_S (LB (e_B E)) s.heap s.heap [] := va_S.rf
  have hinX2 : ∀ w ∈ wsX20, w ∈ wsX2_chute := fun w h => by simp only [wsX2_chute, List.mem_cons, List.mem_append, h, or_true, true_or]
  have hf22 := hts (.fieldLink RX2 22 "ParcelChutesModel" "kind" "[I") (by decide +kernel)
  have hf25 := hts (.fieldLink RX2 25 "ParcelChutesModel" "low" "[I") (by decide +kernel)
  have hf28 := hts (.fieldLink RX2 28 "ParcelChutesModel" "high" "[I") (by decide +kernel)
  have hf31 := hts (.fieldLink RX2 31 "ParcelChutesModel" "wide" "[I") (by decide +kernel)
  have hf34 := hts (.fieldLink RX2 34 "ParcelChutesModel" "closed" "[Z") (by decide +kernel)
  have hf38 := hts (.fieldLink RX2 38 "ParcelChutesModel" "thrown" "I") (by decide +kernel)
  have hl := lv_entry ([.ref (e_a E (26)), .int (x), .int (v)]) (n := 3) (Nat.le_of_ble_eq_true rfl)
  rw [lg_entry_eq]
  generalize (lg_sl ([.ref (e_a E (26)), .int (x), .int (v)]) ++ List.replicate (3 - (lg_sl ([.ref (e_a E (26)), .int (x), .int (v)])).length) Slot.unset).toArray = ls at hl ⊢
  have hl : lv_has ls 3 [(0, .ref (e_a E (26))), (1, .int (x)), (2, .int (v))] := hl
  refine lv_aload_n hx hb dX2_chute_0 rfl (lv_at hl 0 rfl) ?_
  refine lv_iload_n hx hb dX2_chute_1 rfl (lv_at hl 1 rfl) ?_
  refine cut_w (ls := ls) (E := E) (o := o) (σ := σ) (pcj := 26) (rest := [.ref (e_a E (26))]) (P := fun vv : Int32 => vv = tH x v) ?_ (fun J26 => ?_)
  · intro v1 H locs ev1 hP hS
    subst ev1
    refine q_put (C := RX2) (T := TX2) (N := 20) (ci := 2) (ty := .int) (v := tH x v) hx hb hts hinX2 tyX2 tyX2_ok nmX2 hown hok hK hP hS at_26 (by decide) rfl 0 (by decide) hf38 rfl (tyX2_ok 0 (by decide)) rfl rfl (Nat.le_of_ble_eq_true rfl) rfl dX2_chute_26 (fun H locs hP hS => ?_)
    refine lv_aload_n hx hb dX2_chute_29 rfl (lv_at hl 0 rfl) ?_
    refine q_get (C := RX2) (T := TX2) (N := 20) (ci := 2) (v := .int (tH x v)) hx hb hts hinX2 hown hK hP at_26 rfl 0 (by decide) hf38 rfl dX2_chute_30 ?_
    refine lv_if_eq (tgt := 38) hx hb dX2_chute_33 (by decide) (fun c33 => ?_) (fun c33 => ?_)
    · skip
      obtain ⟨k, hk, ek⟩ := tH_ch c33
      rw [c33] at hP
      refine lv_iload_n hx hb dX2_chute_38 rfl (lv_at hl 2 rfl) ?_
      by_cases k39_0 : v = 0
      · skip
        refine lv_tableIn (off := 37) (tgt := 76) hx hb dX2_chute_39 (by rw [k39_0]; decide) (by rw [k39_0]; decide) (by rw [k39_0]; rfl) (by decide) ?_
        refine lv_aload_n hx hb dX2_chute_76 rfl (lv_at hl 0 rfl) ?_
        refine q_get (C := RX2) (T := TX2) (N := 20) (ci := 2) (v := .ref (e_a E (31))) hx hb hts hinX2 hown hK hP at_26 rfl 6 (by decide) hf22 rfl dX2_chute_77 ?_
        refine lv_iload_n hx hb dX2_chute_80 rfl (lv_at hl 1 rfl) ?_
        refine q_ldv hx hb hK hP at_31 (i := k) ek (by omega) (by decide) dX2_chute_81 (v := σ (31) (k)) rfl ?_
        exact r_i hx hb hr hlocks hP hS dX2_chute_82 (Or.inr ⟨c33, k, hk, ek, by simp [chM, b1, ← ek, k39_0], rfl⟩)
      by_cases k39_1 : v = 1
      · skip
        refine lv_tableIn (off := 44) (tgt := 83) hx hb dX2_chute_39 (by rw [k39_1]; decide) (by rw [k39_1]; decide) (by rw [k39_1]; rfl) (by decide) ?_
        refine lv_aload_n hx hb dX2_chute_83 rfl (lv_at hl 0 rfl) ?_
        refine q_get (C := RX2) (T := TX2) (N := 20) (ci := 2) (v := .ref (e_a E (32))) hx hb hts hinX2 hown hK hP at_26 rfl 7 (by decide) hf25 rfl dX2_chute_84 ?_
        refine lv_iload_n hx hb dX2_chute_87 rfl (lv_at hl 1 rfl) ?_
        refine q_ldv hx hb hK hP at_32 (i := k) ek (by omega) (by decide) dX2_chute_88 (v := σ (32) (k)) rfl ?_
        exact r_i hx hb hr hlocks hP hS dX2_chute_89 (Or.inr ⟨c33, k, hk, ek, by simp [chM, b1, ← ek, k39_0, k39_1], rfl⟩)
      by_cases k39_2 : v = 2
      · skip
        refine lv_tableIn (off := 51) (tgt := 90) hx hb dX2_chute_39 (by rw [k39_2]; decide) (by rw [k39_2]; decide) (by rw [k39_2]; rfl) (by decide) ?_
        refine lv_aload_n hx hb dX2_chute_90 rfl (lv_at hl 0 rfl) ?_
        refine q_get (C := RX2) (T := TX2) (N := 20) (ci := 2) (v := .ref (e_a E (33))) hx hb hts hinX2 hown hK hP at_26 rfl 8 (by decide) hf28 rfl dX2_chute_91 ?_
        refine lv_iload_n hx hb dX2_chute_94 rfl (lv_at hl 1 rfl) ?_
        refine q_ldv hx hb hK hP at_33 (i := k) ek (by omega) (by decide) dX2_chute_95 (v := σ (33) (k)) rfl ?_
        exact r_i hx hb hr hlocks hP hS dX2_chute_96 (Or.inr ⟨c33, k, hk, ek, by simp [chM, b1, ← ek, k39_0, k39_1, k39_2], rfl⟩)
      by_cases k39_3 : v = 3
      · skip
        refine lv_tableIn (off := 58) (tgt := 97) hx hb dX2_chute_39 (by rw [k39_3]; decide) (by rw [k39_3]; decide) (by rw [k39_3]; rfl) (by decide) ?_
        refine lv_aload_n hx hb dX2_chute_97 rfl (lv_at hl 0 rfl) ?_
        refine q_get (C := RX2) (T := TX2) (N := 20) (ci := 2) (v := .ref (e_a E (34))) hx hb hts hinX2 hown hK hP at_26 rfl 9 (by decide) hf31 rfl dX2_chute_98 ?_
        refine lv_iload_n hx hb dX2_chute_101 rfl (lv_at hl 1 rfl) ?_
        refine q_ldv hx hb hK hP at_34 (i := k) ek (by omega) (by decide) dX2_chute_102 (v := σ (34) (k)) rfl ?_
        exact r_i hx hb hr hlocks hP hS dX2_chute_103 (Or.inr ⟨c33, k, hk, ek, by simp [chM, b1, ← ek, k39_0, k39_1, k39_2, k39_3], rfl⟩)
      by_cases k39_4 : v = 4
      · skip
        refine lv_tableIn (off := 65) (tgt := 104) hx hb dX2_chute_39 (by rw [k39_4]; decide) (by rw [k39_4]; decide) (by rw [k39_4]; rfl) (by decide) ?_
        refine lv_aload_n hx hb dX2_chute_104 rfl (lv_at hl 0 rfl) ?_
        refine q_get (C := RX2) (T := TX2) (N := 20) (ci := 2) (v := .ref (e_a E (35))) hx hb hts hinX2 hown hK hP at_26 rfl 10 (by decide) hf34 rfl dX2_chute_105 ?_
        refine lv_iload_n hx hb dX2_chute_108 rfl (lv_at hl 1 rfl) ?_
        refine q_zldv hx hb hK hP (i := k) ek (by omega) dX2_chute_109 (v := σ (35) (k)) rfl ?_
        refine lv_if_eq (tgt := 117) hx hb dX2_chute_110 (by decide) (fun c110 => ?_) (fun c110 => ?_)
        · skip
          refine lv_iconst (v := 0) hx hb dX2_chute_117 (by decide) ?_
          exact r_i hx hb hr hlocks hP hS dX2_chute_118 (Or.inr ⟨c33, k, hk, ek, by simp [chM, b1, ← ek, k39_0, k39_1, k39_2, k39_3, k39_4, c110], rfl⟩)
        · skip
          refine lv_iconst (v := 1) hx hb dX2_chute_113 (by decide) ?_
          refine lv_goto (tgt := 118) hx hb dX2_chute_114 (by decide) ?_
          exact r_i hx hb hr hlocks hP hS dX2_chute_118 (Or.inr ⟨c33, k, hk, ek, by simp [chM, b1, ← ek, k39_0, k39_1, k39_2, k39_3, k39_4, c110], rfl⟩)
      by_cases k39_5 : v = 5
      · skip
        refine lv_tableIn (off := 80) (tgt := 119) hx hb dX2_chute_39 (by rw [k39_5]; decide) (by rw [k39_5]; decide) (by rw [k39_5]; rfl) (by decide) ?_
        refine lv_aload_n hx hb dX2_chute_119 rfl (lv_at hl 0 rfl) ?_
        refine lv_iload_n hx hb dX2_chute_120 rfl (lv_at hl 1 rfl) ?_
        refine k_Vi (As := [.int (x)]) (rest := []) ⟨hx, hb, hml, hown, hts⟩ (mtX2_many l E hok (m_up σ 26 0 0) o x) (cwV 1 hts gX2_chute_X2_many rfl rfl rfl (by decide +kernel) ⟨Nat.le_of_ble_eq_true rfl, Nat.le_of_ble_eq_true rfl⟩) (va_recv hK.K hP (ci := 2) (q0 := 26) rfl at_26) hK hP hS rfl hl.1 rfl (Nat.le_of_ble_eq_true rfl) dX2_chute_121 ⟨Nat.le_of_ble_eq_true rfl, Nat.le_of_ble_eq_true rfl⟩ (fun r2 σ_3 H locs hr2 hP hS => ?_)
        obtain ⟨zhr2, ehr2⟩ := hr2
        rw [ehr2] at hP
        have zhr2 : r2 = nI (ct (fHome (σ (27)) x) 96) := zhr2
        subst zhr2
        exact r_i hx hb hr hlocks hP hS dX2_chute_124 (Or.inr ⟨c33, k, hk, ek, by simp [chM, b1, ← ek, k39_0, k39_1, k39_2, k39_3, k39_4, k39_5], rfl⟩)
      refine lv_tableOut (tgt := 125) hx hb dX2_chute_39 (tb_out5 _ k39_0 k39_1 k39_2 k39_3 k39_4 k39_5) (by decide) ?_
      refine lv_aload_n hx hb dX2_chute_125 rfl (lv_at hl 0 rfl) ?_
      refine lv_iload_n hx hb dX2_chute_126 rfl (lv_at hl 1 rfl) ?_
      refine lv_iload_n hx hb dX2_chute_127 rfl (lv_at hl 2 rfl) ?_
      refine lv_bipush (v := 7) hx hb dX2_chute_128 (by decide) ?_
      refine lv_icmp_ne (tgt := 137) hx hb dX2_chute_130 (by decide) (fun c130 => ?_) (fun c130 => ?_)
      · skip
        refine lv_iconst (v := 0) hx hb dX2_chute_137 (by decide) ?_
        refine k_Vi (As := [.int (x), .int (0)]) (rest := []) ⟨hx, hb, hml, hown, hts⟩ (mtX2_unknownIn_w l E hok (m_up σ 26 0 0) o x) (cwV 2 hts gX2_chute_X2_unknownIn rfl rfl rfl (by decide +kernel) ⟨Nat.le_of_ble_eq_true rfl, Nat.le_of_ble_eq_true rfl⟩) (va_recv hK.K hP (ci := 2) (q0 := 26) rfl at_26) hK hP hS rfl hl.1 rfl (Nat.le_of_ble_eq_true rfl) dX2_chute_138 ⟨Nat.le_of_ble_eq_true rfl, Nat.le_of_ble_eq_true rfl⟩ (fun r4 σ_5 H locs hr4 hP hS => ?_)
        obtain ⟨zhr4, ehr4⟩ := hr4
        rw [ehr4] at hP
        have zhr4 : r4 = nI (ct (fZero (σ (27)) (σ (28)) x) 96) := zhr4
        subst zhr4
        exact r_i hx hb hr hlocks hP hS dX2_chute_141 (Or.inr ⟨c33, k, hk, ek, by simp [chM, b1, ← ek, k39_0, k39_1, k39_2, k39_3, k39_4, k39_5, c130], rfl⟩)
      · skip
        refine lv_iconst (v := 1) hx hb dX2_chute_133 (by decide) ?_
        refine lv_goto (tgt := 138) hx hb dX2_chute_134 (by decide) ?_
        refine k_Vi (As := [.int (x), .int (1)]) (rest := []) ⟨hx, hb, hml, hown, hts⟩ (mtX2_unknownIn_g l E hok (m_up σ 26 0 0) o x) (cwV 2 hts gX2_chute_X2_unknownIn rfl rfl rfl (by decide +kernel) ⟨Nat.le_of_ble_eq_true rfl, Nat.le_of_ble_eq_true rfl⟩) (va_recv hK.K hP (ci := 2) (q0 := 26) rfl at_26) hK hP hS rfl hl.1 rfl (Nat.le_of_ble_eq_true rfl) dX2_chute_138 ⟨Nat.le_of_ble_eq_true rfl, Nat.le_of_ble_eq_true rfl⟩ (fun r6 σ_7 H locs hr6 hP hS => ?_)
        obtain ⟨zhr6, ehr6⟩ := hr6
        rw [ehr6] at hP
        have zhr6 : r6 = nI (ct (fZero (σ (27)) (σ (29)) x) 96) := zhr6
        subst zhr6
        exact r_i hx hb hr hlocks hP hS dX2_chute_141 (Or.inr ⟨c33, k, hk, ek, by simp [chM, b1, ← ek, k39_0, k39_1, k39_2, k39_3, k39_4, k39_5, c130], rfl⟩)
    · skip
      refine lv_iconst (v := 0) hx hb dX2_chute_36 (by decide) ?_
      exact r_i hx hb hr hlocks hP hS dX2_chute_37 (Or.inl ⟨c33, rfl, rfl⟩)
  refine k_Si (As := [.int (x)]) (rest := [.ref (e_a E (26))]) ⟨hx, hb, hml, hown, hts⟩ (mtX2_isChute l x) (va_cwS 1 hts gX2_chute_X2_isChute rfl rfl rfl (by decide +kernel) ⟨Nat.le_of_ble_eq_true rfl, Nat.le_of_ble_eq_true rfl⟩) rfl hl.1 rfl (Nat.le_of_ble_eq_true rfl) dX2_chute_2 ⟨Nat.le_of_ble_eq_true rfl, Nat.le_of_ble_eq_true rfl⟩ (fun r8 er8 => ?_)
  subst er8
  refine lv_if_ne (tgt := 12) hx hb dX2_chute_5 (by decide) (fun c5 => ?_) (fun c5 => ?_)
  · skip
    refine lv_iload_n hx hb dX2_chute_12 rfl (lv_at hl 2 rfl) ?_
    refine lv_bipush (v := 7) hx hb dX2_chute_13 (by decide) ?_
    refine k_Si (As := [.int (v), .int (7)]) (rest := [.ref (e_a E (26))]) ⟨hx, hb, hml, hown, hts⟩ (mtX2_isWithin l v 7) (va_cwS 2 hts gX2_chute_X2_isWithin rfl rfl rfl (by decide +kernel) ⟨Nat.le_of_ble_eq_true rfl, Nat.le_of_ble_eq_true rfl⟩) rfl hl.1 rfl (Nat.le_of_ble_eq_true rfl) dX2_chute_15 ⟨Nat.le_of_ble_eq_true rfl, Nat.le_of_ble_eq_true rfl⟩ (fun r9 er9 => ?_)
    subst er9
    refine lv_if_ne (tgt := 25) hx hb dX2_chute_18 (by decide) (fun c18 => ?_) (fun c18 => ?_)
    · skip
      refine lv_iconst (v := 0) hx hb dX2_chute_25 (by decide) ?_
      exact J26 _ _ _ (by simp [tH, c5, c18]) hP hS
    · skip
      refine lv_iconst (v := 2) hx hb dX2_chute_21 (by decide) ?_
      refine lv_goto (tgt := 26) hx hb dX2_chute_22 (by decide) ?_
      exact J26 _ _ _ (by simp [tH, c5, c18]) hP hS
  · skip
    refine lv_iconst (v := 1) hx hb dX2_chute_8 (by decide) ?_
    refine lv_goto (tgt := 26) hx hb dX2_chute_9 (by decide) ?_
    exact J26 _ _ _ (by simp [tH, c5]) hP hS
set_option maxHeartbeats 4000000 in
set_option maxRecDepth 100000 in
/-- heaviestIn -/
theorem mtX2_heaviestIn (l : Launch) (E : Ev) (hok : e_ok E) (σ : Mem) (o : Nat → Int64) (x : Int32) : Met l yX2_heaviestIn wsX2_heaviestIn ({ frames := 0, cells := 0, slots := 0, locals := 0 } : Room) (PW E σ o [.ref (e_a E (26)), .int (x)]) (va_Qi (fun (r : Int32) (σ' : Mem) => r = hvM (σ 27) (σ 28) x 96 ∧ σ' = σ) (BW E o) (LB (e_B E))) 0 0 (LB (e_B E)) := by
  refine Met.ofW (cc := cX2_heaviestIn) (maxL := 4) (ret := (some .int)) (by decide) rfl ?_
  intro p e s m args below meth c s₁ B hml hv
  obtain ⟨rfl, hP, hK⟩ := hv
  have hx := B.exec
  have hb := B.bytes
  have hr := B.returns
  have hts := atoms_spec (ws := wsX2_heaviestIn) B.pre
  have hown : s.vm.findClass RX2 = some m.cls := findClass_of_methodNamed B.named
  have hlocks := B.notSynchronized
  have hS : va_S (LB (e_B E)) s.heap s.heap [] := va_S.rf
  have hinX2 : ∀ w ∈ wsX20, w ∈ wsX2_heaviestIn := fun w h => by simp only [wsX2_heaviestIn, List.mem_cons, List.mem_append, h, or_true, true_or]
  have hf7 := hts (.fieldLink RX2 7 "ParcelChutesModel" "home" "[I") (by decide +kernel)
  have hf13 := hts (.fieldLink RX2 13 "ParcelChutesModel" "heavy" "[I") (by decide +kernel)
  have hl := lv_entry ([.ref (e_a E (26)), .int (x)]) (n := 4) (Nat.le_of_ble_eq_true rfl)
  rw [lg_entry_eq]
  generalize (lg_sl ([.ref (e_a E (26)), .int (x)]) ++ List.replicate (4 - (lg_sl ([.ref (e_a E (26)), .int (x)])).length) Slot.unset).toArray = ls at hl ⊢
  have hl : lv_has ls 4 [(0, .ref (e_a E (26))), (1, .int (x))] := hl
  refine lv_iconst (v := 0) hx hb dX2_heaviestIn_0 (by decide) ?_
  refine lv_istore_n (lv' := [(2, .int (0)), (0, .ref (e_a E (26))), (1, .int (x))]) hx hb dX2_heaviestIn_1 rfl hl (by decide) rfl (fun ls hl => ?_)
  refine lv_iconst (v := 0) hx hb dX2_heaviestIn_2 (by decide) ?_
  refine lv_istore_n (lv' := [(3, .int (0)), (2, .int (0)), (0, .ref (e_a E (26))), (1, .int (x))]) hx hb dX2_heaviestIn_3 rfl hl (by decide) rfl (fun ls hl => ?_)
  refine w_loop (E := E) (o := o) (ι := Nat × Int32) (μ := fun (i, y) => 96 - i) (I := fun (i, y) => i ≤ 96 ∧ y = hvM (σ 27) (σ 28) x i) (mem := fun _ => σ) (lv := fun (i, y) => [(3, .int (nI (i))), (2, .int (y)), (0, .ref (e_a E (26))), (1, .int (x))]) (nL := 4) (pch := 4) ?_ ((0), (0)) (show (0) ≤ 96 ∧ (0) = hvM (σ 27) (σ 28) x (0) from ⟨Nat.zero_le _, rfl⟩) hP hS (lv_sub hl [0, 1, 2, 3] rfl)
  rintro ⟨i, y⟩ hI IH H locs ls hP hS hl
  have hP : va_P (e_D E) vwCl (wd E σ o) H := hP
  have hl : lv_has ls 4 [(3, .int (nI (i))), (2, .int (y)), (0, .ref (e_a E (26))), (1, .int (x))] := hl
  have hI : i ≤ 96 ∧ y = hvM (σ 27) (σ 28) x i := hI
  refine lv_iload_n hx hb dX2_heaviestIn_4 rfl (lv_at hl 0 rfl) ?_
  refine lv_bipush (v := 96) hx hb dX2_heaviestIn_5 (by decide) ?_
  refine nb_ge (i := i) (j := 96) hx hb rfl rfl (by omega) (by omega) dX2_heaviestIn_7 (tgt := 47) (by decide) (fun c7 => ?_) (fun c7 => ?_)
  · skip
    refine lv_iload_n hx hb dX2_heaviestIn_47 rfl (lv_at hl 1 rfl) ?_
    exact r_i hx hb hr hlocks hP hS dX2_heaviestIn_48 ⟨by rw [hI.2, show i = 96 by omega], rfl⟩
  · skip
    refine lv_aload_n hx hb dX2_heaviestIn_10 rfl (lv_at hl 2 rfl) ?_
    refine q_get (C := RX2) (T := TX2) (N := 20) (ci := 2) (v := .ref (e_a E (27))) hx hb hts hinX2 hown hK hP at_26 rfl 1 (by decide) hf7 rfl dX2_heaviestIn_11 ?_
    refine lv_iload_n hx hb dX2_heaviestIn_14 rfl (lv_at hl 0 rfl) ?_
    refine q_ld hx hb hK hP at_27 (i := i) rfl (by omega) (by decide) dX2_heaviestIn_15 ?_
    refine lv_iload_n hx hb dX2_heaviestIn_16 rfl (lv_at hl 3 rfl) ?_
    refine lv_icmp_ne (tgt := 39) hx hb dX2_heaviestIn_17 (by decide) (fun c17 => ?_) (fun c17 => ?_)
    · skip
      refine lv_iload_n hx hb dX2_heaviestIn_39 rfl (lv_at hl 1 rfl) ?_
      refine lv_istore_n (lv' := [(2, .int (y)), (3, .int (nI (i))), (0, .ref (e_a E (26))), (1, .int (x))]) hx hb dX2_heaviestIn_40 rfl hl (by decide) rfl (fun ls hl => ?_)
      refine lv_iinc (v := nI (i + 1)) (lv' := [(3, .int (nI (i + 1))), (2, .int (y)), (0, .ref (e_a E (26))), (1, .int (x))]) hx hb dX2_heaviestIn_41 hl (k := 1) rfl (by exact nI_add (i) 1) (by decide) rfl (fun ls hl => ?_)
      refine lv_goto (tgt := 4) hx hb dX2_heaviestIn_44 (by decide) ?_
      exact IH ((i + 1), (y)) (show (i + 1) ≤ 96 ∧ (y) = hvM (σ 27) (σ 28) x (i + 1) from ⟨by omega, by simp [hvM, ← hI.2, c17]⟩) (by (try dsimp only); omega) _ _ _ hP hS (lv_sub hl [0, 1, 2, 3] rfl)
    · skip
      refine lv_aload_n hx hb dX2_heaviestIn_20 rfl (lv_at hl 2 rfl) ?_
      refine q_get (C := RX2) (T := TX2) (N := 20) (ci := 2) (v := .ref (e_a E (28))) hx hb hts hinX2 hown hK hP at_26 rfl 2 (by decide) hf13 rfl dX2_heaviestIn_21 ?_
      refine lv_iload_n hx hb dX2_heaviestIn_24 rfl (lv_at hl 0 rfl) ?_
      refine q_ld hx hb hK hP at_28 (i := i) rfl (by omega) (by decide) dX2_heaviestIn_25 ?_
      refine lv_iload_n hx hb dX2_heaviestIn_26 rfl (lv_at hl 1 rfl) ?_
      refine lv_icmp_le (tgt := 39) hx hb dX2_heaviestIn_27 (by decide) (fun c27 => ?_) (fun c27 => ?_)
      · skip
        refine lv_iload_n hx hb dX2_heaviestIn_39 rfl (lv_at hl 1 rfl) ?_
        refine lv_istore_n (lv' := [(2, .int (y)), (3, .int (nI (i))), (0, .ref (e_a E (26))), (1, .int (x))]) hx hb dX2_heaviestIn_40 rfl hl (by decide) rfl (fun ls hl => ?_)
        refine lv_iinc (v := nI (i + 1)) (lv' := [(3, .int (nI (i + 1))), (2, .int (y)), (0, .ref (e_a E (26))), (1, .int (x))]) hx hb dX2_heaviestIn_41 hl (k := 1) rfl (by exact nI_add (i) 1) (by decide) rfl (fun ls hl => ?_)
        refine lv_goto (tgt := 4) hx hb dX2_heaviestIn_44 (by decide) ?_
        exact IH ((i + 1), (y)) (show (i + 1) ≤ 96 ∧ (y) = hvM (σ 27) (σ 28) x (i + 1) from ⟨by omega, by simp [hvM, ← hI.2, c17, c27]⟩) (by (try dsimp only); omega) _ _ _ hP hS (lv_sub hl [0, 1, 2, 3] rfl)
      · skip
        refine lv_aload_n hx hb dX2_heaviestIn_30 rfl (lv_at hl 2 rfl) ?_
        refine q_get (C := RX2) (T := TX2) (N := 20) (ci := 2) (v := .ref (e_a E (28))) hx hb hts hinX2 hown hK hP at_26 rfl 2 (by decide) hf13 rfl dX2_heaviestIn_31 ?_
        refine lv_iload_n hx hb dX2_heaviestIn_34 rfl (lv_at hl 0 rfl) ?_
        refine q_ld hx hb hK hP at_28 (i := i) rfl (by omega) (by decide) dX2_heaviestIn_35 ?_
        refine lv_goto (tgt := 40) hx hb dX2_heaviestIn_36 (by decide) ?_
        refine lv_istore_n (lv' := [(2, .int (σ (28) (i))), (3, .int (nI (i))), (0, .ref (e_a E (26))), (1, .int (x))]) hx hb dX2_heaviestIn_40 rfl hl (by decide) rfl (fun ls hl => ?_)
        refine lv_iinc (v := nI (i + 1)) (lv' := [(3, .int (nI (i + 1))), (2, .int (σ (28) (i))), (0, .ref (e_a E (26))), (1, .int (x))]) hx hb dX2_heaviestIn_41 hl (k := 1) rfl (by exact nI_add (i) 1) (by decide) rfl (fun ls hl => ?_)
        refine lv_goto (tgt := 4) hx hb dX2_heaviestIn_44 (by decide) ?_
        exact IH ((i + 1), (σ (28) (i))) (show (i + 1) ≤ 96 ∧ (σ (28) (i)) = hvM (σ 27) (σ 28) x (i + 1) from ⟨by omega, by simp [hvM, ← hI.2, c17, c27]⟩) (by (try dsimp only); omega) _ _ _ hP hS (lv_sub hl [0, 1, 2, 3] rfl)
set_option maxHeartbeats 4000000 in
set_option maxRecDepth 100000 in
/-- gauge -/
theorem mtX2_gauge (l : Launch) (E : Ev) (hok : e_ok E) (σ : Mem) (o : Nat → Int64) (v : Int32) : Met l yX2_gauge wsX2_gauge ({ frames := 1, cells := 0, slots := 0, locals := 21 } : Room) (PW E σ o [.ref (e_a E (26)), .int (v)]) (va_Qi (fun (r : Int32) (σ' : Mem) => r = gqM σ v ∧ σ' = m_up σ 26 0 (tV v)) (BW E o) (LB (e_B E))) 0 0 (LB (e_B E)) := by
  refine Met.ofW (cc := cX2_gauge) (maxL := 2) (ret := (some .int)) (by decide) rfl ?_
  intro p e s m args below meth c s₁ B hml hv
  obtain ⟨rfl, hP, hK⟩ := hv
  have hx := B.exec
  have hb := B.bytes
  have hr := B.returns
  have hts := atoms_spec (ws := wsX2_gauge) B.pre
  have hown : s.vm.findClass RX2 = some m.cls := findClass_of_methodNamed B.named
  have hlocks := B.notSynchronized
  have hS : va_S (LB (e_B E)) s.heap s.heap [] := va_S.rf
  have hinX2 : ∀ w ∈ wsX20, w ∈ wsX2_gauge := fun w h => by simp only [wsX2_gauge, List.mem_cons, List.mem_append, h, or_true, true_or]
  have hf38 := hts (.fieldLink RX2 38 "ParcelChutesModel" "thrown" "I") (by decide +kernel)
  have hf65 := hts (.fieldLink RX2 65 "ParcelChutesModel" "lost" "I") (by decide +kernel)
  have hf68 := hts (.fieldLink RX2 68 "ParcelChutesModel" "lostWeight" "I") (by decide +kernel)
  have hf71 := hts (.fieldLink RX2 71 "ParcelChutesModel" "lostGirth" "I") (by decide +kernel)
  have hf81 := hts (.fieldLink RX2 81 "ParcelChutesModel" "sent" "I") (by decide +kernel)
  have hf87 := hts (.fieldLink RX2 87 "ParcelChutesModel" "streak" "I") (by decide +kernel)
  have hf90 := hts (.fieldLink RX2 90 "ParcelChutesModel" "lightest" "I") (by decide +kernel)
  have hf93 := hts (.fieldLink RX2 93 "ParcelChutesModel" "heaviest" "I") (by decide +kernel)
  have hf96 := hts (.fieldLink RX2 96 "ParcelChutesModel" "widest" "I") (by decide +kernel)
  have hl := lv_entry ([.ref (e_a E (26)), .int (v)]) (n := 2) (Nat.le_of_ble_eq_true rfl)
  rw [lg_entry_eq]
  generalize (lg_sl ([.ref (e_a E (26)), .int (v)]) ++ List.replicate (2 - (lg_sl ([.ref (e_a E (26)), .int (v)])).length) Slot.unset).toArray = ls at hl ⊢
  have hl : lv_has ls 2 [(0, .ref (e_a E (26))), (1, .int (v))] := hl
  refine lv_aload_n hx hb dX2_gauge_0 rfl (lv_at hl 0 rfl) ?_
  refine lv_iload_n hx hb dX2_gauge_1 rfl (lv_at hl 1 rfl) ?_
  refine cut_w (ls := ls) (E := E) (o := o) (σ := σ) (pcj := 15) (rest := [.ref (e_a E (26))]) (P := fun vv : Int32 => vv = tV v) ?_ (fun J15 => ?_)
  · intro v1 H locs ev1 hP hS
    subst ev1
    refine q_put (C := RX2) (T := TX2) (N := 20) (ci := 2) (ty := .int) (v := tV v) hx hb hts hinX2 tyX2 tyX2_ok nmX2 hown hok hK hP hS at_26 (by decide) rfl 0 (by decide) hf38 rfl (tyX2_ok 0 (by decide)) rfl rfl (Nat.le_of_ble_eq_true rfl) rfl dX2_gauge_15 (fun H locs hP hS => ?_)
    refine lv_iload_n hx hb dX2_gauge_18 rfl (lv_at hl 1 rfl) ?_
    by_cases k19_0 : v = 0
    · skip
      refine lv_tableIn (off := 45) (tgt := 64) hx hb dX2_gauge_19 (by rw [k19_0]; decide) (by rw [k19_0]; decide) (by rw [k19_0]; rfl) (by decide) ?_
      refine lv_aload_n hx hb dX2_gauge_64 rfl (lv_at hl 0 rfl) ?_
      refine q_get (C := RX2) (T := TX2) (N := 20) (ci := 2) (v := .int (σ (26) 11)) hx hb hts hinX2 hown hK hP at_26 rfl 11 (by decide) hf90 rfl dX2_gauge_65 ?_
      exact r_i hx hb hr hlocks hP hS dX2_gauge_68 ⟨by simp [gqM, k19_0], rfl⟩
    by_cases k19_1 : v = 1
    · skip
      refine lv_tableIn (off := 50) (tgt := 69) hx hb dX2_gauge_19 (by rw [k19_1]; decide) (by rw [k19_1]; decide) (by rw [k19_1]; rfl) (by decide) ?_
      refine lv_aload_n hx hb dX2_gauge_69 rfl (lv_at hl 0 rfl) ?_
      refine q_get (C := RX2) (T := TX2) (N := 20) (ci := 2) (v := .int (σ (26) 12)) hx hb hts hinX2 hown hK hP at_26 rfl 12 (by decide) hf93 rfl dX2_gauge_70 ?_
      exact r_i hx hb hr hlocks hP hS dX2_gauge_73 ⟨by simp [gqM, k19_0, k19_1], rfl⟩
    by_cases k19_2 : v = 2
    · skip
      refine lv_tableIn (off := 55) (tgt := 74) hx hb dX2_gauge_19 (by rw [k19_2]; decide) (by rw [k19_2]; decide) (by rw [k19_2]; rfl) (by decide) ?_
      refine lv_aload_n hx hb dX2_gauge_74 rfl (lv_at hl 0 rfl) ?_
      refine q_get (C := RX2) (T := TX2) (N := 20) (ci := 2) (v := .int (σ (26) 13)) hx hb hts hinX2 hown hK hP at_26 rfl 13 (by decide) hf96 rfl dX2_gauge_75 ?_
      exact r_i hx hb hr hlocks hP hS dX2_gauge_78 ⟨by simp [gqM, k19_0, k19_1, k19_2], rfl⟩
    by_cases k19_3 : v = 3
    · skip
      refine lv_tableIn (off := 60) (tgt := 79) hx hb dX2_gauge_19 (by rw [k19_3]; decide) (by rw [k19_3]; decide) (by rw [k19_3]; rfl) (by decide) ?_
      refine lv_aload_n hx hb dX2_gauge_79 rfl (lv_at hl 0 rfl) ?_
      refine q_get (C := RX2) (T := TX2) (N := 20) (ci := 2) (v := .int (σ (26) 14)) hx hb hts hinX2 hown hK hP at_26 rfl 14 (by decide) hf87 rfl dX2_gauge_80 ?_
      exact r_i hx hb hr hlocks hP hS dX2_gauge_83 ⟨by simp [gqM, k19_0, k19_1, k19_2, k19_3], rfl⟩
    by_cases k19_4 : v = 4
    · skip
      refine lv_tableIn (off := 65) (tgt := 84) hx hb dX2_gauge_19 (by rw [k19_4]; decide) (by rw [k19_4]; decide) (by rw [k19_4]; rfl) (by decide) ?_
      refine lv_aload_n hx hb dX2_gauge_84 rfl (lv_at hl 0 rfl) ?_
      refine q_get (C := RX2) (T := TX2) (N := 20) (ci := 2) (v := .int (σ (26) 16)) hx hb hts hinX2 hown hK hP at_26 rfl 16 (by decide) hf81 rfl dX2_gauge_85 ?_
      exact r_i hx hb hr hlocks hP hS dX2_gauge_88 ⟨by simp [gqM, k19_0, k19_1, k19_2, k19_3, k19_4], rfl⟩
    by_cases k19_5 : v = 5
    · skip
      refine lv_tableIn (off := 70) (tgt := 89) hx hb dX2_gauge_19 (by rw [k19_5]; decide) (by rw [k19_5]; decide) (by rw [k19_5]; rfl) (by decide) ?_
      refine lv_aload_n hx hb dX2_gauge_89 rfl (lv_at hl 0 rfl) ?_
      refine q_get (C := RX2) (T := TX2) (N := 20) (ci := 2) (v := .int (σ (26) 17)) hx hb hts hinX2 hown hK hP at_26 rfl 17 (by decide) hf65 rfl dX2_gauge_90 ?_
      exact r_i hx hb hr hlocks hP hS dX2_gauge_93 ⟨by simp [gqM, k19_0, k19_1, k19_2, k19_3, k19_4, k19_5], rfl⟩
    by_cases k19_6 : v = 6
    · skip
      refine lv_tableIn (off := 75) (tgt := 94) hx hb dX2_gauge_19 (by rw [k19_6]; decide) (by rw [k19_6]; decide) (by rw [k19_6]; rfl) (by decide) ?_
      refine lv_aload_n hx hb dX2_gauge_94 rfl (lv_at hl 0 rfl) ?_
      refine q_get (C := RX2) (T := TX2) (N := 20) (ci := 2) (v := .int (σ (26) 18)) hx hb hts hinX2 hown hK hP at_26 rfl 18 (by decide) hf68 rfl dX2_gauge_95 ?_
      exact r_i hx hb hr hlocks hP hS dX2_gauge_98 ⟨by simp [gqM, k19_0, k19_1, k19_2, k19_3, k19_4, k19_5, k19_6], rfl⟩
    by_cases k19_7 : v = 7
    · skip
      refine lv_tableIn (off := 80) (tgt := 99) hx hb dX2_gauge_19 (by rw [k19_7]; decide) (by rw [k19_7]; decide) (by rw [k19_7]; rfl) (by decide) ?_
      refine lv_aload_n hx hb dX2_gauge_99 rfl (lv_at hl 0 rfl) ?_
      refine q_get (C := RX2) (T := TX2) (N := 20) (ci := 2) (v := .int (σ (26) 19)) hx hb hts hinX2 hown hK hP at_26 rfl 19 (by decide) hf71 rfl dX2_gauge_100 ?_
      exact r_i hx hb hr hlocks hP hS dX2_gauge_103 ⟨by simp [gqM, k19_0, k19_1, k19_2, k19_3, k19_4, k19_5, k19_6, k19_7], rfl⟩
    refine lv_tableOut (tgt := 104) hx hb dX2_gauge_19 (tb_out7 _ k19_0 k19_1 k19_2 k19_3 k19_4 k19_5 k19_6 k19_7) (by decide) ?_
    refine lv_iconst (v := 0) hx hb dX2_gauge_104 (by decide) ?_
    exact r_i hx hb hr hlocks hP hS dX2_gauge_105 ⟨by simp [gqM, k19_0, k19_1, k19_2, k19_3, k19_4, k19_5, k19_6, k19_7], rfl⟩
  refine lv_bipush (v := 7) hx hb dX2_gauge_2 (by decide) ?_
  refine k_Si (As := [.int (v), .int (7)]) (rest := [.ref (e_a E (26))]) ⟨hx, hb, hml, hown, hts⟩ (mtX2_isWithin l v 7) (va_cwS 2 hts gX2_gauge_X2_isWithin rfl rfl rfl (by decide +kernel) ⟨Nat.le_of_ble_eq_true rfl, Nat.le_of_ble_eq_true rfl⟩) rfl hl.1 rfl (Nat.le_of_ble_eq_true rfl) dX2_gauge_4 ⟨Nat.le_of_ble_eq_true rfl, Nat.le_of_ble_eq_true rfl⟩ (fun r2 er2 => ?_)
  subst er2
  refine lv_if_eq (tgt := 14) hx hb dX2_gauge_7 (by decide) (fun c7 => ?_) (fun c7 => ?_)
  · skip
    refine lv_iconst (v := 1) hx hb dX2_gauge_14 (by decide) ?_
    exact J15 _ _ _ (by simp [tV, c7]) hP hS
  · skip
    refine lv_iconst (v := 0) hx hb dX2_gauge_10 (by decide) ?_
    refine lv_goto (tgt := 15) hx hb dX2_gauge_11 (by decide) ?_
    exact J15 _ _ _ (by simp [tV, c7]) hP hS

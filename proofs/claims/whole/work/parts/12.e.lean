set_option maxHeartbeats 4000000 in
set_option maxRecDepth 100000 in
/-- send -/
theorem mtX2_send (l : Launch) (E : Ev) (hok : e_ok E) (σ : Mem) (o : Nat → Int64) (w g : Int32) (hF : ∀ k, k < 8 → ¬ 12 ≤ nI (ct (fHome (σ 27) (nI k)) 96) → ∃ f : Nat, f < 96 ∧ σ 27 f = -1 ∧ ∀ a, a < f → σ 27 a ≠ -1) : Met l yX2_send wsX2_send ({ frames := 3, cells := 0, slots := 0, locals := 66 } : Room) (PW E σ o [.ref (e_a E (26)), .int (w), .int (g)]) (va_Qi (fun (r : Int32) (σ' : Mem) => (tP w g ≠ 0 ∧ r = 0 ∧ σ' = m_up σ 26 0 (tP w g)) ∨ (tP w g = 0 ∧ ((∃ i : Nat, i < 8 ∧ r = nI i ∧ takM σ w g i ∧ (∀ a, a < i → ¬ takM σ w g a) ∧ ∃ f : Nat, f < 96 ∧ σ 27 f = -1 ∧ σ' = m_put (gM (m_up σ 26 0 0) w g) f w g (nI i)) ∨ (r = -1 ∧ (∀ a, a < 8 → ¬ takM σ w g a) ∧ σ' = asM (gM (m_up σ 26 0 0) w g) w g)))) (BW E o) (LB (e_B E))) 0 0 (LB (e_B E)) := by
  refine Met.ofW (cc := cX2_send) (maxL := 4) (ret := (some .int)) (by decide) rfl ?_
  intro p e s m args below meth c s₁ B hml hv
  obtain ⟨rfl, hP, hK⟩ := hv
  have hx := B.exec
  have hb := B.bytes
  have hr := B.returns
  have hts := atoms_spec (ws := wsX2_send) B.pre
  have hown : s.vm.findClass RX2 = some m.cls := findClass_of_methodNamed B.named
  have hlocks := B.notSynchronized
  have hS : va_S (LB (e_B E)) s.heap s.heap [] := va_S.rf
  have hinX2 : ∀ w ∈ wsX20, w ∈ wsX2_send := fun w h => by simp only [wsX2_send, List.mem_cons, List.mem_append, h, or_true, true_or]
  have hf34 := hts (.fieldLink RX2 34 "ParcelChutesModel" "closed" "[Z") (by decide +kernel)
  have hf38 := hts (.fieldLink RX2 38 "ParcelChutesModel" "thrown" "I") (by decide +kernel)
  have hl := lv_entry ([.ref (e_a E (26)), .int (w), .int (g)]) (n := 4) (Nat.le_of_ble_eq_true rfl)
  rw [lg_entry_eq]
  generalize (lg_sl ([.ref (e_a E (26)), .int (w), .int (g)]) ++ List.replicate (4 - (lg_sl ([.ref (e_a E (26)), .int (w), .int (g)])).length) Slot.unset).toArray = ls at hl ⊢
  have hl : lv_has ls 4 [(0, .ref (e_a E (26))), (1, .int (w)), (2, .int (g))] := hl
  refine lv_aload_n hx hb dX2_send_0 rfl (lv_at hl 0 rfl) ?_
  refine lv_iload_n hx hb dX2_send_1 rfl (lv_at hl 1 rfl) ?_
  refine lv_iload_n hx hb dX2_send_2 rfl (lv_at hl 2 rfl) ?_
  refine cut_w (ls := ls) (E := E) (o := o) (σ := σ) (pcj := 14) (rest := [.ref (e_a E (26))]) (P := fun vv : Int32 => vv = tP w g) ?_ (fun J14 => ?_)
  · intro v1 H locs ev1 hP hS
    subst ev1
    refine q_put (C := RX2) (T := TX2) (N := 20) (ci := 2) (ty := .int) (v := tP w g) hx hb hts hinX2 tyX2 tyX2_ok nmX2 hown hok hK hP hS at_26 (by decide) rfl 0 (by decide) hf38 rfl (tyX2_ok 0 (by decide)) rfl rfl (Nat.le_of_ble_eq_true rfl) rfl dX2_send_14 (fun H locs hP hS => ?_)
    refine lv_aload_n hx hb dX2_send_17 rfl (lv_at hl 0 rfl) ?_
    refine q_get (C := RX2) (T := TX2) (N := 20) (ci := 2) (v := .int (tP w g)) hx hb hts hinX2 hown hK hP at_26 rfl 0 (by decide) hf38 rfl dX2_send_18 ?_
    refine lv_if_eq (tgt := 26) hx hb dX2_send_21 (by decide) (fun c21 => ?_) (fun c21 => ?_)
    · skip
      rw [c21] at hP
      refine lv_aload_n hx hb dX2_send_26 rfl (lv_at hl 0 rfl) ?_
      refine lv_iload_n hx hb dX2_send_27 rfl (lv_at hl 1 rfl) ?_
      refine lv_iload_n hx hb dX2_send_28 rfl (lv_at hl 2 rfl) ?_
      refine k_Vv (As := [.int (w), .int (g)]) (rest := []) ⟨hx, hb, hml, hown, hts⟩ (mtX2_gaugeAll l E hok (m_up σ 26 0 0) o w g) (cwV 2 hts gX2_send_X2_gaugeAll rfl rfl rfl (by decide +kernel) ⟨Nat.le_of_ble_eq_true rfl, Nat.le_of_ble_eq_true rfl⟩) (va_recv hK.K hP (ci := 2) (q0 := 26) rfl at_26) hK hP hS rfl hl.1 rfl (Nat.le_of_ble_eq_true rfl) dX2_send_29 ⟨Nat.le_of_ble_eq_true rfl, Nat.le_of_ble_eq_true rfl⟩ (fun σ_2 H locs hσ_2 hP hS => ?_)
      subst hσ_2
      refine lv_iconst (v := 0) hx hb dX2_send_32 (by decide) ?_
      refine lv_istore_n (lv' := [(3, .int (0)), (0, .ref (e_a E (26))), (1, .int (w)), (2, .int (g))]) hx hb dX2_send_33 rfl hl (by decide) rfl (fun ls hl => ?_)
      refine w_loop (E := E) (o := o) (ι := Nat) (μ := fun i => 8 - i) (I := fun i => i ≤ 8 ∧ ∀ a, a < i → ¬ takM σ w g a) (mem := fun i => gM (m_up σ 26 0 0) w g) (lv := fun i => [(3, .int (nI (i))), (0, .ref (e_a E (26))), (1, .int (w)), (2, .int (g))]) (nL := 4) (pch := 34) ?_ (0) (show (0) ≤ 8 ∧ ∀ a, a < (0) → ¬ takM σ w g a from ⟨Nat.zero_le _, fun a h => absurd h (Nat.not_lt_zero a)⟩) hP hS (lv_sub hl [0, 1, 2, 3] rfl)
      rintro i hI IH H locs ls hP hS hl
      have hP : va_P (e_D E) vwCl (wd E (gM (m_up σ 26 0 0) w g) o) H := hP
      have hl : lv_has ls 4 [(3, .int (nI (i))), (0, .ref (e_a E (26))), (1, .int (w)), (2, .int (g))] := hl
      have hI : i ≤ 8 ∧ ∀ a, a < i → ¬ takM σ w g a := hI
      refine lv_iload_n hx hb dX2_send_34 rfl (lv_at hl 0 rfl) ?_
      refine lv_bipush (v := 8) hx hb dX2_send_35 (by decide) ?_
      refine nb_ge (i := i) (j := 8) hx hb rfl rfl (by omega) (by omega) dX2_send_37 (tgt := 84) (by decide) (fun c37 => ?_) (fun c37 => ?_)
      · skip
        refine lv_aload_n hx hb dX2_send_84 rfl (lv_at hl 1 rfl) ?_
        refine lv_iload_n hx hb dX2_send_85 rfl (lv_at hl 2 rfl) ?_
        refine lv_iload_n hx hb dX2_send_86 rfl (lv_at hl 3 rfl) ?_
        refine k_Vv (As := [.int (w), .int (g)]) (rest := []) ⟨hx, hb, hml, hown, hts⟩ (mtX2_putAside l E hok (gM (m_up σ 26 0 0) w g) o w g) (cwV 2 hts gX2_send_X2_putAside rfl rfl rfl (by decide +kernel) ⟨Nat.le_of_ble_eq_true rfl, Nat.le_of_ble_eq_true rfl⟩) (va_recv hK.K hP (ci := 2) (q0 := 26) rfl at_26) hK hP hS rfl hl.1 rfl (Nat.le_of_ble_eq_true rfl) dX2_send_87 ⟨Nat.le_of_ble_eq_true rfl, Nat.le_of_ble_eq_true rfl⟩ (fun σ_3 H locs hσ_3 hP hS => ?_)
        subst hσ_3
        refine lv_iconst (v := (-1)) hx hb dX2_send_90 (by decide) ?_
        exact r_i hx hb hr hlocks hP hS dX2_send_91 (Or.inr ⟨c21, Or.inr ⟨rfl, fun a h => hI.2 a (by omega), rfl⟩⟩)
      · skip
        refine lv_aload_n hx hb dX2_send_40 rfl (lv_at hl 1 rfl) ?_
        refine q_get (C := RX2) (T := TX2) (N := 20) (ci := 2) (v := .ref (e_a E (35))) hx hb hts hinX2 hown hK hP at_26 rfl 10 (by decide) hf34 rfl dX2_send_41 ?_
        refine lv_iload_n hx hb dX2_send_44 rfl (lv_at hl 0 rfl) ?_
        refine q_zldv hx hb hK hP (i := i) rfl (by omega) dX2_send_45 (v := σ (35) (i)) rfl ?_
        refine lv_if_ne (tgt := 78) hx hb dX2_send_46 (by decide) (fun c46 => ?_) (fun c46 => ?_)
        · skip
          refine lv_iinc (v := nI (i + 1)) (lv' := [(3, .int (nI (i + 1))), (0, .ref (e_a E (26))), (1, .int (w)), (2, .int (g))]) hx hb dX2_send_78 hl (k := 0) rfl (by exact nI_add (i) 1) (by decide) rfl (fun ls hl => ?_)
          refine lv_goto (tgt := 34) hx hb dX2_send_81 (by decide) ?_
          exact IH (i + 1) (show (i + 1) ≤ 8 ∧ ∀ a, a < (i + 1) → ¬ takM σ w g a from ⟨by omega, lt_s hI.2 (fun z => c46 z.1)⟩) (by (try dsimp only); omega) _ _ _ hP hS (lv_sub hl [0, 1, 2, 3] rfl)
        · skip
          refine lv_aload_n hx hb dX2_send_49 rfl (lv_at hl 1 rfl) ?_
          refine lv_iload_n hx hb dX2_send_50 rfl (lv_at hl 0 rfl) ?_
          refine k_Vi (As := [.int (nI (i))]) (rest := []) ⟨hx, hb, hml, hown, hts⟩ (mtX2_many l E hok (gM (m_up σ 26 0 0) w g) o (nI (i))) (cwV 1 hts gX2_send_X2_many rfl rfl rfl (by decide +kernel) ⟨Nat.le_of_ble_eq_true rfl, Nat.le_of_ble_eq_true rfl⟩) (va_recv hK.K hP (ci := 2) (q0 := 26) rfl at_26) hK hP hS rfl hl.1 rfl (Nat.le_of_ble_eq_true rfl) dX2_send_51 ⟨Nat.le_of_ble_eq_true rfl, Nat.le_of_ble_eq_true rfl⟩ (fun r4 σ_5 H locs hr4 hP hS => ?_)
          obtain ⟨zhr4, ehr4⟩ := hr4
          rw [ehr4] at hP
          have zhr4 : r4 = nI (ct (fHome (σ (27)) (nI (i))) 96) := zhr4
          subst zhr4
          refine lv_bipush (v := 12) hx hb dX2_send_54 (by decide) ?_
          refine lv_icmp_ge (tgt := 78) hx hb dX2_send_56 (by decide) (fun c56 => ?_) (fun c56 => ?_)
          · skip
            refine lv_iinc (v := nI (i + 1)) (lv' := [(3, .int (nI (i + 1))), (0, .ref (e_a E (26))), (1, .int (w)), (2, .int (g))]) hx hb dX2_send_78 hl (k := 0) rfl (by exact nI_add (i) 1) (by decide) rfl (fun ls hl => ?_)
            refine lv_goto (tgt := 34) hx hb dX2_send_81 (by decide) ?_
            exact IH (i + 1) (show (i + 1) ≤ 8 ∧ ∀ a, a < (i + 1) → ¬ takM σ w g a from ⟨by omega, lt_s hI.2 (fun z => z.2.1 c56)⟩) (by (try dsimp only); omega) _ _ _ hP hS (lv_sub hl [0, 1, 2, 3] rfl)
          · skip
            refine lv_aload_n hx hb dX2_send_59 rfl (lv_at hl 1 rfl) ?_
            refine lv_iload_n hx hb dX2_send_60 rfl (lv_at hl 2 rfl) ?_
            refine lv_iload_n hx hb dX2_send_61 rfl (lv_at hl 3 rfl) ?_
            refine lv_iload_n hx hb dX2_send_62 rfl (lv_at hl 0 rfl) ?_
            refine k_Vi (As := [.int (w), .int (g), .int (nI (i))]) (rest := []) ⟨hx, hb, hml, hown, hts⟩ (mtX2_fitsChute l E hok (gM (m_up σ 26 0 0) w g) o w g i (by omega)) (cwV 3 hts gX2_send_X2_fitsChute rfl rfl rfl (by decide +kernel) ⟨Nat.le_of_ble_eq_true rfl, Nat.le_of_ble_eq_true rfl⟩) (va_recv hK.K hP (ci := 2) (q0 := 26) rfl at_26) hK hP hS rfl hl.1 rfl (Nat.le_of_ble_eq_true rfl) dX2_send_63 ⟨Nat.le_of_ble_eq_true rfl, Nat.le_of_ble_eq_true rfl⟩ (fun r6 σ_7 H locs hr6 hP hS => ?_)
            obtain ⟨zhr6, ehr6⟩ := hr6
            rw [ehr6] at hP
            have zhr6 : r6 = fitM (σ (31) (i)) (σ (32) (i)) (σ (33) (i)) (σ (34) (i)) w g := zhr6
            subst zhr6
            refine lv_if_eq (tgt := 78) hx hb dX2_send_66 (by decide) (fun c66 => ?_) (fun c66 => ?_)
            · skip
              refine lv_iinc (v := nI (i + 1)) (lv' := [(3, .int (nI (i + 1))), (0, .ref (e_a E (26))), (1, .int (w)), (2, .int (g))]) hx hb dX2_send_78 hl (k := 0) rfl (by exact nI_add (i) 1) (by decide) rfl (fun ls hl => ?_)
              refine lv_goto (tgt := 34) hx hb dX2_send_81 (by decide) ?_
              exact IH (i + 1) (show (i + 1) ≤ 8 ∧ ∀ a, a < (i + 1) → ¬ takM σ w g a from ⟨by omega, lt_s hI.2 (fun z => z.2.2 c66)⟩) (by (try dsimp only); omega) _ _ _ hP hS (lv_sub hl [0, 1, 2, 3] rfl)
            · skip
              obtain ⟨f, hf, hfe, hmin⟩ := hF i (by omega) c56
              refine lv_aload_n hx hb dX2_send_69 rfl (lv_at hl 1 rfl) ?_
              refine lv_iload_n hx hb dX2_send_70 rfl (lv_at hl 2 rfl) ?_
              refine lv_iload_n hx hb dX2_send_71 rfl (lv_at hl 3 rfl) ?_
              refine lv_iload_n hx hb dX2_send_72 rfl (lv_at hl 0 rfl) ?_
              refine k_Vv (As := [.int (w), .int (g), .int (nI (i))]) (rest := []) ⟨hx, hb, hml, hown, hts⟩ (mtX2_putIn l E hok (gM (m_up σ 26 0 0) w g) o w g (nI (i)) f hf hfe hmin) (cwV 3 hts gX2_send_X2_putIn rfl rfl rfl (by decide +kernel) ⟨Nat.le_of_ble_eq_true rfl, Nat.le_of_ble_eq_true rfl⟩) (va_recv hK.K hP (ci := 2) (q0 := 26) rfl at_26) hK hP hS rfl hl.1 rfl (Nat.le_of_ble_eq_true rfl) dX2_send_73 ⟨Nat.le_of_ble_eq_true rfl, Nat.le_of_ble_eq_true rfl⟩ (fun σ_8 H locs hσ_8 hP hS => ?_)
              subst hσ_8
              refine lv_iload_n hx hb dX2_send_76 rfl (lv_at hl 0 rfl) ?_
              exact r_i hx hb hr hlocks hP hS dX2_send_77 (Or.inr ⟨c21, Or.inl ⟨i, by omega, rfl, ⟨c46, c56, c66⟩, hI.2, f, hf, hfe, rfl⟩⟩)
    · skip
      refine lv_iconst (v := 0) hx hb dX2_send_24 (by decide) ?_
      exact r_i hx hb hr hlocks hP hS dX2_send_25 (Or.inl ⟨c21, rfl, rfl⟩)
  refine k_Si (As := [.int (w), .int (g)]) (rest := [.ref (e_a E (26))]) ⟨hx, hb, hml, hown, hts⟩ (mtX2_isParcel l w g) (va_cwS 2 hts gX2_send_X2_isParcel rfl rfl rfl (by decide +kernel) ⟨Nat.le_of_ble_eq_true rfl, Nat.le_of_ble_eq_true rfl⟩) rfl hl.1 rfl (Nat.le_of_ble_eq_true rfl) dX2_send_3 ⟨Nat.le_of_ble_eq_true rfl, Nat.le_of_ble_eq_true rfl⟩ (fun r9 er9 => ?_)
  subst er9
  refine lv_if_eq (tgt := 13) hx hb dX2_send_6 (by decide) (fun c6 => ?_) (fun c6 => ?_)
  · skip
    refine lv_iconst (v := 1) hx hb dX2_send_13 (by decide) ?_
    exact J14 _ _ _ (by simp [tP, c6]) hP hS
  · skip
    refine lv_iconst (v := 0) hx hb dX2_send_9 (by decide) ?_
    refine lv_goto (tgt := 14) hx hb dX2_send_10 (by decide) ?_
    exact J14 _ _ _ (by simp [tP, c6]) hP hS
set_option maxHeartbeats 4000000 in
set_option maxRecDepth 100000 in
/-- fits -/
theorem mtX2_fits (l : Launch) (E : Ev) (hok : e_ok E) (σ : Mem) (o : Nat → Int64) (w g : Int32) : Met l yX2_fits wsX2_fits ({ frames := 3, cells := 0, slots := 0, locals := 66 } : Room) (PW E σ o [.ref (e_a E (26)), .int (w), .int (g)]) (va_Qi (fun (r : Int32) (σ' : Mem) => r = (if tP w g = 0 then ftM σ w g 8 else 0) ∧ σ' = m_up σ 26 0 (tP w g)) (BW E o) (LB (e_B E))) 0 0 (LB (e_B E)) := by
  refine Met.ofW (cc := cX2_fits) (maxL := 5) (ret := (some .int)) (by decide) rfl ?_
  intro p e s m args below meth c s₁ B hml hv
  obtain ⟨rfl, hP, hK⟩ := hv
  have hx := B.exec
  have hb := B.bytes
  have hr := B.returns
  have hts := atoms_spec (ws := wsX2_fits) B.pre
  have hown : s.vm.findClass RX2 = some m.cls := findClass_of_methodNamed B.named
  have hlocks := B.notSynchronized
  have hS : va_S (LB (e_B E)) s.heap s.heap [] := va_S.rf
  have hinX2 : ∀ w ∈ wsX20, w ∈ wsX2_fits := fun w h => by simp only [wsX2_fits, List.mem_cons, List.mem_append, h, or_true, true_or]
  have hf38 := hts (.fieldLink RX2 38 "ParcelChutesModel" "thrown" "I") (by decide +kernel)
  have hl := lv_entry ([.ref (e_a E (26)), .int (w), .int (g)]) (n := 5) (Nat.le_of_ble_eq_true rfl)
  rw [lg_entry_eq]
  generalize (lg_sl ([.ref (e_a E (26)), .int (w), .int (g)]) ++ List.replicate (5 - (lg_sl ([.ref (e_a E (26)), .int (w), .int (g)])).length) Slot.unset).toArray = ls at hl ⊢
  have hl : lv_has ls 5 [(0, .ref (e_a E (26))), (1, .int (w)), (2, .int (g))] := hl
  refine lv_aload_n hx hb dX2_fits_0 rfl (lv_at hl 0 rfl) ?_
  refine lv_iload_n hx hb dX2_fits_1 rfl (lv_at hl 1 rfl) ?_
  refine lv_iload_n hx hb dX2_fits_2 rfl (lv_at hl 2 rfl) ?_
  refine cut_w (ls := ls) (E := E) (o := o) (σ := σ) (pcj := 14) (rest := [.ref (e_a E (26))]) (P := fun vv : Int32 => vv = tP w g) ?_ (fun J14 => ?_)
  · intro v1 H locs ev1 hP hS
    subst ev1
    refine q_put (C := RX2) (T := TX2) (N := 20) (ci := 2) (ty := .int) (v := tP w g) hx hb hts hinX2 tyX2 tyX2_ok nmX2 hown hok hK hP hS at_26 (by decide) rfl 0 (by decide) hf38 rfl (tyX2_ok 0 (by decide)) rfl rfl (Nat.le_of_ble_eq_true rfl) rfl dX2_fits_14 (fun H locs hP hS => ?_)
    refine lv_iconst (v := 0) hx hb dX2_fits_17 (by decide) ?_
    refine lv_istore_n (lv' := [(3, .int (0)), (0, .ref (e_a E (26))), (1, .int (w)), (2, .int (g))]) hx hb dX2_fits_18 rfl hl (by decide) rfl (fun ls hl => ?_)
    refine lv_iconst (v := 0) hx hb dX2_fits_19 (by decide) ?_
    refine lv_istore (lv' := [(4, .int (0)), (3, .int (0)), (0, .ref (e_a E (26))), (1, .int (w)), (2, .int (g))]) hx hb dX2_fits_20 hl (by decide) rfl (fun ls hl => ?_)
    refine w_loop (E := E) (o := o) (ι := Nat × Int32) (μ := fun (i, y) => 8 - i) (I := fun (i, y) => i ≤ 8 ∧ y = ftM σ w g i ∧ (¬ tP w g = 0 → i = 0)) (mem := fun (i, y) => m_up σ 26 0 (tP w g)) (lv := fun (i, y) => [(4, .int (nI (i))), (3, .int (y)), (0, .ref (e_a E (26))), (1, .int (w)), (2, .int (g))]) (nL := 5) (pch := 22) ?_ ((0), (0)) (show (0) ≤ 8 ∧ (0) = ftM σ w g (0) ∧ (¬ tP w g = 0 → (0) = 0) from ⟨Nat.zero_le _, rfl, fun _ => rfl⟩) hP hS (lv_sub hl [0, 1, 2, 3, 4] rfl)
    rintro ⟨i, y⟩ hI IH H locs ls hP hS hl
    have hP : va_P (e_D E) vwCl (wd E (m_up σ 26 0 (tP w g)) o) H := hP
    have hl : lv_has ls 5 [(4, .int (nI (i))), (3, .int (y)), (0, .ref (e_a E (26))), (1, .int (w)), (2, .int (g))] := hl
    have hI : i ≤ 8 ∧ y = ftM σ w g i ∧ (¬ tP w g = 0 → i = 0) := hI
    refine lv_iload hx hb dX2_fits_22 (lv_at hl 0 rfl) ?_
    refine lv_bipush (v := 8) hx hb dX2_fits_24 (by decide) ?_
    refine nb_ge (i := i) (j := 8) hx hb rfl rfl (by omega) (by omega) dX2_fits_26 (tgt := 64) (by decide) (fun c26 => ?_) (fun c26 => ?_)
    · skip
      refine lv_iload_n hx hb dX2_fits_64 rfl (lv_at hl 1 rfl) ?_
      exact r_i hx hb hr hlocks hP hS dX2_fits_65 ⟨by
      by_cases ht : tP w g = 0
      · rw [if_pos ht, hI.2.1, show i = 8 by omega]
      · exact absurd (hI.2.2 ht) (by omega), rfl⟩
    · skip
      refine lv_aload_n hx hb dX2_fits_29 rfl (lv_at hl 2 rfl) ?_
      refine q_get (C := RX2) (T := TX2) (N := 20) (ci := 2) (v := .int (tP w g)) hx hb hts hinX2 hown hK hP at_26 rfl 0 (by decide) hf38 rfl dX2_fits_30 ?_
      refine lv_if_ne (tgt := 64) hx hb dX2_fits_33 (by decide) (fun c33 => ?_) (fun c33 => ?_)
      · skip
        refine lv_iload_n hx hb dX2_fits_64 rfl (lv_at hl 1 rfl) ?_
        exact r_i hx hb hr hlocks hP hS dX2_fits_65 ⟨by rw [if_neg c33, hI.2.1, hI.2.2 c33]; rfl, rfl⟩
      · skip
        refine lv_iload_n hx hb dX2_fits_36 rfl (lv_at hl 1 rfl) ?_
        refine lv_aload_n hx hb dX2_fits_37 rfl (lv_at hl 2 rfl) ?_
        refine lv_iload_n hx hb dX2_fits_38 rfl (lv_at hl 3 rfl) ?_
        refine lv_iload_n hx hb dX2_fits_39 rfl (lv_at hl 4 rfl) ?_
        refine lv_iload hx hb dX2_fits_40 (lv_at hl 0 rfl) ?_
        refine k_Vi (As := [.int (w), .int (g), .int (nI (i))]) (rest := [.int (y)]) ⟨hx, hb, hml, hown, hts⟩ (mtX2_fitsChute l E hok (m_up σ 26 0 (tP w g)) o w g i (by omega)) (cwV 3 hts gX2_fits_X2_fitsChute rfl rfl rfl (by decide +kernel) ⟨Nat.le_of_ble_eq_true rfl, Nat.le_of_ble_eq_true rfl⟩) (va_recv hK.K hP (ci := 2) (q0 := 26) rfl at_26) hK hP hS rfl hl.1 rfl (Nat.le_of_ble_eq_true rfl) dX2_fits_42 ⟨Nat.le_of_ble_eq_true rfl, Nat.le_of_ble_eq_true rfl⟩ (fun r2 σ_3 H locs hr2 hP hS => ?_)
        obtain ⟨zhr2, ehr2⟩ := hr2
        rw [ehr2] at hP
        have zhr2 : r2 = fitM (σ (31) (i)) (σ (32) (i)) (σ (33) (i)) (σ (34) (i)) w g := zhr2
        subst zhr2
        refine lv_if_eq (tgt := 55) hx hb dX2_fits_45 (by decide) (fun c45 => ?_) (fun c45 => ?_)
        · skip
          refine lv_iconst (v := 0) hx hb dX2_fits_55 (by decide) ?_
          refine lv_ior hx hb dX2_fits_56 ?_
          refine lv_istore_n (lv' := [(3, .int (y ||| 0)), (4, .int (nI (i))), (0, .ref (e_a E (26))), (1, .int (w)), (2, .int (g))]) hx hb dX2_fits_57 rfl hl (by decide) rfl (fun ls hl => ?_)
          refine lv_iinc (v := nI (i + 1)) (lv' := [(4, .int (nI (i + 1))), (3, .int (y ||| 0)), (0, .ref (e_a E (26))), (1, .int (w)), (2, .int (g))]) hx hb dX2_fits_58 hl (k := 1) rfl (by exact nI_add (i) 1) (by decide) rfl (fun ls hl => ?_)
          refine lv_goto (tgt := 22) hx hb dX2_fits_61 (by decide) ?_
          exact IH ((i + 1), (y ||| 0)) (show (i + 1) ≤ 8 ∧ (y ||| 0) = ftM σ w g (i + 1) ∧ (¬ tP w g = 0 → (i + 1) = 0) from ⟨by omega, by rw [hI.2.1]; simp only [ftM, if_pos c45], fun z => absurd c33 z⟩) (by (try dsimp only); omega) _ _ _ hP hS (lv_sub hl [0, 1, 2, 3, 4] rfl)
        · skip
          refine lv_iconst (v := 1) hx hb dX2_fits_48 (by decide) ?_
          refine lv_iload hx hb dX2_fits_49 (lv_at hl 0 rfl) ?_
          refine lv_ishl hx hb dX2_fits_51 ?_
          refine lv_goto (tgt := 56) hx hb dX2_fits_52 (by decide) ?_
          refine lv_ior hx hb dX2_fits_56 ?_
          refine lv_istore_n (lv' := [(3, .int (y ||| (1 <<< ((nI (i)) &&& 31)))), (4, .int (nI (i))), (0, .ref (e_a E (26))), (1, .int (w)), (2, .int (g))]) hx hb dX2_fits_57 rfl hl (by decide) rfl (fun ls hl => ?_)
          refine lv_iinc (v := nI (i + 1)) (lv' := [(4, .int (nI (i + 1))), (3, .int (y ||| (1 <<< ((nI (i)) &&& 31)))), (0, .ref (e_a E (26))), (1, .int (w)), (2, .int (g))]) hx hb dX2_fits_58 hl (k := 1) rfl (by exact nI_add (i) 1) (by decide) rfl (fun ls hl => ?_)
          refine lv_goto (tgt := 22) hx hb dX2_fits_61 (by decide) ?_
          exact IH ((i + 1), (y ||| (1 <<< ((nI (i)) &&& 31)))) (show (i + 1) ≤ 8 ∧ (y ||| (1 <<< ((nI (i)) &&& 31))) = ftM σ w g (i + 1) ∧ (¬ tP w g = 0 → (i + 1) = 0) from ⟨by omega, by rw [hI.2.1]; simp only [ftM, if_neg c45], fun z => absurd c33 z⟩) (by (try dsimp only); omega) _ _ _ hP hS (lv_sub hl [0, 1, 2, 3, 4] rfl)
  refine k_Si (As := [.int (w), .int (g)]) (rest := [.ref (e_a E (26))]) ⟨hx, hb, hml, hown, hts⟩ (mtX2_isParcel l w g) (va_cwS 2 hts gX2_fits_X2_isParcel rfl rfl rfl (by decide +kernel) ⟨Nat.le_of_ble_eq_true rfl, Nat.le_of_ble_eq_true rfl⟩) rfl hl.1 rfl (Nat.le_of_ble_eq_true rfl) dX2_fits_3 ⟨Nat.le_of_ble_eq_true rfl, Nat.le_of_ble_eq_true rfl⟩ (fun r4 er4 => ?_)
  subst er4
  refine lv_if_eq (tgt := 13) hx hb dX2_fits_6 (by decide) (fun c6 => ?_) (fun c6 => ?_)
  · skip
    refine lv_iconst (v := 1) hx hb dX2_fits_13 (by decide) ?_
    exact J14 _ _ _ (by simp [tP, c6]) hP hS
  · skip
    refine lv_iconst (v := 0) hx hb dX2_fits_9 (by decide) ?_
    refine lv_goto (tgt := 14) hx hb dX2_fits_10 (by decide) ?_
    exact J14 _ _ _ (by simp [tP, c6]) hP hS
set_option maxHeartbeats 4000000 in
set_option maxRecDepth 100000 in
/-- askedFor -/
theorem mtX2_askedFor (l : Launch) (E : Ev) (hok : e_ok E) (σ : Mem) (o : Nat → Int64) (x v : Int32) : Met l yX2_askedFor wsX2_askedFor ({ frames := 3, cells := 0, slots := 0, locals := 69 } : Room) (PW E σ o [.ref (e_a E (26)), .int (x), .int (v)]) (va_Qi (fun (r : Int32) (σ' : Mem) => (iw x 7 = 0 ∧ r = -1 ∧ σ' = m_up σ 26 0 1) ∨ (¬ iw x 7 = 0 ∧ ∃ p : Nat, p < 96 ∧ r = nI p ∧ isAt σ x v p ∧ σ' = m_up σ 26 0 0) ∨ (¬ iw x 7 = 0 ∧ r = -1 ∧ (∀ a, a < 96 → ¬ isAt σ x v a) ∧ σ' = m_up σ 26 0 2)) (BW E o) (LB (e_B E))) 0 0 (LB (e_B E)) := by
  refine Met.ofW (cc := cX2_askedFor) (maxL := 4) (ret := (some .int)) (by decide) rfl ?_
  intro p e s m args below meth c s₁ B hml hv
  obtain ⟨rfl, hP, hK⟩ := hv
  have hx := B.exec
  have hb := B.bytes
  have hr := B.returns
  have hts := atoms_spec (ws := wsX2_askedFor) B.pre
  have hown : s.vm.findClass RX2 = some m.cls := findClass_of_methodNamed B.named
  have hlocks := B.notSynchronized
  have hS : va_S (LB (e_B E)) s.heap s.heap [] := va_S.rf
  have hinX2 : ∀ w ∈ wsX20, w ∈ wsX2_askedFor := fun w h => by simp only [wsX2_askedFor, List.mem_cons, List.mem_append, h, or_true, true_or]
  have hf38 := hts (.fieldLink RX2 38 "ParcelChutesModel" "thrown" "I") (by decide +kernel)
  have hl := lv_entry ([.ref (e_a E (26)), .int (x), .int (v)]) (n := 4) (Nat.le_of_ble_eq_true rfl)
  rw [lg_entry_eq]
  generalize (lg_sl ([.ref (e_a E (26)), .int (x), .int (v)]) ++ List.replicate (4 - (lg_sl ([.ref (e_a E (26)), .int (x), .int (v)])).length) Slot.unset).toArray = ls at hl ⊢
  have hl : lv_has ls 4 [(0, .ref (e_a E (26))), (1, .int (x)), (2, .int (v))] := hl
  by_cases hch : iw x 7 = 0
  · skip
    refine lv_iload_n hx hb dX2_askedFor_0 rfl (lv_at hl 1 rfl) ?_
    refine k_Si (As := [.int (x)]) (rest := []) ⟨hx, hb, hml, hown, hts⟩ (mtX2_isChute l x) (va_cwS 1 hts gX2_askedFor_X2_isChute rfl rfl rfl (by decide +kernel) ⟨Nat.le_of_ble_eq_true rfl, Nat.le_of_ble_eq_true rfl⟩) rfl hl.1 rfl (Nat.le_of_ble_eq_true rfl) dX2_askedFor_1 ⟨Nat.le_of_ble_eq_true rfl, Nat.le_of_ble_eq_true rfl⟩ (fun r1 er1 => ?_)
    subst er1
    refine lv_if_eq (tgt := 16) hx hb dX2_askedFor_4 (by decide) (fun c4 => ?_) (fun c4 => ?_)
    rotate_left
    · exact absurd c4 (fun z => z hch)
    refine lv_iconst (v := (-1)) hx hb dX2_askedFor_16 (by decide) ?_
    refine lv_istore_n (lv' := [(3, .int ((-1))), (0, .ref (e_a E (26))), (1, .int (x)), (2, .int (v))]) hx hb dX2_askedFor_17 rfl hl (by decide) rfl (fun ls hl => ?_)
    refine lv_aload_n hx hb dX2_askedFor_18 rfl (lv_at hl 1 rfl) ?_
    refine lv_iload_n hx hb dX2_askedFor_19 rfl (lv_at hl 2 rfl) ?_
    refine k_Si (As := [.int (x)]) (rest := [.ref (e_a E (26))]) ⟨hx, hb, hml, hown, hts⟩ (mtX2_isChute l x) (va_cwS 1 hts gX2_askedFor_X2_isChute rfl rfl rfl (by decide +kernel) ⟨Nat.le_of_ble_eq_true rfl, Nat.le_of_ble_eq_true rfl⟩) rfl hl.1 rfl (Nat.le_of_ble_eq_true rfl) dX2_askedFor_20 ⟨Nat.le_of_ble_eq_true rfl, Nat.le_of_ble_eq_true rfl⟩ (fun r2 er2 => ?_)
    subst er2
    refine lv_if_ne (tgt := 30) hx hb dX2_askedFor_23 (by decide) (fun c23 => ?_) (fun c23 => ?_)
    · exact absurd c23 (fun z => z hch)
    refine lv_iconst (v := 1) hx hb dX2_askedFor_26 (by decide) ?_
    refine lv_goto (tgt := 40) hx hb dX2_askedFor_27 (by decide) ?_
    refine q_put (C := RX2) (T := TX2) (N := 20) (ci := 2) (ty := .int) (v := 1) hx hb hts hinX2 tyX2 tyX2_ok nmX2 hown hok hK hP hS at_26 (by decide) rfl 0 (by decide) hf38 rfl (tyX2_ok 0 (by decide)) rfl rfl (Nat.le_of_ble_eq_true rfl) rfl dX2_askedFor_40 (fun H locs hP hS => ?_)
    refine lv_iload_n hx hb dX2_askedFor_43 rfl (lv_at hl 0 rfl) ?_
    exact r_i hx hb hr hlocks hP hS dX2_askedFor_44 (Or.inl ⟨hch, rfl, rfl⟩)
  · skip
    refine lv_iload_n hx hb dX2_askedFor_0 rfl (lv_at hl 1 rfl) ?_
    refine k_Si (As := [.int (x)]) (rest := []) ⟨hx, hb, hml, hown, hts⟩ (mtX2_isChute l x) (va_cwS 1 hts gX2_askedFor_X2_isChute rfl rfl rfl (by decide +kernel) ⟨Nat.le_of_ble_eq_true rfl, Nat.le_of_ble_eq_true rfl⟩) rfl hl.1 rfl (Nat.le_of_ble_eq_true rfl) dX2_askedFor_1 ⟨Nat.le_of_ble_eq_true rfl, Nat.le_of_ble_eq_true rfl⟩ (fun r3 er3 => ?_)
    subst er3
    refine lv_if_eq (tgt := 16) hx hb dX2_askedFor_4 (by decide) (fun c4 => ?_) (fun c4 => ?_)
    · exact absurd c4 hch
    refine lv_aload_n hx hb dX2_askedFor_7 rfl (lv_at hl 0 rfl) ?_
    refine lv_iload_n hx hb dX2_askedFor_8 rfl (lv_at hl 1 rfl) ?_
    refine lv_iload_n hx hb dX2_askedFor_9 rfl (lv_at hl 2 rfl) ?_
    refine k_Vi (As := [.int (x), .int (v)]) (rest := []) ⟨hx, hb, hml, hown, hts⟩ (mtX2_parcelAt l E hok σ o x v) (cwV 2 hts gX2_askedFor_X2_parcelAt rfl rfl rfl (by decide +kernel) ⟨Nat.le_of_ble_eq_true rfl, Nat.le_of_ble_eq_true rfl⟩) (va_recv hK.K hP (ci := 2) (q0 := 26) rfl at_26) hK hP hS rfl hl.1 rfl (Nat.le_of_ble_eq_true rfl) dX2_askedFor_10 ⟨Nat.le_of_ble_eq_true rfl, Nat.le_of_ble_eq_true rfl⟩ (fun r4 σ_5 H locs hr4 hP hS => ?_)
    obtain ⟨hpa, ehr4⟩ := hr4
    rw [ehr4] at hP
    rcases hpa with ⟨phr4, hphr4, rfl, hathr4, hfrhr4⟩ | ⟨rfl, hnnhr4⟩
    · skip
      refine lv_goto (tgt := 17) hx hb dX2_askedFor_13 (by decide) ?_
      refine lv_istore_n (lv' := [(3, .int (nI (phr4))), (0, .ref (e_a E (26))), (1, .int (x)), (2, .int (v))]) hx hb dX2_askedFor_17 rfl hl (by decide) rfl (fun ls hl => ?_)
      refine lv_aload_n hx hb dX2_askedFor_18 rfl (lv_at hl 1 rfl) ?_
      refine lv_iload_n hx hb dX2_askedFor_19 rfl (lv_at hl 2 rfl) ?_
      refine k_Si (As := [.int (x)]) (rest := [.ref (e_a E (26))]) ⟨hx, hb, hml, hown, hts⟩ (mtX2_isChute l x) (va_cwS 1 hts gX2_askedFor_X2_isChute rfl rfl rfl (by decide +kernel) ⟨Nat.le_of_ble_eq_true rfl, Nat.le_of_ble_eq_true rfl⟩) rfl hl.1 rfl (Nat.le_of_ble_eq_true rfl) dX2_askedFor_20 ⟨Nat.le_of_ble_eq_true rfl, Nat.le_of_ble_eq_true rfl⟩ (fun r6 er6 => ?_)
      subst er6
      refine lv_if_ne (tgt := 30) hx hb dX2_askedFor_23 (by decide) (fun c23 => ?_) (fun c23 => ?_)
      rotate_left
      · exact absurd c23 hch
      refine lv_iload_n hx hb dX2_askedFor_30 rfl (lv_at hl 0 rfl) ?_
      refine lv_iconst (v := (-1)) hx hb dX2_askedFor_31 (by decide) ?_
      refine lv_icmp_ne (tgt := 39) hx hb dX2_askedFor_32 (by decide) (fun c32 => ?_) (fun c32 => ?_)
      rotate_left
      · exact absurd c32 (nI_m1 hphr4)
      refine lv_iconst (v := 0) hx hb dX2_askedFor_39 (by decide) ?_
      refine q_put (C := RX2) (T := TX2) (N := 20) (ci := 2) (ty := .int) (v := 0) hx hb hts hinX2 tyX2 tyX2_ok nmX2 hown hok hK hP hS at_26 (by decide) rfl 0 (by decide) hf38 rfl (tyX2_ok 0 (by decide)) rfl rfl (Nat.le_of_ble_eq_true rfl) rfl dX2_askedFor_40 (fun H locs hP hS => ?_)
      refine lv_iload_n hx hb dX2_askedFor_43 rfl (lv_at hl 0 rfl) ?_
      exact r_i hx hb hr hlocks hP hS dX2_askedFor_44 (Or.inr (Or.inl ⟨hch, phr4, hphr4, rfl, hathr4, rfl⟩))
    · skip
      refine lv_goto (tgt := 17) hx hb dX2_askedFor_13 (by decide) ?_
      refine lv_istore_n (lv' := [(3, .int (-1)), (0, .ref (e_a E (26))), (1, .int (x)), (2, .int (v))]) hx hb dX2_askedFor_17 rfl hl (by decide) rfl (fun ls hl => ?_)
      refine lv_aload_n hx hb dX2_askedFor_18 rfl (lv_at hl 1 rfl) ?_
      refine lv_iload_n hx hb dX2_askedFor_19 rfl (lv_at hl 2 rfl) ?_
      refine k_Si (As := [.int (x)]) (rest := [.ref (e_a E (26))]) ⟨hx, hb, hml, hown, hts⟩ (mtX2_isChute l x) (va_cwS 1 hts gX2_askedFor_X2_isChute rfl rfl rfl (by decide +kernel) ⟨Nat.le_of_ble_eq_true rfl, Nat.le_of_ble_eq_true rfl⟩) rfl hl.1 rfl (Nat.le_of_ble_eq_true rfl) dX2_askedFor_20 ⟨Nat.le_of_ble_eq_true rfl, Nat.le_of_ble_eq_true rfl⟩ (fun r7 er7 => ?_)
      subst er7
      refine lv_if_ne (tgt := 30) hx hb dX2_askedFor_23 (by decide) (fun c23 => ?_) (fun c23 => ?_)
      rotate_left
      · exact absurd c23 hch
      refine lv_iload_n hx hb dX2_askedFor_30 rfl (lv_at hl 0 rfl) ?_
      refine lv_iconst (v := (-1)) hx hb dX2_askedFor_31 (by decide) ?_
      refine lv_icmp_ne (tgt := 39) hx hb dX2_askedFor_32 (by decide) (fun c32 => ?_) (fun c32 => ?_)
      · exact absurd c32 (fun z => z rfl)
      refine lv_iconst (v := 2) hx hb dX2_askedFor_35 (by decide) ?_
      refine lv_goto (tgt := 40) hx hb dX2_askedFor_36 (by decide) ?_
      refine q_put (C := RX2) (T := TX2) (N := 20) (ci := 2) (ty := .int) (v := 2) hx hb hts hinX2 tyX2 tyX2_ok nmX2 hown hok hK hP hS at_26 (by decide) rfl 0 (by decide) hf38 rfl (tyX2_ok 0 (by decide)) rfl rfl (Nat.le_of_ble_eq_true rfl) rfl dX2_askedFor_40 (fun H locs hP hS => ?_)
      refine lv_iload_n hx hb dX2_askedFor_43 rfl (lv_at hl 0 rfl) ?_
      exact r_i hx hb hr hlocks hP hS dX2_askedFor_44 (Or.inr (Or.inr ⟨hch, rfl, hnnhr4, rfl⟩))
set_option maxHeartbeats 4000000 in
set_option maxRecDepth 100000 in
/-- weight -/
theorem mtX2_weight (l : Launch) (E : Ev) (hok : e_ok E) (σ : Mem) (o : Nat → Int64) (x v : Int32) : Met l yX2_weight wsX2_weight ({ frames := 4, cells := 0, slots := 0, locals := 92 } : Room) (PW E σ o [.ref (e_a E (26)), .int (x), .int (v)]) (va_Qi (fun (r : Int32) (σ' : Mem) => (iw x 7 = 0 ∧ r = 0 ∧ σ' = m_up σ 26 0 1) ∨ (¬ iw x 7 = 0 ∧ ∃ p : Nat, p < 96 ∧ isAt σ x v p ∧ r = σ 28 p ∧ σ' = m_up σ 26 0 0) ∨ (¬ iw x 7 = 0 ∧ r = 0 ∧ (∀ a, a < 96 → ¬ isAt σ x v a) ∧ σ' = m_up σ 26 0 2)) (BW E o) (LB (e_B E))) 0 0 (LB (e_B E)) := by
  refine Met.ofW (cc := cX2_weight) (maxL := 4) (ret := (some .int)) (by decide) rfl ?_
  intro p e s m args below meth c s₁ B hml hv
  obtain ⟨rfl, hP, hK⟩ := hv
  have hx := B.exec
  have hb := B.bytes
  have hr := B.returns
  have hts := atoms_spec (ws := wsX2_weight) B.pre
  have hown : s.vm.findClass RX2 = some m.cls := findClass_of_methodNamed B.named
  have hlocks := B.notSynchronized
  have hS : va_S (LB (e_B E)) s.heap s.heap [] := va_S.rf
  have hinX2 : ∀ w ∈ wsX20, w ∈ wsX2_weight := fun w h => by simp only [wsX2_weight, List.mem_cons, List.mem_append, h, or_true, true_or]
  have hf13 := hts (.fieldLink RX2 13 "ParcelChutesModel" "heavy" "[I") (by decide +kernel)
  have hf38 := hts (.fieldLink RX2 38 "ParcelChutesModel" "thrown" "I") (by decide +kernel)
  have hl := lv_entry ([.ref (e_a E (26)), .int (x), .int (v)]) (n := 4) (Nat.le_of_ble_eq_true rfl)
  rw [lg_entry_eq]
  generalize (lg_sl ([.ref (e_a E (26)), .int (x), .int (v)]) ++ List.replicate (4 - (lg_sl ([.ref (e_a E (26)), .int (x), .int (v)])).length) Slot.unset).toArray = ls at hl ⊢
  have hl : lv_has ls 4 [(0, .ref (e_a E (26))), (1, .int (x)), (2, .int (v))] := hl
  refine lv_aload_n hx hb dX2_weight_0 rfl (lv_at hl 0 rfl) ?_
  refine lv_iload_n hx hb dX2_weight_1 rfl (lv_at hl 1 rfl) ?_
  refine lv_iload_n hx hb dX2_weight_2 rfl (lv_at hl 2 rfl) ?_
  refine k_Vi (As := [.int (x), .int (v)]) (rest := []) ⟨hx, hb, hml, hown, hts⟩ (mtX2_askedFor l E hok σ o x v) (cwV 2 hts gX2_weight_X2_askedFor rfl rfl rfl (by decide +kernel) ⟨Nat.le_of_ble_eq_true rfl, Nat.le_of_ble_eq_true rfl⟩) (va_recv hK.K hP (ci := 2) (q0 := 26) rfl at_26) hK hP hS rfl hl.1 rfl (Nat.le_of_ble_eq_true rfl) dX2_weight_3 ⟨Nat.le_of_ble_eq_true rfl, Nat.le_of_ble_eq_true rfl⟩ (fun r1 σ_2 H locs hr1 hP hS => ?_)
  rcases hr1 with ⟨hch, rfl, ehr1⟩ | ⟨hch, p0, hp0, rfl, hat, ehr1⟩ | ⟨hch, rfl, hnn, ehr1⟩
  · skip
    rw [ehr1] at hP
    refine lv_istore_n (lv' := [(3, .int (-1)), (0, .ref (e_a E (26))), (1, .int (x)), (2, .int (v))]) hx hb dX2_weight_6 rfl hl (by decide) rfl (fun ls hl => ?_)
    refine lv_aload_n hx hb dX2_weight_7 rfl (lv_at hl 1 rfl) ?_
    refine q_get (C := RX2) (T := TX2) (N := 20) (ci := 2) (v := .int (1)) hx hb hts hinX2 hown hK hP at_26 rfl 0 (by decide) hf38 rfl dX2_weight_8 ?_
    refine lv_if_ne (tgt := 23) hx hb dX2_weight_11 (by decide) (fun c11 => ?_) (fun c11 => ?_)
    rotate_left
    · exact absurd c11 (by decide)
    refine lv_iconst (v := 0) hx hb dX2_weight_23 (by decide) ?_
    exact r_i hx hb hr hlocks hP hS dX2_weight_24 (Or.inl ⟨hch, rfl, rfl⟩)
  · skip
    rw [ehr1] at hP
    refine lv_istore_n (lv' := [(3, .int (nI (p0))), (0, .ref (e_a E (26))), (1, .int (x)), (2, .int (v))]) hx hb dX2_weight_6 rfl hl (by decide) rfl (fun ls hl => ?_)
    refine lv_aload_n hx hb dX2_weight_7 rfl (lv_at hl 1 rfl) ?_
    refine q_get (C := RX2) (T := TX2) (N := 20) (ci := 2) (v := .int (0)) hx hb hts hinX2 hown hK hP at_26 rfl 0 (by decide) hf38 rfl dX2_weight_8 ?_
    refine lv_if_ne (tgt := 23) hx hb dX2_weight_11 (by decide) (fun c11 => ?_) (fun c11 => ?_)
    · exact absurd c11 (fun h => h rfl)
    refine lv_aload_n hx hb dX2_weight_14 rfl (lv_at hl 1 rfl) ?_
    refine q_get (C := RX2) (T := TX2) (N := 20) (ci := 2) (v := .ref (e_a E (28))) hx hb hts hinX2 hown hK hP at_26 rfl 2 (by decide) hf13 rfl dX2_weight_15 ?_
    refine lv_iload_n hx hb dX2_weight_18 rfl (lv_at hl 0 rfl) ?_
    refine q_ldv hx hb hK hP at_28 (i := p0) rfl (by omega) (by decide) dX2_weight_19 (v := σ (28) (p0)) rfl ?_
    refine lv_goto (tgt := 24) hx hb dX2_weight_20 (by decide) ?_
    exact r_i hx hb hr hlocks hP hS dX2_weight_24 (Or.inr (Or.inl ⟨hch, p0, hp0, hat, rfl, rfl⟩))
  · skip
    rw [ehr1] at hP
    refine lv_istore_n (lv' := [(3, .int (-1)), (0, .ref (e_a E (26))), (1, .int (x)), (2, .int (v))]) hx hb dX2_weight_6 rfl hl (by decide) rfl (fun ls hl => ?_)
    refine lv_aload_n hx hb dX2_weight_7 rfl (lv_at hl 1 rfl) ?_
    refine q_get (C := RX2) (T := TX2) (N := 20) (ci := 2) (v := .int (2)) hx hb hts hinX2 hown hK hP at_26 rfl 0 (by decide) hf38 rfl dX2_weight_8 ?_
    refine lv_if_ne (tgt := 23) hx hb dX2_weight_11 (by decide) (fun c11 => ?_) (fun c11 => ?_)
    rotate_left
    · exact absurd c11 (by decide)
    refine lv_iconst (v := 0) hx hb dX2_weight_23 (by decide) ?_
    exact r_i hx hb hr hlocks hP hS dX2_weight_24 (Or.inr (Or.inr ⟨hch, rfl, hnn, rfl⟩))
set_option maxHeartbeats 4000000 in
set_option maxRecDepth 100000 in
/-- girth -/
theorem mtX2_girth (l : Launch) (E : Ev) (hok : e_ok E) (σ : Mem) (o : Nat → Int64) (x v : Int32) : Met l yX2_girth wsX2_girth ({ frames := 4, cells := 0, slots := 0, locals := 92 } : Room) (PW E σ o [.ref (e_a E (26)), .int (x), .int (v)]) (va_Qi (fun (r : Int32) (σ' : Mem) => (iw x 7 = 0 ∧ r = 0 ∧ σ' = m_up σ 26 0 1) ∨ (¬ iw x 7 = 0 ∧ ∃ p : Nat, p < 96 ∧ isAt σ x v p ∧ r = σ 29 p ∧ σ' = m_up σ 26 0 0) ∨ (¬ iw x 7 = 0 ∧ r = 0 ∧ (∀ a, a < 96 → ¬ isAt σ x v a) ∧ σ' = m_up σ 26 0 2)) (BW E o) (LB (e_B E))) 0 0 (LB (e_B E)) := by
  refine Met.ofW (cc := cX2_girth) (maxL := 4) (ret := (some .int)) (by decide) rfl ?_
  intro p e s m args below meth c s₁ B hml hv
  obtain ⟨rfl, hP, hK⟩ := hv
  have hx := B.exec
  have hb := B.bytes
  have hr := B.returns
  have hts := atoms_spec (ws := wsX2_girth) B.pre
  have hown : s.vm.findClass RX2 = some m.cls := findClass_of_methodNamed B.named
  have hlocks := B.notSynchronized
  have hS : va_S (LB (e_B E)) s.heap s.heap [] := va_S.rf
  have hinX2 : ∀ w ∈ wsX20, w ∈ wsX2_girth := fun w h => by simp only [wsX2_girth, List.mem_cons, List.mem_append, h, or_true, true_or]
  have hf16 := hts (.fieldLink RX2 16 "ParcelChutesModel" "round" "[I") (by decide +kernel)
  have hf38 := hts (.fieldLink RX2 38 "ParcelChutesModel" "thrown" "I") (by decide +kernel)
  have hl := lv_entry ([.ref (e_a E (26)), .int (x), .int (v)]) (n := 4) (Nat.le_of_ble_eq_true rfl)
  rw [lg_entry_eq]
  generalize (lg_sl ([.ref (e_a E (26)), .int (x), .int (v)]) ++ List.replicate (4 - (lg_sl ([.ref (e_a E (26)), .int (x), .int (v)])).length) Slot.unset).toArray = ls at hl ⊢
  have hl : lv_has ls 4 [(0, .ref (e_a E (26))), (1, .int (x)), (2, .int (v))] := hl
  refine lv_aload_n hx hb dX2_girth_0 rfl (lv_at hl 0 rfl) ?_
  refine lv_iload_n hx hb dX2_girth_1 rfl (lv_at hl 1 rfl) ?_
  refine lv_iload_n hx hb dX2_girth_2 rfl (lv_at hl 2 rfl) ?_
  refine k_Vi (As := [.int (x), .int (v)]) (rest := []) ⟨hx, hb, hml, hown, hts⟩ (mtX2_askedFor l E hok σ o x v) (cwV 2 hts gX2_girth_X2_askedFor rfl rfl rfl (by decide +kernel) ⟨Nat.le_of_ble_eq_true rfl, Nat.le_of_ble_eq_true rfl⟩) (va_recv hK.K hP (ci := 2) (q0 := 26) rfl at_26) hK hP hS rfl hl.1 rfl (Nat.le_of_ble_eq_true rfl) dX2_girth_3 ⟨Nat.le_of_ble_eq_true rfl, Nat.le_of_ble_eq_true rfl⟩ (fun r1 σ_2 H locs hr1 hP hS => ?_)
  rcases hr1 with ⟨hch, rfl, ehr1⟩ | ⟨hch, p0, hp0, rfl, hat, ehr1⟩ | ⟨hch, rfl, hnn, ehr1⟩
  · skip
    rw [ehr1] at hP
    refine lv_istore_n (lv' := [(3, .int (-1)), (0, .ref (e_a E (26))), (1, .int (x)), (2, .int (v))]) hx hb dX2_girth_6 rfl hl (by decide) rfl (fun ls hl => ?_)
    refine lv_aload_n hx hb dX2_girth_7 rfl (lv_at hl 1 rfl) ?_
    refine q_get (C := RX2) (T := TX2) (N := 20) (ci := 2) (v := .int (1)) hx hb hts hinX2 hown hK hP at_26 rfl 0 (by decide) hf38 rfl dX2_girth_8 ?_
    refine lv_if_ne (tgt := 23) hx hb dX2_girth_11 (by decide) (fun c11 => ?_) (fun c11 => ?_)
    rotate_left
    · exact absurd c11 (by decide)
    refine lv_iconst (v := 0) hx hb dX2_girth_23 (by decide) ?_
    exact r_i hx hb hr hlocks hP hS dX2_girth_24 (Or.inl ⟨hch, rfl, rfl⟩)
  · skip
    rw [ehr1] at hP
    refine lv_istore_n (lv' := [(3, .int (nI (p0))), (0, .ref (e_a E (26))), (1, .int (x)), (2, .int (v))]) hx hb dX2_girth_6 rfl hl (by decide) rfl (fun ls hl => ?_)
    refine lv_aload_n hx hb dX2_girth_7 rfl (lv_at hl 1 rfl) ?_
    refine q_get (C := RX2) (T := TX2) (N := 20) (ci := 2) (v := .int (0)) hx hb hts hinX2 hown hK hP at_26 rfl 0 (by decide) hf38 rfl dX2_girth_8 ?_
    refine lv_if_ne (tgt := 23) hx hb dX2_girth_11 (by decide) (fun c11 => ?_) (fun c11 => ?_)
    · exact absurd c11 (fun h => h rfl)
    refine lv_aload_n hx hb dX2_girth_14 rfl (lv_at hl 1 rfl) ?_
    refine q_get (C := RX2) (T := TX2) (N := 20) (ci := 2) (v := .ref (e_a E (29))) hx hb hts hinX2 hown hK hP at_26 rfl 3 (by decide) hf16 rfl dX2_girth_15 ?_
    refine lv_iload_n hx hb dX2_girth_18 rfl (lv_at hl 0 rfl) ?_
    refine q_ldv hx hb hK hP at_29 (i := p0) rfl (by omega) (by decide) dX2_girth_19 (v := σ (29) (p0)) rfl ?_
    refine lv_goto (tgt := 24) hx hb dX2_girth_20 (by decide) ?_
    exact r_i hx hb hr hlocks hP hS dX2_girth_24 (Or.inr (Or.inl ⟨hch, p0, hp0, hat, rfl, rfl⟩))
  · skip
    rw [ehr1] at hP
    refine lv_istore_n (lv' := [(3, .int (-1)), (0, .ref (e_a E (26))), (1, .int (x)), (2, .int (v))]) hx hb dX2_girth_6 rfl hl (by decide) rfl (fun ls hl => ?_)
    refine lv_aload_n hx hb dX2_girth_7 rfl (lv_at hl 1 rfl) ?_
    refine q_get (C := RX2) (T := TX2) (N := 20) (ci := 2) (v := .int (2)) hx hb hts hinX2 hown hK hP at_26 rfl 0 (by decide) hf38 rfl dX2_girth_8 ?_
    refine lv_if_ne (tgt := 23) hx hb dX2_girth_11 (by decide) (fun c11 => ?_) (fun c11 => ?_)
    rotate_left
    · exact absurd c11 (by decide)
    refine lv_iconst (v := 0) hx hb dX2_girth_23 (by decide) ?_
    exact r_i hx hb hr hlocks hP hS dX2_girth_24 (Or.inr (Or.inr ⟨hch, rfl, hnn, rfl⟩))
set_option maxHeartbeats 4000000 in
set_option maxRecDepth 100000 in
/-- below -/
theorem mtX2_below (l : Launch) (E : Ev) (hok : e_ok E) (σ : Mem) (o : Nat → Int64) (x w : Int32) : Met l yX2_below wsX2_below ({ frames := 2, cells := 0, slots := 0, locals := 43 } : Room) (PW E σ o [.ref (e_a E (26)), .int (x), .int (w)]) (va_Qi (fun (r : Int32) (σ' : Mem) => r = (if tW x w = 0 then nI (ct (fBlw (σ 27) (σ 28) x w) 96) else 0) ∧ σ' = m_up σ 26 0 (tW x w)) (BW E o) (LB (e_B E))) 0 0 (LB (e_B E)) := by
  refine Met.ofW (cc := cX2_below) (maxL := 5) (ret := (some .int)) (by decide) rfl ?_
  intro p e s m args below meth c s₁ B hml hv
  obtain ⟨rfl, hP, hK⟩ := hv
  have hx := B.exec
  have hb := B.bytes
  have hr := B.returns
  have hts := atoms_spec (ws := wsX2_below) B.pre
  have hown : s.vm.findClass RX2 = some m.cls := findClass_of_methodNamed B.named
  have hlocks := B.notSynchronized
  have hS : va_S (LB (e_B E)) s.heap s.heap [] := va_S.rf
  have hinX2 : ∀ w ∈ wsX20, w ∈ wsX2_below := fun w h => by simp only [wsX2_below, List.mem_cons, List.mem_append, h, or_true, true_or]
  have hf7 := hts (.fieldLink RX2 7 "ParcelChutesModel" "home" "[I") (by decide +kernel)
  have hf13 := hts (.fieldLink RX2 13 "ParcelChutesModel" "heavy" "[I") (by decide +kernel)
  have hf38 := hts (.fieldLink RX2 38 "ParcelChutesModel" "thrown" "I") (by decide +kernel)
  have hl := lv_entry ([.ref (e_a E (26)), .int (x), .int (w)]) (n := 5) (Nat.le_of_ble_eq_true rfl)
  rw [lg_entry_eq]
  generalize (lg_sl ([.ref (e_a E (26)), .int (x), .int (w)]) ++ List.replicate (5 - (lg_sl ([.ref (e_a E (26)), .int (x), .int (w)])).length) Slot.unset).toArray = ls at hl ⊢
  have hl : lv_has ls 5 [(0, .ref (e_a E (26))), (1, .int (x)), (2, .int (w))] := hl
  refine lv_aload_n hx hb dX2_below_0 rfl (lv_at hl 0 rfl) ?_
  refine lv_iload_n hx hb dX2_below_1 rfl (lv_at hl 1 rfl) ?_
  refine cut_w (ls := ls) (E := E) (o := o) (σ := σ) (pcj := 26) (rest := [.ref (e_a E (26))]) (P := fun vv : Int32 => vv = tW x w) ?_ (fun J26 => ?_)
  · intro v1 H locs ev1 hP hS
    subst ev1
    refine q_put (C := RX2) (T := TX2) (N := 20) (ci := 2) (ty := .int) (v := tW x w) hx hb hts hinX2 tyX2 tyX2_ok nmX2 hown hok hK hP hS at_26 (by decide) rfl 0 (by decide) hf38 rfl (tyX2_ok 0 (by decide)) rfl rfl (Nat.le_of_ble_eq_true rfl) rfl dX2_below_26 (fun H locs hP hS => ?_)
    refine lv_iconst (v := 0) hx hb dX2_below_29 (by decide) ?_
    refine lv_istore_n (lv' := [(3, .int (0)), (0, .ref (e_a E (26))), (1, .int (x)), (2, .int (w))]) hx hb dX2_below_30 rfl hl (by decide) rfl (fun ls hl => ?_)
    refine lv_iconst (v := 0) hx hb dX2_below_31 (by decide) ?_
    refine lv_istore (lv' := [(4, .int (0)), (3, .int (0)), (0, .ref (e_a E (26))), (1, .int (x)), (2, .int (w))]) hx hb dX2_below_32 hl (by decide) rfl (fun ls hl => ?_)
    refine w_loop (E := E) (o := o) (ι := Nat × Int32) (μ := fun (i, y) => 96 - i) (I := fun (i, y) => i ≤ 96 ∧ y = nI (ct (fBlw (σ 27) (σ 28) x w) i) ∧ (¬ tW x w = 0 → i = 0)) (mem := fun (i, y) => m_up σ 26 0 (tW x w)) (lv := fun (i, y) => [(4, .int (nI (i))), (3, .int (y)), (0, .ref (e_a E (26))), (1, .int (x)), (2, .int (w))]) (nL := 5) (pch := 34) ?_ ((0), (0)) (show (0) ≤ 96 ∧ (0) = nI (ct (fBlw (σ 27) (σ 28) x w) (0)) ∧ (¬ tW x w = 0 → (0) = 0) from ⟨Nat.zero_le _, rfl, fun _ => rfl⟩) hP hS (lv_sub hl [0, 1, 2, 3, 4] rfl)
    rintro ⟨i, y⟩ hI IH H locs ls hP hS hl
    have hP : va_P (e_D E) vwCl (wd E (m_up σ 26 0 (tW x w)) o) H := hP
    have hl : lv_has ls 5 [(4, .int (nI (i))), (3, .int (y)), (0, .ref (e_a E (26))), (1, .int (x)), (2, .int (w))] := hl
    have hI : i ≤ 96 ∧ y = nI (ct (fBlw (σ 27) (σ 28) x w) i) ∧ (¬ tW x w = 0 → i = 0) := hI
    refine lv_iload hx hb dX2_below_34 (lv_at hl 0 rfl) ?_
    refine lv_bipush (v := 96) hx hb dX2_below_36 (by decide) ?_
    refine nb_ge (i := i) (j := 96) hx hb rfl rfl (by omega) (by omega) dX2_below_38 (tgt := 88) (by decide) (fun c38 => ?_) (fun c38 => ?_)
    · skip
      refine lv_iload_n hx hb dX2_below_88 rfl (lv_at hl 1 rfl) ?_
      exact r_i hx hb hr hlocks hP hS dX2_below_89 ⟨by
      by_cases ht : tW x w = 0
      · rw [if_pos ht, hI.2.1, show i = 96 by omega]
      · exact absurd (hI.2.2 ht) (by omega), rfl⟩
    · skip
      refine lv_aload_n hx hb dX2_below_41 rfl (lv_at hl 2 rfl) ?_
      refine q_get (C := RX2) (T := TX2) (N := 20) (ci := 2) (v := .int (tW x w)) hx hb hts hinX2 hown hK hP at_26 rfl 0 (by decide) hf38 rfl dX2_below_42 ?_
      refine lv_if_ne (tgt := 88) hx hb dX2_below_45 (by decide) (fun c45 => ?_) (fun c45 => ?_)
      · skip
        refine lv_iload_n hx hb dX2_below_88 rfl (lv_at hl 1 rfl) ?_
        exact r_i hx hb hr hlocks hP hS dX2_below_89 ⟨by rw [if_neg c45, hI.2.1, hI.2.2 c45]; rfl, rfl⟩
      · skip
        refine lv_iload_n hx hb dX2_below_48 rfl (lv_at hl 1 rfl) ?_
        refine lv_aload_n hx hb dX2_below_49 rfl (lv_at hl 2 rfl) ?_
        refine q_get (C := RX2) (T := TX2) (N := 20) (ci := 2) (v := .ref (e_a E (27))) hx hb hts hinX2 hown hK hP at_26 rfl 1 (by decide) hf7 rfl dX2_below_50 ?_
        refine lv_iload hx hb dX2_below_53 (lv_at hl 0 rfl) ?_
        refine q_ldv hx hb hK hP at_27 (i := i) rfl (by omega) (by decide) dX2_below_55 (v := σ (27) (i)) rfl ?_
        refine lv_iload_n hx hb dX2_below_56 rfl (lv_at hl 3 rfl) ?_
        refine lv_icmp_ne (tgt := 79) hx hb dX2_below_57 (by decide) (fun c57 => ?_) (fun c57 => ?_)
        · skip
          refine lv_iconst (v := 0) hx hb dX2_below_79 (by decide) ?_
          refine lv_iadd hx hb dX2_below_80 ?_
          refine lv_istore_n (lv' := [(3, .int (y + 0)), (4, .int (nI (i))), (0, .ref (e_a E (26))), (1, .int (x)), (2, .int (w))]) hx hb dX2_below_81 rfl hl (by decide) rfl (fun ls hl => ?_)
          refine lv_iinc (v := nI (i + 1)) (lv' := [(4, .int (nI (i + 1))), (3, .int (y + 0)), (0, .ref (e_a E (26))), (1, .int (x)), (2, .int (w))]) hx hb dX2_below_82 hl (k := 1) rfl (by exact nI_add (i) 1) (by decide) rfl (fun ls hl => ?_)
          refine lv_goto (tgt := 34) hx hb dX2_below_85 (by decide) ?_
          exact IH ((i + 1), (y + 0)) (show (i + 1) ≤ 96 ∧ (y + 0) = nI (ct (fBlw (σ 27) (σ 28) x w) (i + 1)) ∧ (¬ tW x w = 0 → (i + 1) = 0) from ⟨by omega, ct_0 hI.2.1 (by simp [fBlw, c57]), fun z => absurd c45 z⟩) (by (try dsimp only); omega) _ _ _ hP hS (lv_sub hl [0, 1, 2, 3, 4] rfl)
        · skip
          refine lv_aload_n hx hb dX2_below_60 rfl (lv_at hl 2 rfl) ?_
          refine q_get (C := RX2) (T := TX2) (N := 20) (ci := 2) (v := .ref (e_a E (28))) hx hb hts hinX2 hown hK hP at_26 rfl 2 (by decide) hf13 rfl dX2_below_61 ?_
          refine lv_iload hx hb dX2_below_64 (lv_at hl 0 rfl) ?_
          refine q_ldv hx hb hK hP at_28 (i := i) rfl (by omega) (by decide) dX2_below_66 (v := σ (28) (i)) rfl ?_
          refine lv_iload_n hx hb dX2_below_67 rfl (lv_at hl 4 rfl) ?_
          refine lv_iconst (v := 1) hx hb dX2_below_68 (by decide) ?_
          refine k_Si (As := [.int (σ (28) (i)), .int (w), .int (1)]) (rest := [.int (y)]) ⟨hx, hb, hml, hown, hts⟩ (mtX2_holds l (σ (28) (i)) w 1) (va_cwS 3 hts gX2_below_X2_holds rfl rfl rfl (by decide +kernel) ⟨Nat.le_of_ble_eq_true rfl, Nat.le_of_ble_eq_true rfl⟩) rfl hl.1 rfl (Nat.le_of_ble_eq_true rfl) dX2_below_69 ⟨Nat.le_of_ble_eq_true rfl, Nat.le_of_ble_eq_true rfl⟩ (fun r2 er2 => ?_)
          subst er2
          refine lv_if_eq (tgt := 79) hx hb dX2_below_72 (by decide) (fun c72 => ?_) (fun c72 => ?_)
          · skip
            refine lv_iconst (v := 0) hx hb dX2_below_79 (by decide) ?_
            refine lv_iadd hx hb dX2_below_80 ?_
            refine lv_istore_n (lv' := [(3, .int (y + 0)), (4, .int (nI (i))), (0, .ref (e_a E (26))), (1, .int (x)), (2, .int (w))]) hx hb dX2_below_81 rfl hl (by decide) rfl (fun ls hl => ?_)
            refine lv_iinc (v := nI (i + 1)) (lv' := [(4, .int (nI (i + 1))), (3, .int (y + 0)), (0, .ref (e_a E (26))), (1, .int (x)), (2, .int (w))]) hx hb dX2_below_82 hl (k := 1) rfl (by exact nI_add (i) 1) (by decide) rfl (fun ls hl => ?_)
            refine lv_goto (tgt := 34) hx hb dX2_below_85 (by decide) ?_
            exact IH ((i + 1), (y + 0)) (show (i + 1) ≤ 96 ∧ (y + 0) = nI (ct (fBlw (σ 27) (σ 28) x w) (i + 1)) ∧ (¬ tW x w = 0 → (i + 1) = 0) from ⟨by omega, ct_0 hI.2.1 (by simp [fBlw, c57, c72]), fun z => absurd c45 z⟩) (by (try dsimp only); omega) _ _ _ hP hS (lv_sub hl [0, 1, 2, 3, 4] rfl)
          · skip
            refine lv_iconst (v := 1) hx hb dX2_below_75 (by decide) ?_
            refine lv_goto (tgt := 80) hx hb dX2_below_76 (by decide) ?_
            refine lv_iadd hx hb dX2_below_80 ?_
            refine lv_istore_n (lv' := [(3, .int (y + 1)), (4, .int (nI (i))), (0, .ref (e_a E (26))), (1, .int (x)), (2, .int (w))]) hx hb dX2_below_81 rfl hl (by decide) rfl (fun ls hl => ?_)
            refine lv_iinc (v := nI (i + 1)) (lv' := [(4, .int (nI (i + 1))), (3, .int (y + 1)), (0, .ref (e_a E (26))), (1, .int (x)), (2, .int (w))]) hx hb dX2_below_82 hl (k := 1) rfl (by exact nI_add (i) 1) (by decide) rfl (fun ls hl => ?_)
            refine lv_goto (tgt := 34) hx hb dX2_below_85 (by decide) ?_
            exact IH ((i + 1), (y + 1)) (show (i + 1) ≤ 96 ∧ (y + 1) = nI (ct (fBlw (σ 27) (σ 28) x w) (i + 1)) ∧ (¬ tW x w = 0 → (i + 1) = 0) from ⟨by omega, ct_1 hI.2.1 (by simp [fBlw, c57, c72]), fun z => absurd c45 z⟩) (by (try dsimp only); omega) _ _ _ hP hS (lv_sub hl [0, 1, 2, 3, 4] rfl)
  refine k_Si (As := [.int (x)]) (rest := [.ref (e_a E (26))]) ⟨hx, hb, hml, hown, hts⟩ (mtX2_isChute l x) (va_cwS 1 hts gX2_below_X2_isChute rfl rfl rfl (by decide +kernel) ⟨Nat.le_of_ble_eq_true rfl, Nat.le_of_ble_eq_true rfl⟩) rfl hl.1 rfl (Nat.le_of_ble_eq_true rfl) dX2_below_2 ⟨Nat.le_of_ble_eq_true rfl, Nat.le_of_ble_eq_true rfl⟩ (fun r3 er3 => ?_)
  subst er3
  refine lv_if_ne (tgt := 12) hx hb dX2_below_5 (by decide) (fun c5 => ?_) (fun c5 => ?_)
  · skip
    refine lv_iload_n hx hb dX2_below_12 rfl (lv_at hl 2 rfl) ?_
    refine lv_ldc (v := 800000) hx hb hown (hts (.constant RX2 46 (800000)) (by decide +kernel)) dX2_below_13 ?_
    refine k_Si (As := [.int (w), .int (800000)]) (rest := [.ref (e_a E (26))]) ⟨hx, hb, hml, hown, hts⟩ (mtX2_isWithin l w 800000) (va_cwS 2 hts gX2_below_X2_isWithin rfl rfl rfl (by decide +kernel) ⟨Nat.le_of_ble_eq_true rfl, Nat.le_of_ble_eq_true rfl⟩) rfl hl.1 rfl (Nat.le_of_ble_eq_true rfl) dX2_below_15 ⟨Nat.le_of_ble_eq_true rfl, Nat.le_of_ble_eq_true rfl⟩ (fun r4 er4 => ?_)
    subst er4
    refine lv_if_ne (tgt := 25) hx hb dX2_below_18 (by decide) (fun c18 => ?_) (fun c18 => ?_)
    · skip
      refine lv_iconst (v := 0) hx hb dX2_below_25 (by decide) ?_
      exact J26 _ _ _ (by simp [tW, c5, c18]) hP hS
    · skip
      refine lv_iconst (v := 2) hx hb dX2_below_21 (by decide) ?_
      refine lv_goto (tgt := 26) hx hb dX2_below_22 (by decide) ?_
      exact J26 _ _ _ (by simp [tW, c5, c18]) hP hS
  · skip
    refine lv_iconst (v := 1) hx hb dX2_below_8 (by decide) ?_
    refine lv_goto (tgt := 26) hx hb dX2_below_9 (by decide) ?_
    exact J26 _ _ _ (by simp [tW, c5]) hP hS
set_option maxHeartbeats 4000000 in
set_option maxRecDepth 100000 in
/-- take -/
theorem mtX2_take (l : Launch) (E : Ev) (hok : e_ok E) (σ : Mem) (o : Nat → Int64) (x w : Int32) : Met l yX2_take wsX2_take ({ frames := 2, cells := 0, slots := 0, locals := 41 } : Room) (PW E σ o [.ref (e_a E (26)), .int (x), .int (w)]) (va_Qi (fun (r : Int32) (σ' : Mem) => (tW x w ≠ 0 ∧ r = 0 ∧ σ' = m_up σ 26 0 (tW x w)) ∨ (tW x w = 0 ∧ ∃ k : Nat, k < 8 ∧ x = nI k ∧ ((r = 0 ∧ (∀ a, a < 96 → ¬ (σ 27 a = x ∧ σ 28 a = w)) ∧ σ' = m_up (m_up σ 26 0 0) 26 0 3) ∨ ∃ f : Nat, f < 96 ∧ σ 27 f = x ∧ σ 28 f = w ∧ (∀ a, a < 96 → σ 27 a = x → σ 28 a = w → ¬ σ 30 a < σ 30 f) ∧ r = σ 29 f ∧ σ' = m_up (m_up (m_up σ 26 0 0) 26 0 0) 27 f (-1)))) (BW E o) (LB (e_B E))) 0 0 (LB (e_B E)) := by
  refine Met.ofW (cc := cX2_take) (maxL := 5) (ret := (some .int)) (by decide) rfl ?_
  intro p e s m args below meth c s₁ B hml hv
  obtain ⟨rfl, hP, hK⟩ := hv
  have hx := B.exec
  have hb := B.bytes
  have hr := B.returns
  have hts := atoms_spec (ws := wsX2_take) B.pre
  have hown : s.vm.findClass RX2 = some m.cls := findClass_of_methodNamed B.named
  have hlocks := B.notSynchronized
  have hS : va_S (LB (e_B E)) s.heap s.heap [] := va_S.rf
  have hinX2 : ∀ w ∈ wsX20, w ∈ wsX2_take := fun w h => by simp only [wsX2_take, List.mem_cons, List.mem_append, h, or_true, true_or]
  have hf7 := hts (.fieldLink RX2 7 "ParcelChutesModel" "home" "[I") (by decide +kernel)
  have hf13 := hts (.fieldLink RX2 13 "ParcelChutesModel" "heavy" "[I") (by decide +kernel)
  have hf16 := hts (.fieldLink RX2 16 "ParcelChutesModel" "round" "[I") (by decide +kernel)
  have hf19 := hts (.fieldLink RX2 19 "ParcelChutesModel" "came" "[I") (by decide +kernel)
  have hf38 := hts (.fieldLink RX2 38 "ParcelChutesModel" "thrown" "I") (by decide +kernel)
  have hl := lv_entry ([.ref (e_a E (26)), .int (x), .int (w)]) (n := 5) (Nat.le_of_ble_eq_true rfl)
  rw [lg_entry_eq]
  generalize (lg_sl ([.ref (e_a E (26)), .int (x), .int (w)]) ++ List.replicate (5 - (lg_sl ([.ref (e_a E (26)), .int (x), .int (w)])).length) Slot.unset).toArray = ls at hl ⊢
  have hl : lv_has ls 5 [(0, .ref (e_a E (26))), (1, .int (x)), (2, .int (w))] := hl
  refine lv_aload_n hx hb dX2_take_0 rfl (lv_at hl 0 rfl) ?_
  refine lv_iload_n hx hb dX2_take_1 rfl (lv_at hl 1 rfl) ?_
  refine cut_w (ls := ls) (E := E) (o := o) (σ := σ) (pcj := 26) (rest := [.ref (e_a E (26))]) (P := fun vv : Int32 => vv = tW x w) ?_ (fun J26 => ?_)
  · intro v1 H locs ev1 hP hS
    subst ev1
    refine q_put (C := RX2) (T := TX2) (N := 20) (ci := 2) (ty := .int) (v := tW x w) hx hb hts hinX2 tyX2 tyX2_ok nmX2 hown hok hK hP hS at_26 (by decide) rfl 0 (by decide) hf38 rfl (tyX2_ok 0 (by decide)) rfl rfl (Nat.le_of_ble_eq_true rfl) rfl dX2_take_26 (fun H locs hP hS => ?_)
    refine lv_aload_n hx hb dX2_take_29 rfl (lv_at hl 0 rfl) ?_
    refine q_get (C := RX2) (T := TX2) (N := 20) (ci := 2) (v := .int (tW x w)) hx hb hts hinX2 hown hK hP at_26 rfl 0 (by decide) hf38 rfl dX2_take_30 ?_
    refine lv_if_eq (tgt := 38) hx hb dX2_take_33 (by decide) (fun c33 => ?_) (fun c33 => ?_)
    · skip
      obtain ⟨k, hk, ek⟩ := tW_ch c33
      rw [c33] at hP
      refine lv_iconst (v := (-1)) hx hb dX2_take_38 (by decide) ?_
      refine lv_istore_n (lv' := [(3, .int ((-1))), (0, .ref (e_a E (26))), (1, .int (x)), (2, .int (w))]) hx hb dX2_take_39 rfl hl (by decide) rfl (fun ls hl => ?_)
      refine lv_iconst (v := 0) hx hb dX2_take_40 (by decide) ?_
      refine lv_istore (lv' := [(4, .int (0)), (3, .int ((-1))), (0, .ref (e_a E (26))), (1, .int (x)), (2, .int (w))]) hx hb dX2_take_41 hl (by decide) rfl (fun ls hl => ?_)
      refine w_loop (E := E) (o := o) (ι := Nat × Int32) (μ := fun (i, y) => 96 - i) (I := fun (i, y) => i ≤ 96 ∧ ((y = -1 ∧ ∀ a, a < i → ¬ (σ 27 a = x ∧ σ 28 a = w)) ∨ ∃ f9 : Nat, f9 < i ∧ y = nI f9 ∧ (σ 27 f9 = x ∧ σ 28 f9 = w) ∧ ∀ a, a < i → (σ 27 a = x ∧ σ 28 a = w) → ¬ σ 30 a < σ 30 f9)) (mem := fun (i, y) => m_up σ 26 0 0) (lv := fun (i, y) => [(4, .int (nI (i))), (3, .int (y)), (0, .ref (e_a E (26))), (1, .int (x)), (2, .int (w))]) (nL := 5) (pch := 43) ?_ ((0), (-1)) (show (0) ≤ 96 ∧ (((-1) = -1 ∧ ∀ a, a < (0) → ¬ (σ 27 a = x ∧ σ 28 a = w)) ∨ ∃ f9 : Nat, f9 < (0) ∧ (-1) = nI f9 ∧ (σ 27 f9 = x ∧ σ 28 f9 = w) ∧ ∀ a, a < (0) → (σ 27 a = x ∧ σ 28 a = w) → ¬ σ 30 a < σ 30 f9) from ⟨Nat.zero_le _, Or.inl ⟨rfl, fun a h => absurd h (Nat.not_lt_zero a)⟩⟩) hP hS (lv_sub hl [0, 1, 2, 3, 4] rfl)
      rintro ⟨i, y⟩ hI IH H locs ls hP hS hl
      have hP : va_P (e_D E) vwCl (wd E (m_up σ 26 0 0) o) H := hP
      have hl : lv_has ls 5 [(4, .int (nI (i))), (3, .int (y)), (0, .ref (e_a E (26))), (1, .int (x)), (2, .int (w))] := hl
      have hI : i ≤ 96 ∧ ((y = -1 ∧ ∀ a, a < i → ¬ (σ 27 a = x ∧ σ 28 a = w)) ∨ ∃ f9 : Nat, f9 < i ∧ y = nI f9 ∧ (σ 27 f9 = x ∧ σ 28 f9 = w) ∧ ∀ a, a < i → (σ 27 a = x ∧ σ 28 a = w) → ¬ σ 30 a < σ 30 f9) := hI
      refine lv_iload hx hb dX2_take_43 (lv_at hl 0 rfl) ?_
      refine lv_bipush (v := 96) hx hb dX2_take_45 (by decide) ?_
      refine nb_ge (i := i) (j := 96) hx hb rfl rfl (by omega) (by omega) dX2_take_47 (tgt := 102) (by decide) (fun c47 => ?_) (fun c47 => ?_)
      · skip
        rcases hI.2 with ⟨rfl, hno⟩ | ⟨f, hf, rfl, hm, hmn⟩
        · skip
          refine lv_aload_n hx hb dX2_take_102 rfl (lv_at hl 2 rfl) ?_
          refine lv_iload_n hx hb dX2_take_103 rfl (lv_at hl 1 rfl) ?_
          refine lv_iconst (v := (-1)) hx hb dX2_take_104 (by decide) ?_
          refine lv_icmp_ne (tgt := 112) hx hb dX2_take_105 (by decide) (fun c105 => ?_) (fun c105 => ?_)
          · exact absurd c105 (fun z => z rfl)
          refine lv_iconst (v := 3) hx hb dX2_take_108 (by decide) ?_
          refine lv_goto (tgt := 113) hx hb dX2_take_109 (by decide) ?_
          refine q_put (C := RX2) (T := TX2) (N := 20) (ci := 2) (ty := .int) (v := 3) hx hb hts hinX2 tyX2 tyX2_ok nmX2 hown hok hK hP hS at_26 (by decide) rfl 0 (by decide) hf38 rfl (tyX2_ok 0 (by decide)) rfl rfl (Nat.le_of_ble_eq_true rfl) rfl dX2_take_113 (fun H locs hP hS => ?_)
          refine lv_aload_n hx hb dX2_take_116 rfl (lv_at hl 2 rfl) ?_
          refine q_get (C := RX2) (T := TX2) (N := 20) (ci := 2) (v := .int (3)) hx hb hts hinX2 hown hK hP at_26 rfl 0 (by decide) hf38 rfl dX2_take_117 ?_
          refine lv_if_eq (tgt := 125) hx hb dX2_take_120 (by decide) (fun c120 => ?_) (fun c120 => ?_)
          · exact absurd c120 (by decide)
          refine lv_iconst (v := 0) hx hb dX2_take_123 (by decide) ?_
          exact r_i hx hb hr hlocks hP hS dX2_take_124 (Or.inr ⟨c33, k, hk, ek, Or.inl ⟨rfl, fun a h => hno a (by omega), rfl⟩⟩)
        · skip
          refine lv_aload_n hx hb dX2_take_102 rfl (lv_at hl 2 rfl) ?_
          refine lv_iload_n hx hb dX2_take_103 rfl (lv_at hl 1 rfl) ?_
          refine lv_iconst (v := (-1)) hx hb dX2_take_104 (by decide) ?_
          refine lv_icmp_ne (tgt := 112) hx hb dX2_take_105 (by decide) (fun c105 => ?_) (fun c105 => ?_)
          rotate_left
          · exact absurd c105 (nI_m1 (p := f) (by omega))
          refine lv_iconst (v := 0) hx hb dX2_take_112 (by decide) ?_
          refine q_put (C := RX2) (T := TX2) (N := 20) (ci := 2) (ty := .int) (v := 0) hx hb hts hinX2 tyX2 tyX2_ok nmX2 hown hok hK hP hS at_26 (by decide) rfl 0 (by decide) hf38 rfl (tyX2_ok 0 (by decide)) rfl rfl (Nat.le_of_ble_eq_true rfl) rfl dX2_take_113 (fun H locs hP hS => ?_)
          refine lv_aload_n hx hb dX2_take_116 rfl (lv_at hl 2 rfl) ?_
          refine q_get (C := RX2) (T := TX2) (N := 20) (ci := 2) (v := .int (0)) hx hb hts hinX2 hown hK hP at_26 rfl 0 (by decide) hf38 rfl dX2_take_117 ?_
          refine lv_if_eq (tgt := 125) hx hb dX2_take_120 (by decide) (fun c120 => ?_) (fun c120 => ?_)
          rotate_left
          · exact absurd c120 (fun h => h rfl)
          refine lv_aload_n hx hb dX2_take_125 rfl (lv_at hl 2 rfl) ?_
          refine q_get (C := RX2) (T := TX2) (N := 20) (ci := 2) (v := .ref (e_a E (27))) hx hb hts hinX2 hown hK hP at_26 rfl 1 (by decide) hf7 rfl dX2_take_126 ?_
          refine lv_iload_n hx hb dX2_take_129 rfl (lv_at hl 1 rfl) ?_
          refine lv_iconst (v := (-1)) hx hb dX2_take_130 (by decide) ?_
          refine q_st hx hb hok hK hP hS at_27 (fun _ => rfl) (by decide) (i := f) rfl (by omega) (by decide) dX2_take_131 (fun H locs hP hS => ?_)
          refine lv_aload_n hx hb dX2_take_132 rfl (lv_at hl 2 rfl) ?_
          refine q_get (C := RX2) (T := TX2) (N := 20) (ci := 2) (v := .ref (e_a E (29))) hx hb hts hinX2 hown hK hP at_26 rfl 3 (by decide) hf16 rfl dX2_take_133 ?_
          refine lv_iload_n hx hb dX2_take_136 rfl (lv_at hl 1 rfl) ?_
          refine q_ldv hx hb hK hP at_29 (i := f) rfl (by omega) (by decide) dX2_take_137 (v := σ (29) (f)) rfl ?_
          exact r_i hx hb hr hlocks hP hS dX2_take_138 (Or.inr ⟨c33, k, hk, ek, Or.inr ⟨f, by omega, hm.1, hm.2, fun a h h1 h2 => hmn a (by omega) ⟨h1, h2⟩, rfl, rfl⟩⟩)
      · skip
        refine lv_aload_n hx hb dX2_take_50 rfl (lv_at hl 2 rfl) ?_
        refine q_get (C := RX2) (T := TX2) (N := 20) (ci := 2) (v := .ref (e_a E (27))) hx hb hts hinX2 hown hK hP at_26 rfl 1 (by decide) hf7 rfl dX2_take_51 ?_
        refine lv_iload hx hb dX2_take_54 (lv_at hl 0 rfl) ?_
        refine q_ldv hx hb hK hP at_27 (i := i) rfl (by omega) (by decide) dX2_take_56 (v := σ (27) (i)) rfl ?_
        refine lv_iload_n hx hb dX2_take_57 rfl (lv_at hl 3 rfl) ?_
        refine lv_icmp_ne (tgt := 96) hx hb dX2_take_58 (by decide) (fun c58 => ?_) (fun c58 => ?_)
        · skip
          refine lv_iinc (v := nI (i + 1)) (lv' := [(4, .int (nI (i + 1))), (3, .int (y)), (0, .ref (e_a E (26))), (1, .int (x)), (2, .int (w))]) hx hb dX2_take_96 hl (k := 0) rfl (by exact nI_add (i) 1) (by decide) rfl (fun ls hl => ?_)
          refine lv_goto (tgt := 43) hx hb dX2_take_99 (by decide) ?_
          exact IH ((i + 1), (y)) (show (i + 1) ≤ 96 ∧ (((y) = -1 ∧ ∀ a, a < (i + 1) → ¬ (σ 27 a = x ∧ σ 28 a = w)) ∨ ∃ f9 : Nat, f9 < (i + 1) ∧ (y) = nI f9 ∧ (σ 27 f9 = x ∧ σ 28 f9 = w) ∧ ∀ a, a < (i + 1) → (σ 27 a = x ∧ σ 28 a = w) → ¬ σ 30 a < σ 30 f9) from ⟨by omega, hI.2.imp (fun h => ⟨h.1, lt_s h.2 (fun z => c58 z.1)⟩) (fun ⟨f, hf, e, hm, hmn⟩ => ⟨f, by omega, e, hm, lt_s hmn (fun z => absurd z (fun z => c58 z.1))⟩)⟩) (by (try dsimp only); omega) _ _ _ hP hS (lv_sub hl [0, 1, 2, 3, 4] rfl)
        · skip
          refine lv_aload_n hx hb dX2_take_61 rfl (lv_at hl 2 rfl) ?_
          refine q_get (C := RX2) (T := TX2) (N := 20) (ci := 2) (v := .ref (e_a E (28))) hx hb hts hinX2 hown hK hP at_26 rfl 2 (by decide) hf13 rfl dX2_take_62 ?_
          refine lv_iload hx hb dX2_take_65 (lv_at hl 0 rfl) ?_
          refine q_ldv hx hb hK hP at_28 (i := i) rfl (by omega) (by decide) dX2_take_67 (v := σ (28) (i)) rfl ?_
          refine lv_iload_n hx hb dX2_take_68 rfl (lv_at hl 4 rfl) ?_
          refine lv_icmp_ne (tgt := 96) hx hb dX2_take_69 (by decide) (fun c69 => ?_) (fun c69 => ?_)
          · skip
            refine lv_iinc (v := nI (i + 1)) (lv' := [(4, .int (nI (i + 1))), (3, .int (y)), (0, .ref (e_a E (26))), (1, .int (x)), (2, .int (w))]) hx hb dX2_take_96 hl (k := 0) rfl (by exact nI_add (i) 1) (by decide) rfl (fun ls hl => ?_)
            refine lv_goto (tgt := 43) hx hb dX2_take_99 (by decide) ?_
            exact IH ((i + 1), (y)) (show (i + 1) ≤ 96 ∧ (((y) = -1 ∧ ∀ a, a < (i + 1) → ¬ (σ 27 a = x ∧ σ 28 a = w)) ∨ ∃ f9 : Nat, f9 < (i + 1) ∧ (y) = nI f9 ∧ (σ 27 f9 = x ∧ σ 28 f9 = w) ∧ ∀ a, a < (i + 1) → (σ 27 a = x ∧ σ 28 a = w) → ¬ σ 30 a < σ 30 f9) from ⟨by omega, hI.2.imp (fun h => ⟨h.1, lt_s h.2 (fun z => c69 z.2)⟩) (fun ⟨f, hf, e, hm, hmn⟩ => ⟨f, by omega, e, hm, lt_s hmn (fun z => absurd z (fun z => c69 z.2))⟩)⟩) (by (try dsimp only); omega) _ _ _ hP hS (lv_sub hl [0, 1, 2, 3, 4] rfl)
          · skip
            refine lv_iload_n hx hb dX2_take_72 rfl (lv_at hl 1 rfl) ?_
            refine lv_iconst (v := (-1)) hx hb dX2_take_73 (by decide) ?_
            refine lv_icmp_eq (tgt := 93) hx hb dX2_take_74 (by decide) (fun c74 => ?_) (fun c74 => ?_)
            · skip
              refine lv_iload hx hb dX2_take_93 (lv_at hl 0 rfl) ?_
              refine lv_istore_n (lv' := [(3, .int (nI (i))), (4, .int (nI (i))), (0, .ref (e_a E (26))), (1, .int (x)), (2, .int (w))]) hx hb dX2_take_95 rfl hl (by decide) rfl (fun ls hl => ?_)
              refine lv_iinc (v := nI (i + 1)) (lv' := [(4, .int (nI (i + 1))), (3, .int (nI (i))), (0, .ref (e_a E (26))), (1, .int (x)), (2, .int (w))]) hx hb dX2_take_96 hl (k := 1) rfl (by exact nI_add (i) 1) (by decide) rfl (fun ls hl => ?_)
              refine lv_goto (tgt := 43) hx hb dX2_take_99 (by decide) ?_
              exact IH ((i + 1), (nI (i))) (show (i + 1) ≤ 96 ∧ (((nI (i)) = -1 ∧ ∀ a, a < (i + 1) → ¬ (σ 27 a = x ∧ σ 28 a = w)) ∨ ∃ f9 : Nat, f9 < (i + 1) ∧ (nI (i)) = nI f9 ∧ (σ 27 f9 = x ∧ σ 28 f9 = w) ∧ ∀ a, a < (i + 1) → (σ 27 a = x ∧ σ 28 a = w) → ¬ σ 30 a < σ 30 f9) from ⟨by omega, Or.inr ⟨i, by omega, rfl, ⟨c58, c69⟩, lt_s (fun a ha hz => absurd hz ((hI.2.resolve_right (fun ⟨f, hf, e, _⟩ => nI_m1 (p := f) (by omega) (e.symm.trans c74))).2 a ha)) (fun _ => i32_irr _)⟩⟩) (by (try dsimp only); omega) _ _ _ hP hS (lv_sub hl [0, 1, 2, 3, 4] rfl)
            · skip
              obtain ⟨f, hf, rfl, hm, hmn⟩ := hI.2.resolve_left (fun z => c74 z.1)
              refine lv_aload_n hx hb dX2_take_77 rfl (lv_at hl 2 rfl) ?_
              refine q_get (C := RX2) (T := TX2) (N := 20) (ci := 2) (v := .ref (e_a E (30))) hx hb hts hinX2 hown hK hP at_26 rfl 4 (by decide) hf19 rfl dX2_take_78 ?_
              refine lv_iload hx hb dX2_take_81 (lv_at hl 0 rfl) ?_
              refine q_ldv hx hb hK hP at_30 (i := i) rfl (by omega) (by decide) dX2_take_83 (v := σ (30) (i)) rfl ?_
              refine lv_aload_n hx hb dX2_take_84 rfl (lv_at hl 2 rfl) ?_
              refine q_get (C := RX2) (T := TX2) (N := 20) (ci := 2) (v := .ref (e_a E (30))) hx hb hts hinX2 hown hK hP at_26 rfl 4 (by decide) hf19 rfl dX2_take_85 ?_
              refine lv_iload_n hx hb dX2_take_88 rfl (lv_at hl 1 rfl) ?_
              refine q_ldv hx hb hK hP at_30 (i := f) rfl (by omega) (by decide) dX2_take_89 (v := σ (30) (f)) rfl ?_
              refine lv_icmp_ge (tgt := 96) hx hb dX2_take_90 (by decide) (fun c90 => ?_) (fun c90 => ?_)
              · skip
                refine lv_iinc (v := nI (i + 1)) (lv' := [(4, .int (nI (i + 1))), (3, .int (nI (f))), (0, .ref (e_a E (26))), (1, .int (x)), (2, .int (w))]) hx hb dX2_take_96 hl (k := 0) rfl (by exact nI_add (i) 1) (by decide) rfl (fun ls hl => ?_)
                refine lv_goto (tgt := 43) hx hb dX2_take_99 (by decide) ?_
                exact IH ((i + 1), (nI (f))) (show (i + 1) ≤ 96 ∧ (((nI (f)) = -1 ∧ ∀ a, a < (i + 1) → ¬ (σ 27 a = x ∧ σ 28 a = w)) ∨ ∃ f9 : Nat, f9 < (i + 1) ∧ (nI (f)) = nI f9 ∧ (σ 27 f9 = x ∧ σ 28 f9 = w) ∧ ∀ a, a < (i + 1) → (σ 27 a = x ∧ σ 28 a = w) → ¬ σ 30 a < σ 30 f9) from ⟨by omega, Or.inr ⟨f, by omega, rfl, hm, lt_s hmn (fun _ => i32_nlt_of_le c90)⟩⟩) (by (try dsimp only); omega) _ _ _ hP hS (lv_sub hl [0, 1, 2, 3, 4] rfl)
              · skip
                refine lv_iload hx hb dX2_take_93 (lv_at hl 0 rfl) ?_
                refine lv_istore_n (lv' := [(3, .int (nI (i))), (4, .int (nI (i))), (0, .ref (e_a E (26))), (1, .int (x)), (2, .int (w))]) hx hb dX2_take_95 rfl hl (by decide) rfl (fun ls hl => ?_)
                refine lv_iinc (v := nI (i + 1)) (lv' := [(4, .int (nI (i + 1))), (3, .int (nI (i))), (0, .ref (e_a E (26))), (1, .int (x)), (2, .int (w))]) hx hb dX2_take_96 hl (k := 1) rfl (by exact nI_add (i) 1) (by decide) rfl (fun ls hl => ?_)
                refine lv_goto (tgt := 43) hx hb dX2_take_99 (by decide) ?_
                exact IH ((i + 1), (nI (i))) (show (i + 1) ≤ 96 ∧ (((nI (i)) = -1 ∧ ∀ a, a < (i + 1) → ¬ (σ 27 a = x ∧ σ 28 a = w)) ∨ ∃ f9 : Nat, f9 < (i + 1) ∧ (nI (i)) = nI f9 ∧ (σ 27 f9 = x ∧ σ 28 f9 = w) ∧ ∀ a, a < (i + 1) → (σ 27 a = x ∧ σ 28 a = w) → ¬ σ 30 a < σ 30 f9) from ⟨by omega, Or.inr ⟨i, by omega, rfl, ⟨c58, c69⟩, lt_s (fun a ha hz => i32_ncyc (hmn a ha hz) (i32_lt_of_nle c90)) (fun _ => i32_irr _)⟩⟩) (by (try dsimp only); omega) _ _ _ hP hS (lv_sub hl [0, 1, 2, 3, 4] rfl)
    · skip
      refine lv_iconst (v := 0) hx hb dX2_take_36 (by decide) ?_
      exact r_i hx hb hr hlocks hP hS dX2_take_37 (Or.inl ⟨c33, rfl, rfl⟩)
  refine k_Si (As := [.int (x)]) (rest := [.ref (e_a E (26))]) ⟨hx, hb, hml, hown, hts⟩ (mtX2_isChute l x) (va_cwS 1 hts gX2_take_X2_isChute rfl rfl rfl (by decide +kernel) ⟨Nat.le_of_ble_eq_true rfl, Nat.le_of_ble_eq_true rfl⟩) rfl hl.1 rfl (Nat.le_of_ble_eq_true rfl) dX2_take_2 ⟨Nat.le_of_ble_eq_true rfl, Nat.le_of_ble_eq_true rfl⟩ (fun r2 er2 => ?_)
  subst er2
  refine lv_if_ne (tgt := 12) hx hb dX2_take_5 (by decide) (fun c5 => ?_) (fun c5 => ?_)
  · skip
    refine lv_iload_n hx hb dX2_take_12 rfl (lv_at hl 2 rfl) ?_
    refine lv_ldc (v := 800000) hx hb hown (hts (.constant RX2 46 (800000)) (by decide +kernel)) dX2_take_13 ?_
    refine k_Si (As := [.int (w), .int (800000)]) (rest := [.ref (e_a E (26))]) ⟨hx, hb, hml, hown, hts⟩ (mtX2_isWithin l w 800000) (va_cwS 2 hts gX2_take_X2_isWithin rfl rfl rfl (by decide +kernel) ⟨Nat.le_of_ble_eq_true rfl, Nat.le_of_ble_eq_true rfl⟩) rfl hl.1 rfl (Nat.le_of_ble_eq_true rfl) dX2_take_15 ⟨Nat.le_of_ble_eq_true rfl, Nat.le_of_ble_eq_true rfl⟩ (fun r3 er3 => ?_)
    subst er3
    refine lv_if_ne (tgt := 25) hx hb dX2_take_18 (by decide) (fun c18 => ?_) (fun c18 => ?_)
    · skip
      refine lv_iconst (v := 0) hx hb dX2_take_25 (by decide) ?_
      exact J26 _ _ _ (by simp [tW, c5, c18]) hP hS
    · skip
      refine lv_iconst (v := 2) hx hb dX2_take_21 (by decide) ?_
      refine lv_goto (tgt := 26) hx hb dX2_take_22 (by decide) ?_
      exact J26 _ _ _ (by simp [tW, c5, c18]) hP hS
  · skip
    refine lv_iconst (v := 1) hx hb dX2_take_8 (by decide) ?_
    refine lv_goto (tgt := 26) hx hb dX2_take_9 (by decide) ?_
    exact J26 _ _ _ (by simp [tW, c5]) hP hS
set_option maxHeartbeats 4000000 in
set_option maxRecDepth 100000 in
/-- heavier -/
theorem mtX2_heavier (l : Launch) (E : Ev) (hok : e_ok E) (σ : Mem) (o : Nat → Int64) (x y : Int32) : Met l yX2_heavier wsX2_heavier ({ frames := 2, cells := 0, slots := 0, locals := 41 } : Room) (PW E σ o [.ref (e_a E (26)), .int (x), .int (y)]) (va_Qi (fun (r : Int32) (σ' : Mem) => (t2 x y ≠ 0 ∧ r = 0 ∧ σ' = m_up σ 26 0 (t2 x y)) ∨ (t2 x y = 0 ∧ r = cmM (sg (hvM (σ 27) (σ 28) x 96) (hvM (σ 27) (σ 28) y 96)) ∧ σ' = m_up σ 26 0 0)) (BW E o) (LB (e_B E))) 0 0 (LB (e_B E)) := by
  refine Met.ofW (cc := cX2_heavier) (maxL := 4) (ret := (some .int)) (by decide) rfl ?_
  intro p e s m args below meth c s₁ B hml hv
  obtain ⟨rfl, hP, hK⟩ := hv
  have hx := B.exec
  have hb := B.bytes
  have hr := B.returns
  have hts := atoms_spec (ws := wsX2_heavier) B.pre
  have hown : s.vm.findClass RX2 = some m.cls := findClass_of_methodNamed B.named
  have hlocks := B.notSynchronized
  have hS : va_S (LB (e_B E)) s.heap s.heap [] := va_S.rf
  have hinX2 : ∀ w ∈ wsX20, w ∈ wsX2_heavier := fun w h => by simp only [wsX2_heavier, List.mem_cons, List.mem_append, h, or_true, true_or]
  have hf38 := hts (.fieldLink RX2 38 "ParcelChutesModel" "thrown" "I") (by decide +kernel)
  have hl := lv_entry ([.ref (e_a E (26)), .int (x), .int (y)]) (n := 4) (Nat.le_of_ble_eq_true rfl)
  rw [lg_entry_eq]
  generalize (lg_sl ([.ref (e_a E (26)), .int (x), .int (y)]) ++ List.replicate (4 - (lg_sl ([.ref (e_a E (26)), .int (x), .int (y)])).length) Slot.unset).toArray = ls at hl ⊢
  have hl : lv_has ls 4 [(0, .ref (e_a E (26))), (1, .int (x)), (2, .int (y))] := hl
  refine lv_aload_n hx hb dX2_heavier_0 rfl (lv_at hl 0 rfl) ?_
  refine lv_iload_n hx hb dX2_heavier_1 rfl (lv_at hl 1 rfl) ?_
  refine cut_w (ls := ls) (E := E) (o := o) (σ := σ) (pcj := 20) (rest := [.ref (e_a E (26))]) (P := fun vv : Int32 => vv = t2 x y) ?_ (fun J20 => ?_)
  · intro v1 H locs ev1 hP hS
    subst ev1
    refine q_put (C := RX2) (T := TX2) (N := 20) (ci := 2) (ty := .int) (v := t2 x y) hx hb hts hinX2 tyX2 tyX2_ok nmX2 hown hok hK hP hS at_26 (by decide) rfl 0 (by decide) hf38 rfl (tyX2_ok 0 (by decide)) rfl rfl (Nat.le_of_ble_eq_true rfl) rfl dX2_heavier_20 (fun H locs hP hS => ?_)
    refine lv_aload_n hx hb dX2_heavier_23 rfl (lv_at hl 0 rfl) ?_
    refine q_get (C := RX2) (T := TX2) (N := 20) (ci := 2) (v := .int (t2 x y)) hx hb hts hinX2 hown hK hP at_26 rfl 0 (by decide) hf38 rfl dX2_heavier_24 ?_
    refine lv_if_eq (tgt := 32) hx hb dX2_heavier_27 (by decide) (fun c27 => ?_) (fun c27 => ?_)
    · skip
      rw [c27] at hP
      refine lv_aload_n hx hb dX2_heavier_32 rfl (lv_at hl 0 rfl) ?_
      refine lv_iload_n hx hb dX2_heavier_33 rfl (lv_at hl 1 rfl) ?_
      refine k_Vi (As := [.int (x)]) (rest := []) ⟨hx, hb, hml, hown, hts⟩ (mtX2_heaviestIn l E hok (m_up σ 26 0 0) o x) (cwV 1 hts gX2_heavier_X2_heaviestIn rfl rfl rfl (by decide +kernel) ⟨Nat.le_of_ble_eq_true rfl, Nat.le_of_ble_eq_true rfl⟩) (va_recv hK.K hP (ci := 2) (q0 := 26) rfl at_26) hK hP hS rfl hl.1 rfl (Nat.le_of_ble_eq_true rfl) dX2_heavier_34 ⟨Nat.le_of_ble_eq_true rfl, Nat.le_of_ble_eq_true rfl⟩ (fun r2 σ_3 H locs hr2 hP hS => ?_)
      obtain ⟨zhr2, ehr2⟩ := hr2
      rw [ehr2] at hP
      have zhr2 : r2 = hvM (σ (27)) (σ (28)) x 96 := zhr2
      subst zhr2
      refine lv_aload_n hx hb dX2_heavier_37 rfl (lv_at hl 0 rfl) ?_
      refine lv_iload_n hx hb dX2_heavier_38 rfl (lv_at hl 2 rfl) ?_
      refine k_Vi (As := [.int (y)]) (rest := [.int (hvM (σ (27)) (σ (28)) x 96)]) ⟨hx, hb, hml, hown, hts⟩ (mtX2_heaviestIn l E hok (m_up σ 26 0 0) o y) (cwV 1 hts gX2_heavier_X2_heaviestIn rfl rfl rfl (by decide +kernel) ⟨Nat.le_of_ble_eq_true rfl, Nat.le_of_ble_eq_true rfl⟩) (va_recv hK.K hP (ci := 2) (q0 := 26) rfl at_26) hK hP hS rfl hl.1 rfl (Nat.le_of_ble_eq_true rfl) dX2_heavier_39 ⟨Nat.le_of_ble_eq_true rfl, Nat.le_of_ble_eq_true rfl⟩ (fun r4 σ_5 H locs hr4 hP hS => ?_)
      obtain ⟨zhr4, ehr4⟩ := hr4
      rw [ehr4] at hP
      have zhr4 : r4 = hvM (σ (27)) (σ (28)) y 96 := zhr4
      subst zhr4
      refine k_Si (As := [.int (hvM (σ (27)) (σ (28)) x 96), .int (hvM (σ (27)) (σ (28)) y 96)]) (rest := []) ⟨hx, hb, hml, hown, hts⟩ (mtX2_signsOf l (hvM (σ (27)) (σ (28)) x 96) (hvM (σ (27)) (σ (28)) y 96)) (va_cwS 2 hts gX2_heavier_X2_signsOf rfl rfl rfl (by decide +kernel) ⟨Nat.le_of_ble_eq_true rfl, Nat.le_of_ble_eq_true rfl⟩) rfl hl.1 rfl (Nat.le_of_ble_eq_true rfl) dX2_heavier_42 ⟨Nat.le_of_ble_eq_true rfl, Nat.le_of_ble_eq_true rfl⟩ (fun r6 er6 => ?_)
      subst er6
      refine lv_istore_n (lv' := [(3, .int (sg (hvM (σ (27)) (σ (28)) x 96) (hvM (σ (27)) (σ (28)) y 96))), (0, .ref (e_a E (26))), (1, .int (x)), (2, .int (y))]) hx hb dX2_heavier_45 rfl hl (by decide) rfl (fun ls hl => ?_)
      refine lv_iload_n hx hb dX2_heavier_46 rfl (lv_at hl 0 rfl) ?_
      refine lv_iconst (v := 4) hx hb dX2_heavier_47 (by decide) ?_
      refine lv_iand hx hb dX2_heavier_48 ?_
      refine lv_if_eq (tgt := 56) hx hb dX2_heavier_49 (by decide) (fun c49 => ?_) (fun c49 => ?_)
      · skip
        refine lv_iload_n hx hb dX2_heavier_56 rfl (lv_at hl 0 rfl) ?_
        refine lv_iconst (v := 1) hx hb dX2_heavier_57 (by decide) ?_
        refine lv_iand hx hb dX2_heavier_58 ?_
        refine lv_if_eq (tgt := 66) hx hb dX2_heavier_59 (by decide) (fun c59 => ?_) (fun c59 => ?_)
        · skip
          refine lv_iload_n hx hb dX2_heavier_66 rfl (lv_at hl 0 rfl) ?_
          refine lv_bipush (v := 16) hx hb dX2_heavier_67 (by decide) ?_
          refine lv_iand hx hb dX2_heavier_69 ?_
          refine lv_if_eq (tgt := 77) hx hb dX2_heavier_70 (by decide) (fun c70 => ?_) (fun c70 => ?_)
          · skip
            refine lv_iconst (v := 2) hx hb dX2_heavier_77 (by decide) ?_
            exact r_i hx hb hr hlocks hP hS dX2_heavier_78 (Or.inr ⟨c27, by simp [cmM, c49, c59, c70], rfl⟩)
          · skip
            refine lv_iconst (v := 0) hx hb dX2_heavier_73 (by decide) ?_
            refine lv_goto (tgt := 78) hx hb dX2_heavier_74 (by decide) ?_
            exact r_i hx hb hr hlocks hP hS dX2_heavier_78 (Or.inr ⟨c27, by simp [cmM, c49, c59, c70], rfl⟩)
        · skip
          refine lv_iconst (v := (-1)) hx hb dX2_heavier_62 (by decide) ?_
          refine lv_goto (tgt := 78) hx hb dX2_heavier_63 (by decide) ?_
          exact r_i hx hb hr hlocks hP hS dX2_heavier_78 (Or.inr ⟨c27, by simp [cmM, c49, c59], rfl⟩)
      · skip
        refine lv_iconst (v := 1) hx hb dX2_heavier_52 (by decide) ?_
        refine lv_goto (tgt := 78) hx hb dX2_heavier_53 (by decide) ?_
        exact r_i hx hb hr hlocks hP hS dX2_heavier_78 (Or.inr ⟨c27, by simp [cmM, c49], rfl⟩)
    · skip
      refine lv_iconst (v := 0) hx hb dX2_heavier_30 (by decide) ?_
      exact r_i hx hb hr hlocks hP hS dX2_heavier_31 (Or.inl ⟨c27, rfl, rfl⟩)
  refine k_Si (As := [.int (x)]) (rest := [.ref (e_a E (26))]) ⟨hx, hb, hml, hown, hts⟩ (mtX2_isChute l x) (va_cwS 1 hts gX2_heavier_X2_isChute rfl rfl rfl (by decide +kernel) ⟨Nat.le_of_ble_eq_true rfl, Nat.le_of_ble_eq_true rfl⟩) rfl hl.1 rfl (Nat.le_of_ble_eq_true rfl) dX2_heavier_2 ⟨Nat.le_of_ble_eq_true rfl, Nat.le_of_ble_eq_true rfl⟩ (fun r7 er7 => ?_)
  subst er7
  refine lv_if_eq (tgt := 19) hx hb dX2_heavier_5 (by decide) (fun c5 => ?_) (fun c5 => ?_)
  · skip
    refine lv_iconst (v := 1) hx hb dX2_heavier_19 (by decide) ?_
    exact J20 _ _ _ (by simp [t2, c5]) hP hS
  · skip
    refine lv_iload_n hx hb dX2_heavier_8 rfl (lv_at hl 2 rfl) ?_
    refine k_Si (As := [.int (y)]) (rest := [.ref (e_a E (26))]) ⟨hx, hb, hml, hown, hts⟩ (mtX2_isChute l y) (va_cwS 1 hts gX2_heavier_X2_isChute rfl rfl rfl (by decide +kernel) ⟨Nat.le_of_ble_eq_true rfl, Nat.le_of_ble_eq_true rfl⟩) rfl hl.1 rfl (Nat.le_of_ble_eq_true rfl) dX2_heavier_9 ⟨Nat.le_of_ble_eq_true rfl, Nat.le_of_ble_eq_true rfl⟩ (fun r8 er8 => ?_)
    subst er8
    refine lv_if_eq (tgt := 19) hx hb dX2_heavier_12 (by decide) (fun c12 => ?_) (fun c12 => ?_)
    · skip
      refine lv_iconst (v := 1) hx hb dX2_heavier_19 (by decide) ?_
      exact J20 _ _ _ (by simp [t2, c5, c12]) hP hS
    · skip
      refine lv_iconst (v := 0) hx hb dX2_heavier_15 (by decide) ?_
      refine lv_goto (tgt := 20) hx hb dX2_heavier_16 (by decide) ?_
      exact J20 _ _ _ (by simp [t2, c5, c12]) hP hS
set_option maxHeartbeats 4000000 in
set_option maxRecDepth 100000 in
/-- alike -/
theorem mtX2_alike (l : Launch) (E : Ev) (hok : e_ok E) (σ : Mem) (o : Nat → Int64) (x y : Int32) : Met l yX2_alike wsX2_alike ({ frames := 3, cells := 0, slots := 0, locals := 69 } : Room) (PW E σ o [.ref (e_a E (26)), .int (x), .int (y)]) (va_Qi (fun (r : Int32) (σ' : Mem) => (t2 x y ≠ 0 ∧ r = 0 ∧ σ' = m_up σ 26 0 (t2 x y)) ∨ (t2 x y = 0 ∧ ∃ i : Nat, i ≤ 12 ∧ r = nI i ∧ (∀ t, t < i → good σ x y t) ∧ (i < 12 → bad σ x y i) ∧ σ' = m_up σ 26 0 0)) (BW E o) (LB (e_B E))) 0 0 (LB (e_B E)) := by
  refine Met.ofW (cc := cX2_alike) (maxL := 6) (ret := (some .int)) (by decide) rfl ?_
  intro p e s m args below meth c s₁ B hml hv
  obtain ⟨rfl, hP, hK⟩ := hv
  have hx := B.exec
  have hb := B.bytes
  have hr := B.returns
  have hts := atoms_spec (ws := wsX2_alike) B.pre
  have hown : s.vm.findClass RX2 = some m.cls := findClass_of_methodNamed B.named
  have hlocks := B.notSynchronized
  have hS : va_S (LB (e_B E)) s.heap s.heap [] := va_S.rf
  have hinX2 : ∀ w ∈ wsX20, w ∈ wsX2_alike := fun w h => by simp only [wsX2_alike, List.mem_cons, List.mem_append, h, or_true, true_or]
  have hf13 := hts (.fieldLink RX2 13 "ParcelChutesModel" "heavy" "[I") (by decide +kernel)
  have hf16 := hts (.fieldLink RX2 16 "ParcelChutesModel" "round" "[I") (by decide +kernel)
  have hf38 := hts (.fieldLink RX2 38 "ParcelChutesModel" "thrown" "I") (by decide +kernel)
  have hl := lv_entry ([.ref (e_a E (26)), .int (x), .int (y)]) (n := 6) (Nat.le_of_ble_eq_true rfl)
  rw [lg_entry_eq]
  generalize (lg_sl ([.ref (e_a E (26)), .int (x), .int (y)]) ++ List.replicate (6 - (lg_sl ([.ref (e_a E (26)), .int (x), .int (y)])).length) Slot.unset).toArray = ls at hl ⊢
  have hl : lv_has ls 6 [(0, .ref (e_a E (26))), (1, .int (x)), (2, .int (y))] := hl
  refine lv_aload_n hx hb dX2_alike_0 rfl (lv_at hl 0 rfl) ?_
  refine lv_iload_n hx hb dX2_alike_1 rfl (lv_at hl 1 rfl) ?_
  refine cut_w (ls := ls) (E := E) (o := o) (σ := σ) (pcj := 20) (rest := [.ref (e_a E (26))]) (P := fun vv : Int32 => vv = t2 x y) ?_ (fun J20 => ?_)
  · intro v1 H locs ev1 hP hS
    subst ev1
    refine q_put (C := RX2) (T := TX2) (N := 20) (ci := 2) (ty := .int) (v := t2 x y) hx hb hts hinX2 tyX2 tyX2_ok nmX2 hown hok hK hP hS at_26 (by decide) rfl 0 (by decide) hf38 rfl (tyX2_ok 0 (by decide)) rfl rfl (Nat.le_of_ble_eq_true rfl) rfl dX2_alike_20 (fun H locs hP hS => ?_)
    refine lv_aload_n hx hb dX2_alike_23 rfl (lv_at hl 0 rfl) ?_
    refine q_get (C := RX2) (T := TX2) (N := 20) (ci := 2) (v := .int (t2 x y)) hx hb hts hinX2 hown hK hP at_26 rfl 0 (by decide) hf38 rfl dX2_alike_24 ?_
    refine lv_if_eq (tgt := 32) hx hb dX2_alike_27 (by decide) (fun c27 => ?_) (fun c27 => ?_)
    · skip
      rw [c27] at hP
      refine lv_iconst (v := 0) hx hb dX2_alike_32 (by decide) ?_
      refine lv_istore_n (lv' := [(3, .int (0)), (0, .ref (e_a E (26))), (1, .int (x)), (2, .int (y))]) hx hb dX2_alike_33 rfl hl (by decide) rfl (fun ls hl => ?_)
      refine w_loop (E := E) (o := o) (ι := Nat) (μ := fun i => 12 - i) (I := fun i => i ≤ 12 ∧ ∀ t, t < i → good σ x y t) (mem := fun i => m_up σ 26 0 0) (lv := fun i => [(3, .int (nI (i))), (0, .ref (e_a E (26))), (1, .int (x)), (2, .int (y))]) (nL := 6) (pch := 34) ?_ (0) (show (0) ≤ 12 ∧ ∀ t, t < (0) → good σ x y t from ⟨Nat.zero_le _, fun a h => absurd h (Nat.not_lt_zero a)⟩) hP hS (lv_sub hl [0, 1, 2, 3] rfl)
      rintro i hI IH H locs ls hP hS hl
      have hP : va_P (e_D E) vwCl (wd E (m_up σ 26 0 0) o) H := hP
      have hl : lv_has ls 6 [(3, .int (nI (i))), (0, .ref (e_a E (26))), (1, .int (x)), (2, .int (y))] := hl
      have hI : i ≤ 12 ∧ ∀ t, t < i → good σ x y t := hI
      refine lv_iload_n hx hb dX2_alike_34 rfl (lv_at hl 0 rfl) ?_
      refine lv_bipush (v := 12) hx hb dX2_alike_35 (by decide) ?_
      refine nb_ge (i := i) (j := 12) hx hb rfl rfl (by omega) (by omega) dX2_alike_37 (tgt := 120) (by decide) (fun c37 => ?_) (fun c37 => ?_)
      · skip
        refine lv_bipush (v := 12) hx hb dX2_alike_120 (by decide) ?_
        exact r_i hx hb hr hlocks hP hS dX2_alike_122 (Or.inr ⟨c27, 12, Nat.le_refl _, rfl, fun t h => hI.2 t (by omega), fun h => absurd h (Nat.lt_irrefl _), rfl⟩)
      · skip
        refine lv_aload_n hx hb dX2_alike_40 rfl (lv_at hl 1 rfl) ?_
        refine lv_iload_n hx hb dX2_alike_41 rfl (lv_at hl 2 rfl) ?_
        refine lv_iload_n hx hb dX2_alike_42 rfl (lv_at hl 0 rfl) ?_
        refine k_Vi (As := [.int (x), .int (nI (i))]) (rest := []) ⟨hx, hb, hml, hown, hts⟩ (mtX2_parcelAt l E hok (m_up σ 26 0 0) o x (nI (i))) (cwV 2 hts gX2_alike_X2_parcelAt rfl rfl rfl (by decide +kernel) ⟨Nat.le_of_ble_eq_true rfl, Nat.le_of_ble_eq_true rfl⟩) (va_recv hK.K hP (ci := 2) (q0 := 26) rfl at_26) hK hP hS rfl hl.1 rfl (Nat.le_of_ble_eq_true rfl) dX2_alike_43 ⟨Nat.le_of_ble_eq_true rfl, Nat.le_of_ble_eq_true rfl⟩ (fun r2 σ_3 H locs hr2 hP hS => ?_)
        obtain ⟨hpa, ehr2⟩ := hr2
        rw [ehr2] at hP
        simp only [isAt_26] at hpa
        rcases hpa with ⟨phr2, hphr2, rfl, hathr2, hfrhr2⟩ | ⟨rfl, hnnhr2⟩
        · skip
          refine lv_istore (lv' := [(4, .int (nI (phr2))), (3, .int (nI (i))), (0, .ref (e_a E (26))), (1, .int (x)), (2, .int (y))]) hx hb dX2_alike_46 hl (by decide) rfl (fun ls hl => ?_)
          refine lv_aload_n hx hb dX2_alike_48 rfl (lv_at hl 2 rfl) ?_
          refine lv_iload_n hx hb dX2_alike_49 rfl (lv_at hl 4 rfl) ?_
          refine lv_iload_n hx hb dX2_alike_50 rfl (lv_at hl 1 rfl) ?_
          refine k_Vi (As := [.int (y), .int (nI (i))]) (rest := []) ⟨hx, hb, hml, hown, hts⟩ (mtX2_parcelAt l E hok (m_up σ 26 0 0) o y (nI (i))) (cwV 2 hts gX2_alike_X2_parcelAt rfl rfl rfl (by decide +kernel) ⟨Nat.le_of_ble_eq_true rfl, Nat.le_of_ble_eq_true rfl⟩) (va_recv hK.K hP (ci := 2) (q0 := 26) rfl at_26) hK hP hS rfl hl.1 rfl (Nat.le_of_ble_eq_true rfl) dX2_alike_51 ⟨Nat.le_of_ble_eq_true rfl, Nat.le_of_ble_eq_true rfl⟩ (fun r4 σ_5 H locs hr4 hP hS => ?_)
          obtain ⟨hpa, ehr4⟩ := hr4
          rw [ehr4] at hP
          simp only [isAt_26] at hpa
          rcases hpa with ⟨phr4, hphr4, rfl, hathr4, hfrhr4⟩ | ⟨rfl, hnnhr4⟩
          · skip
            refine lv_istore (lv' := [(5, .int (nI (phr4))), (4, .int (nI (phr2))), (3, .int (nI (i))), (0, .ref (e_a E (26))), (1, .int (x)), (2, .int (y))]) hx hb dX2_alike_54 hl (by decide) rfl (fun ls hl => ?_)
            refine lv_iload hx hb dX2_alike_56 (lv_at hl 1 rfl) ?_
            refine lv_iconst (v := (-1)) hx hb dX2_alike_58 (by decide) ?_
            refine lv_icmp_eq (tgt := 112) hx hb dX2_alike_59 (by decide) (fun c59 => ?_) (fun c59 => ?_)
            · exact absurd c59 (nI_m1 hphr2)
            refine lv_iload hx hb dX2_alike_62 (lv_at hl 0 rfl) ?_
            refine lv_iconst (v := (-1)) hx hb dX2_alike_64 (by decide) ?_
            refine lv_icmp_eq (tgt := 112) hx hb dX2_alike_65 (by decide) (fun c65 => ?_) (fun c65 => ?_)
            · exact absurd c65 (nI_m1 hphr4)
            refine lv_aload_n hx hb dX2_alike_68 rfl (lv_at hl 3 rfl) ?_
            refine q_get (C := RX2) (T := TX2) (N := 20) (ci := 2) (v := .ref (e_a E (28))) hx hb hts hinX2 hown hK hP at_26 rfl 2 (by decide) hf13 rfl dX2_alike_69 ?_
            refine lv_iload hx hb dX2_alike_72 (lv_at hl 1 rfl) ?_
            refine q_ldv hx hb hK hP at_28 (i := phr2) rfl (by omega) (by decide) dX2_alike_74 (v := σ (28) (phr2)) rfl ?_
            refine lv_aload_n hx hb dX2_alike_75 rfl (lv_at hl 3 rfl) ?_
            refine q_get (C := RX2) (T := TX2) (N := 20) (ci := 2) (v := .ref (e_a E (28))) hx hb hts hinX2 hown hK hP at_26 rfl 2 (by decide) hf13 rfl dX2_alike_76 ?_
            refine lv_iload hx hb dX2_alike_79 (lv_at hl 0 rfl) ?_
            refine q_ldv hx hb hK hP at_28 (i := phr4) rfl (by omega) (by decide) dX2_alike_81 (v := σ (28) (phr4)) rfl ?_
            refine lv_bipush (v := 16) hx hb dX2_alike_82 (by decide) ?_
            refine k_Si (As := [.int (σ (28) (phr2)), .int (σ (28) (phr4)), .int (16)]) (rest := []) ⟨hx, hb, hml, hown, hts⟩ (mtX2_holds l (σ (28) (phr2)) (σ (28) (phr4)) 16) (va_cwS 3 hts gX2_alike_X2_holds rfl rfl rfl (by decide +kernel) ⟨Nat.le_of_ble_eq_true rfl, Nat.le_of_ble_eq_true rfl⟩) rfl hl.1 rfl (Nat.le_of_ble_eq_true rfl) dX2_alike_84 ⟨Nat.le_of_ble_eq_true rfl, Nat.le_of_ble_eq_true rfl⟩ (fun r6 er6 => ?_)
            subst er6
            refine lv_if_eq (tgt := 112) hx hb dX2_alike_87 (by decide) (fun c87 => ?_) (fun c87 => ?_)
            · skip
              refine lv_iload_n hx hb dX2_alike_112 rfl (lv_at hl 2 rfl) ?_
              exact r_i hx hb hr hlocks hP hS dX2_alike_113 (Or.inr ⟨c27, i, hI.1, rfl, hI.2, fun _ => Or.inr (Or.inr ⟨phr2, phr4, hphr2, hphr4, hathr2, hathr4, Or.inl c87⟩), rfl⟩)
            · skip
              refine lv_aload_n hx hb dX2_alike_90 rfl (lv_at hl 3 rfl) ?_
              refine q_get (C := RX2) (T := TX2) (N := 20) (ci := 2) (v := .ref (e_a E (29))) hx hb hts hinX2 hown hK hP at_26 rfl 3 (by decide) hf16 rfl dX2_alike_91 ?_
              refine lv_iload hx hb dX2_alike_94 (lv_at hl 1 rfl) ?_
              refine q_ldv hx hb hK hP at_29 (i := phr2) rfl (by omega) (by decide) dX2_alike_96 (v := σ (29) (phr2)) rfl ?_
              refine lv_aload_n hx hb dX2_alike_97 rfl (lv_at hl 3 rfl) ?_
              refine q_get (C := RX2) (T := TX2) (N := 20) (ci := 2) (v := .ref (e_a E (29))) hx hb hts hinX2 hown hK hP at_26 rfl 3 (by decide) hf16 rfl dX2_alike_98 ?_
              refine lv_iload hx hb dX2_alike_101 (lv_at hl 0 rfl) ?_
              refine q_ldv hx hb hK hP at_29 (i := phr4) rfl (by omega) (by decide) dX2_alike_103 (v := σ (29) (phr4)) rfl ?_
              refine lv_bipush (v := 16) hx hb dX2_alike_104 (by decide) ?_
              refine k_Si (As := [.int (σ (29) (phr2)), .int (σ (29) (phr4)), .int (16)]) (rest := []) ⟨hx, hb, hml, hown, hts⟩ (mtX2_holds l (σ (29) (phr2)) (σ (29) (phr4)) 16) (va_cwS 3 hts gX2_alike_X2_holds rfl rfl rfl (by decide +kernel) ⟨Nat.le_of_ble_eq_true rfl, Nat.le_of_ble_eq_true rfl⟩) rfl hl.1 rfl (Nat.le_of_ble_eq_true rfl) dX2_alike_106 ⟨Nat.le_of_ble_eq_true rfl, Nat.le_of_ble_eq_true rfl⟩ (fun r7 er7 => ?_)
              subst er7
              refine lv_if_ne (tgt := 114) hx hb dX2_alike_109 (by decide) (fun c109 => ?_) (fun c109 => ?_)
              · skip
                refine lv_iinc (v := nI (i + 1)) (lv' := [(3, .int (nI (i + 1))), (5, .int (nI (phr4))), (4, .int (nI (phr2))), (0, .ref (e_a E (26))), (1, .int (x)), (2, .int (y))]) hx hb dX2_alike_114 hl (k := 2) rfl (by exact nI_add (i) 1) (by decide) rfl (fun ls hl => ?_)
                refine lv_goto (tgt := 34) hx hb dX2_alike_117 (by decide) ?_
                exact IH (i + 1) (show (i + 1) ≤ 12 ∧ ∀ t, t < (i + 1) → good σ x y t from ⟨by omega, lt_s hI.2 ⟨phr2, phr4, hphr2, hphr4, hathr2, hathr4, c87, c109⟩⟩) (by (try dsimp only); omega) _ _ _ hP hS (lv_sub hl [0, 3, 4, 5] rfl)
              · skip
                refine lv_iload_n hx hb dX2_alike_112 rfl (lv_at hl 2 rfl) ?_
                exact r_i hx hb hr hlocks hP hS dX2_alike_113 (Or.inr ⟨c27, i, hI.1, rfl, hI.2, fun _ => Or.inr (Or.inr ⟨phr2, phr4, hphr2, hphr4, hathr2, hathr4, Or.inr c109⟩), rfl⟩)
          · skip
            refine lv_istore (lv' := [(5, .int (-1)), (4, .int (nI (phr2))), (3, .int (nI (i))), (0, .ref (e_a E (26))), (1, .int (x)), (2, .int (y))]) hx hb dX2_alike_54 hl (by decide) rfl (fun ls hl => ?_)
            refine lv_iload hx hb dX2_alike_56 (lv_at hl 1 rfl) ?_
            refine lv_iconst (v := (-1)) hx hb dX2_alike_58 (by decide) ?_
            refine lv_icmp_eq (tgt := 112) hx hb dX2_alike_59 (by decide) (fun c59 => ?_) (fun c59 => ?_)
            · exact absurd c59 (nI_m1 hphr2)
            refine lv_iload hx hb dX2_alike_62 (lv_at hl 0 rfl) ?_
            refine lv_iconst (v := (-1)) hx hb dX2_alike_64 (by decide) ?_
            refine lv_icmp_eq (tgt := 112) hx hb dX2_alike_65 (by decide) (fun c65 => ?_) (fun c65 => ?_)
            rotate_left
            · exact absurd c65 (fun z => z rfl)
            refine lv_iload_n hx hb dX2_alike_112 rfl (lv_at hl 2 rfl) ?_
            exact r_i hx hb hr hlocks hP hS dX2_alike_113 (Or.inr ⟨c27, i, hI.1, rfl, hI.2, fun _ => Or.inr (Or.inl hnnhr4), rfl⟩)
        · skip
          refine lv_istore (lv' := [(4, .int (-1)), (3, .int (nI (i))), (0, .ref (e_a E (26))), (1, .int (x)), (2, .int (y))]) hx hb dX2_alike_46 hl (by decide) rfl (fun ls hl => ?_)
          refine lv_aload_n hx hb dX2_alike_48 rfl (lv_at hl 2 rfl) ?_
          refine lv_iload_n hx hb dX2_alike_49 rfl (lv_at hl 4 rfl) ?_
          refine lv_iload_n hx hb dX2_alike_50 rfl (lv_at hl 1 rfl) ?_
          refine k_Vi (As := [.int (y), .int (nI (i))]) (rest := []) ⟨hx, hb, hml, hown, hts⟩ (mtX2_parcelAt l E hok (m_up σ 26 0 0) o y (nI (i))) (cwV 2 hts gX2_alike_X2_parcelAt rfl rfl rfl (by decide +kernel) ⟨Nat.le_of_ble_eq_true rfl, Nat.le_of_ble_eq_true rfl⟩) (va_recv hK.K hP (ci := 2) (q0 := 26) rfl at_26) hK hP hS rfl hl.1 rfl (Nat.le_of_ble_eq_true rfl) dX2_alike_51 ⟨Nat.le_of_ble_eq_true rfl, Nat.le_of_ble_eq_true rfl⟩ (fun r8 σ_9 H locs hr8 hP hS => ?_)
          obtain ⟨hpa, ehr8⟩ := hr8
          rw [ehr8] at hP
          simp only [isAt_26] at hpa
          rcases hpa with ⟨phr8, hphr8, rfl, hathr8, hfrhr8⟩ | ⟨rfl, hnnhr8⟩
          · skip
            refine lv_istore (lv' := [(5, .int (nI (phr8))), (4, .int (-1)), (3, .int (nI (i))), (0, .ref (e_a E (26))), (1, .int (x)), (2, .int (y))]) hx hb dX2_alike_54 hl (by decide) rfl (fun ls hl => ?_)
            refine lv_iload hx hb dX2_alike_56 (lv_at hl 1 rfl) ?_
            refine lv_iconst (v := (-1)) hx hb dX2_alike_58 (by decide) ?_
            refine lv_icmp_eq (tgt := 112) hx hb dX2_alike_59 (by decide) (fun c59 => ?_) (fun c59 => ?_)
            rotate_left
            · exact absurd c59 (fun z => z rfl)
            refine lv_iload_n hx hb dX2_alike_112 rfl (lv_at hl 2 rfl) ?_
            exact r_i hx hb hr hlocks hP hS dX2_alike_113 (Or.inr ⟨c27, i, hI.1, rfl, hI.2, fun _ => Or.inl hnnhr2, rfl⟩)
          · skip
            refine lv_istore (lv' := [(5, .int (-1)), (4, .int (-1)), (3, .int (nI (i))), (0, .ref (e_a E (26))), (1, .int (x)), (2, .int (y))]) hx hb dX2_alike_54 hl (by decide) rfl (fun ls hl => ?_)
            refine lv_iload hx hb dX2_alike_56 (lv_at hl 1 rfl) ?_
            refine lv_iconst (v := (-1)) hx hb dX2_alike_58 (by decide) ?_
            refine lv_icmp_eq (tgt := 112) hx hb dX2_alike_59 (by decide) (fun c59 => ?_) (fun c59 => ?_)
            rotate_left
            · exact absurd c59 (fun z => z rfl)
            refine lv_iload_n hx hb dX2_alike_112 rfl (lv_at hl 2 rfl) ?_
            exact r_i hx hb hr hlocks hP hS dX2_alike_113 (Or.inr ⟨c27, i, hI.1, rfl, hI.2, fun _ => Or.inl hnnhr2, rfl⟩)
    · skip
      refine lv_iconst (v := 0) hx hb dX2_alike_30 (by decide) ?_
      exact r_i hx hb hr hlocks hP hS dX2_alike_31 (Or.inl ⟨c27, rfl, rfl⟩)
  refine k_Si (As := [.int (x)]) (rest := [.ref (e_a E (26))]) ⟨hx, hb, hml, hown, hts⟩ (mtX2_isChute l x) (va_cwS 1 hts gX2_alike_X2_isChute rfl rfl rfl (by decide +kernel) ⟨Nat.le_of_ble_eq_true rfl, Nat.le_of_ble_eq_true rfl⟩) rfl hl.1 rfl (Nat.le_of_ble_eq_true rfl) dX2_alike_2 ⟨Nat.le_of_ble_eq_true rfl, Nat.le_of_ble_eq_true rfl⟩ (fun r10 er10 => ?_)
  subst er10
  refine lv_if_eq (tgt := 19) hx hb dX2_alike_5 (by decide) (fun c5 => ?_) (fun c5 => ?_)
  · skip
    refine lv_iconst (v := 1) hx hb dX2_alike_19 (by decide) ?_
    exact J20 _ _ _ (by simp [t2, c5]) hP hS
  · skip
    refine lv_iload_n hx hb dX2_alike_8 rfl (lv_at hl 2 rfl) ?_
    refine k_Si (As := [.int (y)]) (rest := [.ref (e_a E (26))]) ⟨hx, hb, hml, hown, hts⟩ (mtX2_isChute l y) (va_cwS 1 hts gX2_alike_X2_isChute rfl rfl rfl (by decide +kernel) ⟨Nat.le_of_ble_eq_true rfl, Nat.le_of_ble_eq_true rfl⟩) rfl hl.1 rfl (Nat.le_of_ble_eq_true rfl) dX2_alike_9 ⟨Nat.le_of_ble_eq_true rfl, Nat.le_of_ble_eq_true rfl⟩ (fun r11 er11 => ?_)
    subst er11
    refine lv_if_eq (tgt := 19) hx hb dX2_alike_12 (by decide) (fun c12 => ?_) (fun c12 => ?_)
    · skip
      refine lv_iconst (v := 1) hx hb dX2_alike_19 (by decide) ?_
      exact J20 _ _ _ (by simp [t2, c5, c12]) hP hS
    · skip
      refine lv_iconst (v := 0) hx hb dX2_alike_15 (by decide) ?_
      refine lv_goto (tgt := 20) hx hb dX2_alike_16 (by decide) ?_
      exact J20 _ _ _ (by simp [t2, c5, c12]) hP hS

set_option maxHeartbeats 4000000 in
set_option maxRecDepth 100000 in
/-- pour -/
theorem mtX2_pour (l : Launch) (E : Ev) (hok : e_ok E) (σ : Mem) (o : Nat → Int64) (x y : Int32) (U : Nat → Nat → Nat) (N : Nat → Nat) (C : Nat) (M0 : MIx (σ 27) (σ 28) (σ 30) U N C) (hC0 : σ 26 5 = nI C) (hCb : C < 100000) : Met l yX2_pour wsX2_pour ({ frames := 3, cells := 0, slots := 0, locals := 69 } : Room) (PW E σ o [.ref (e_a E (26)), .int (x), .int (y)]) (va_Qi (fun (r : Int32) (σ' : Mem) => (tR x y ≠ 0 ∧ r = 0 ∧ σ' = m_up σ 26 0 (tR x y)) ∨ (tR x y = 0 ∧ ∃ a : Nat, a < 8 ∧ x = nI a ∧ ∃ b : Nat, b < 8 ∧ y = nI b ∧ a ≠ b ∧ ∃ (U' : Nat → Nat → Nat) (N' : Nat → Nat) (C' p' : Nat), p' ≤ N a ∧ r = nI (N a - p') ∧ MIx (σ' 27) (σ' 28) (σ' 30) U' N' C' ∧ σ' 26 5 = nI C' ∧ C' ≤ C + 12 ∧ pstepsM a b (N a) (m_up σ 26 0 0) U N C 0 σ' U' N' C' p')) (BW E o) (LB (e_B E))) 0 0 (LB (e_B E)) := by
  refine Met.ofW (cc := cX2_pour) (maxL := 8) (ret := (some .int)) (by decide) rfl ?_
  intro p e s m args below meth c s₁ B hml hv
  obtain ⟨rfl, hP, hK⟩ := hv
  have hx := B.exec
  have hb := B.bytes
  have hr := B.returns
  have hts := atoms_spec (ws := wsX2_pour) B.pre
  have hown : s.vm.findClass RX2 = some m.cls := findClass_of_methodNamed B.named
  have hlocks := B.notSynchronized
  have hS : va_S (LB (e_B E)) s.heap s.heap [] := va_S.rf
  have hinX2 : ∀ w ∈ wsX20, w ∈ wsX2_pour := fun w h => by simp only [wsX2_pour, List.mem_cons, List.mem_append, h, or_true, true_or]
  have hf7 := hts (.fieldLink RX2 7 "ParcelChutesModel" "home" "[I") (by decide +kernel)
  have hf13 := hts (.fieldLink RX2 13 "ParcelChutesModel" "heavy" "[I") (by decide +kernel)
  have hf16 := hts (.fieldLink RX2 16 "ParcelChutesModel" "round" "[I") (by decide +kernel)
  have hf19 := hts (.fieldLink RX2 19 "ParcelChutesModel" "came" "[I") (by decide +kernel)
  have hf38 := hts (.fieldLink RX2 38 "ParcelChutesModel" "thrown" "I") (by decide +kernel)
  have hf62 := hts (.fieldLink RX2 62 "ParcelChutesModel" "clock" "I") (by decide +kernel)
  have hl := lv_entry ([.ref (e_a E (26)), .int (x), .int (y)]) (n := 8) (Nat.le_of_ble_eq_true rfl)
  rw [lg_entry_eq]
  generalize (lg_sl ([.ref (e_a E (26)), .int (x), .int (y)]) ++ List.replicate (8 - (lg_sl ([.ref (e_a E (26)), .int (x), .int (y)])).length) Slot.unset).toArray = ls at hl ⊢
  have hl : lv_has ls 8 [(0, .ref (e_a E (26))), (1, .int (x)), (2, .int (y))] := hl
  refine lv_aload_n hx hb dX2_pour_0 rfl (lv_at hl 0 rfl) ?_
  refine lv_iload_n hx hb dX2_pour_1 rfl (lv_at hl 1 rfl) ?_
  refine cut_w (ls := ls) (E := E) (o := o) (σ := σ) (pcj := 29) (rest := [.ref (e_a E (26))]) (P := fun vv : Int32 => vv = tR x y) ?_ (fun J29 => ?_)
  · intro v1 H locs ev1 hP hS
    subst ev1
    refine q_put (C := RX2) (T := TX2) (N := 20) (ci := 2) (ty := .int) (v := tR x y) hx hb hts hinX2 tyX2 tyX2_ok nmX2 hown hok hK hP hS at_26 (by decide) rfl 0 (by decide) hf38 rfl (tyX2_ok 0 (by decide)) rfl rfl (Nat.le_of_ble_eq_true rfl) rfl dX2_pour_29 (fun H locs hP hS => ?_)
    refine lv_aload_n hx hb dX2_pour_32 rfl (lv_at hl 0 rfl) ?_
    refine q_get (C := RX2) (T := TX2) (N := 20) (ci := 2) (v := .int (tR x y)) hx hb hts hinX2 hown hK hP at_26 rfl 0 (by decide) hf38 rfl dX2_pour_33 ?_
    refine lv_if_eq (tgt := 41) hx hb dX2_pour_36 (by decide) (fun c36 => ?_) (fun c36 => ?_)
    · skip
      obtain ⟨⟨⟨a, ha, rfl⟩, b, hb8, rfl⟩, hxy⟩ := tR_ch c36
      have hab : a ≠ b := fun z => hxy (by rw [z])
      rw [c36] at hP
      have h12a := (M0.1 a ha).2.1
      refine lv_iconst (v := 0) hx hb dX2_pour_41 (by decide) ?_
      refine lv_istore_n (lv' := [(3, .int (0)), (0, .ref (e_a E (26))), (1, .int (nI (a))), (2, .int (nI (b)))]) hx hb dX2_pour_42 rfl hl (by decide) rfl (fun ls hl => ?_)
      refine lv_iconst (v := 0) hx hb dX2_pour_43 (by decide) ?_
      refine lv_istore (lv' := [(4, .int (0)), (3, .int (0)), (0, .ref (e_a E (26))), (1, .int (nI (a))), (2, .int (nI (b)))]) hx hb dX2_pour_44 hl (by decide) rfl (fun ls hl => ?_)
      refine lv_aload_n hx hb dX2_pour_46 rfl (lv_at hl 2 rfl) ?_
      refine lv_iload_n hx hb dX2_pour_47 rfl (lv_at hl 3 rfl) ?_
      refine k_Vi (As := [.int (nI (a))]) (rest := []) ⟨hx, hb, hml, hown, hts⟩ (mtX2_many l E hok (m_up σ 26 0 0) o (nI (a))) (cwV 1 hts gX2_pour_X2_many rfl rfl rfl (by decide +kernel) ⟨Nat.le_of_ble_eq_true rfl, Nat.le_of_ble_eq_true rfl⟩) (va_recv hK.K hP (ci := 2) (q0 := 26) rfl at_26) hK hP hS rfl hl.1 rfl (Nat.le_of_ble_eq_true rfl) dX2_pour_48 ⟨Nat.le_of_ble_eq_true rfl, Nat.le_of_ble_eq_true rfl⟩ (fun r2 σ_3 H locs hr2 hP hS => ?_)
      obtain ⟨zhr2, ehr2⟩ := hr2
      rw [ehr2] at hP
      have zhr2 : r2 = nI (ct (fHome (σ (27)) (nI (a))) 96) := zhr2
      subst zhr2
      rw [mi_many M0 ha]
      refine lv_istore (lv' := [(5, .int (nI (N a))), (4, .int (0)), (3, .int (0)), (0, .ref (e_a E (26))), (1, .int (nI (a))), (2, .int (nI (b)))]) hx hb dX2_pour_51 hl (by decide) rfl (fun ls hl => ?_)
      refine lv_iconst (v := 0) hx hb dX2_pour_53 (by decide) ?_
      refine lv_istore (lv' := [(6, .int (0)), (5, .int (nI (N a))), (4, .int (0)), (3, .int (0)), (0, .ref (e_a E (26))), (1, .int (nI (a))), (2, .int (nI (b)))]) hx hb dX2_pour_54 hl (by decide) rfl (fun ls hl => ?_)
      refine w_loop (E := E) (o := o) (ι := Nat × Nat × Nat × Mem × (Nat → Nat → Nat) × (Nat → Nat) × Nat) (μ := fun (i, p1, g1, σ1, U1, N1, C1) => 12 - i) (I := fun (i, p1, g1, σ1, U1, N1, C1) => i ≤ N a ∧ p1 + g1 = i ∧ MIx (σ1 27) (σ1 28) (σ1 30) U1 N1 C1 ∧ σ1 26 5 = nI C1 ∧ C1 ≤ C + i ∧ N1 a = N a - g1 ∧ pstepsM a b i (m_up σ 26 0 0) U N C 0 σ1 U1 N1 C1 p1) (mem := fun (i, p1, g1, σ1, U1, N1, C1) => σ1) (lv := fun (i, p1, g1, σ1, U1, N1, C1) => [(6, .int (nI (i))), (5, .int (nI (N a))), (4, .int (nI (p1))), (3, .int (nI (g1))), (0, .ref (e_a E (26))), (1, .int (nI (a))), (2, .int (nI (b)))]) (nL := 8) (pch := 56) ?_ ((0), (0), (0), (m_up σ 26 0 0), (U), (N), (C)) (show (0) ≤ N a ∧ (0) + (0) = (0) ∧ MIx ((m_up σ 26 0 0) 27) ((m_up σ 26 0 0) 28) ((m_up σ 26 0 0) 30) (U) (N) (C) ∧ (m_up σ 26 0 0) 26 5 = nI (C) ∧ (C) ≤ C + (0) ∧ (N) a = N a - (0) ∧ pstepsM a b (0) (m_up σ 26 0 0) U N C 0 (m_up σ 26 0 0) (U) (N) (C) (0) from ⟨Nat.zero_le _, rfl, M0, hC0, by omega, by omega, rfl, rfl, rfl, rfl, rfl⟩) hP hS (lv_sub hl [0, 1, 2, 3, 4, 5, 6] rfl)
      rintro ⟨i, p1, g1, σ1, U1, N1, C1⟩ hI IH H locs ls hP hS hl
      have hP : va_P (e_D E) vwCl (wd E σ1 o) H := hP
      have hl : lv_has ls 8 [(6, .int (nI (i))), (5, .int (nI (N a))), (4, .int (nI (p1))), (3, .int (nI (g1))), (0, .ref (e_a E (26))), (1, .int (nI (a))), (2, .int (nI (b)))] := hl
      have hI : i ≤ N a ∧ p1 + g1 = i ∧ MIx (σ1 27) (σ1 28) (σ1 30) U1 N1 C1 ∧ σ1 26 5 = nI C1 ∧ C1 ≤ C + i ∧ N1 a = N a - g1 ∧ pstepsM a b i (m_up σ 26 0 0) U N C 0 σ1 U1 N1 C1 p1 := hI
      have h1a := (hI.2.2.1.1 a ha).2.1
      have h1b := (hI.2.2.1.1 b hb8).2.1
      have h1s := hI.2.2.2.2.2.1
      refine lv_iload hx hb dX2_pour_56 (lv_at hl 0 rfl) ?_
      refine lv_iload hx hb dX2_pour_58 (lv_at hl 1 rfl) ?_
      refine nb_ge (i := i) (j := N a) hx hb rfl rfl (by omega) (by omega) dX2_pour_60 (tgt := 148) (by decide) (fun c60 => ?_) (fun c60 => ?_)
      · skip
        refine lv_iload_n hx hb dX2_pour_148 rfl (lv_at hl 3 rfl) ?_
        exact r_i hx hb hr hlocks hP hS dX2_pour_149 (by
      have hi : i = N a := by omega
      subst hi
      exact Or.inr ⟨c36, a, ha, rfl, b, hb8, rfl, hab, U1, N1, C1, p1, by omega, by rw [show N a - p1 = g1 by omega], hI.2.2.1, hI.2.2.2.1, by omega, hI.2.2.2.2.2.2⟩)
      · skip
        refine lv_aload_n hx hb dX2_pour_63 rfl (lv_at hl 4 rfl) ?_
        refine lv_iload_n hx hb dX2_pour_64 rfl (lv_at hl 5 rfl) ?_
        refine lv_iload hx hb dX2_pour_65 (lv_at hl 2 rfl) ?_
        refine k_Vi (As := [.int (nI (a)), .int (nI (p1))]) (rest := []) ⟨hx, hb, hml, hown, hts⟩ (mtX2_parcelAt l E hok σ1 o (nI (a)) (nI (p1))) (cwV 2 hts gX2_pour_X2_parcelAt rfl rfl rfl (by decide +kernel) ⟨Nat.le_of_ble_eq_true rfl, Nat.le_of_ble_eq_true rfl⟩) (va_recv hK.K hP (ci := 2) (q0 := 26) rfl at_26) hK hP hS rfl hl.1 rfl (Nat.le_of_ble_eq_true rfl) dX2_pour_67 ⟨Nat.le_of_ble_eq_true rfl, Nat.le_of_ble_eq_true rfl⟩ (fun r4 σ_5 H locs hr4 hP hS => ?_)
        obtain ⟨hpa, ehr4⟩ := hr4
        rw [ehr4] at hP
        obtain ⟨rfl, hpl⟩ := pa_at hI.2.2.1 ha (by omega) hpa
        clear hpa
        refine lv_istore (lv' := [(7, .int (nI (U1 a (p1)))), (6, .int (nI (i))), (5, .int (nI (N a))), (4, .int (nI (p1))), (3, .int (nI (g1))), (0, .ref (e_a E (26))), (1, .int (nI (a))), (2, .int (nI (b)))]) hx hb dX2_pour_70 hl (by decide) rfl (fun ls hl => ?_)
        refine lv_aload_n hx hb dX2_pour_72 rfl (lv_at hl 5 rfl) ?_
        refine lv_iload_n hx hb dX2_pour_73 rfl (lv_at hl 7 rfl) ?_
        refine k_Vi (As := [.int (nI (b))]) (rest := []) ⟨hx, hb, hml, hown, hts⟩ (mtX2_many l E hok σ1 o (nI (b))) (cwV 1 hts gX2_pour_X2_many rfl rfl rfl (by decide +kernel) ⟨Nat.le_of_ble_eq_true rfl, Nat.le_of_ble_eq_true rfl⟩) (va_recv hK.K hP (ci := 2) (q0 := 26) rfl at_26) hK hP hS rfl hl.1 rfl (Nat.le_of_ble_eq_true rfl) dX2_pour_74 ⟨Nat.le_of_ble_eq_true rfl, Nat.le_of_ble_eq_true rfl⟩ (fun r6 σ_7 H locs hr6 hP hS => ?_)
        obtain ⟨zhr6, ehr6⟩ := hr6
        rw [ehr6] at hP
        have zhr6 : r6 = nI (ct (fHome (σ1 27) (nI (b))) 96) := zhr6
        subst zhr6
        rw [mi_many hI.2.2.1 hb8]
        refine lv_bipush (v := 12) hx hb dX2_pour_77 (by decide) ?_
        refine nb_ge (i := N1 b) (j := 12) hx hb rfl rfl (by omega) (by omega) dX2_pour_79 (tgt := 139) (by decide) (fun c79 => ?_) (fun c79 => ?_)
        · skip
          refine lv_iinc (v := nI (p1 + 1)) (lv' := [(4, .int (nI (p1 + 1))), (7, .int (nI (U1 a (p1)))), (6, .int (nI (i))), (5, .int (nI (N a))), (3, .int (nI (g1))), (0, .ref (e_a E (26))), (1, .int (nI (a))), (2, .int (nI (b)))]) hx hb dX2_pour_139 hl (k := 3) rfl (by exact nI_add (p1) 1) (by decide) rfl (fun ls hl => ?_)
          refine lv_iinc (v := nI (i + 1)) (lv' := [(6, .int (nI (i + 1))), (4, .int (nI (p1 + 1))), (7, .int (nI (U1 a (p1)))), (5, .int (nI (N a))), (3, .int (nI (g1))), (0, .ref (e_a E (26))), (1, .int (nI (a))), (2, .int (nI (b)))]) hx hb dX2_pour_142 hl (k := 2) rfl (by exact nI_add (i) 1) (by decide) rfl (fun ls hl => ?_)
          refine lv_goto (tgt := 56) hx hb dX2_pour_145 (by decide) ?_
          exact IH ((i + 1), (p1 + 1), (g1), (σ1), (U1), (N1), (C1)) (show (i + 1) ≤ N a ∧ (p1 + 1) + (g1) = (i + 1) ∧ MIx ((σ1) 27) ((σ1) 28) ((σ1) 30) (U1) (N1) (C1) ∧ (σ1) 26 5 = nI (C1) ∧ (C1) ≤ C + (i + 1) ∧ (N1) a = N a - (g1) ∧ pstepsM a b (i + 1) (m_up σ 26 0 0) U N C 0 (σ1) (U1) (N1) (C1) (p1 + 1) from ⟨by omega, by omega, hI.2.2.1, hI.2.2.2.1, by omega, hI.2.2.2.2.2.1, σ1, U1, N1, C1, p1, hI.2.2.2.2.2.2, Or.inl ⟨Or.inl c79, rfl, rfl, rfl, rfl, rfl⟩⟩) (by (try dsimp only); omega) _ _ _ hP hS (lv_sub hl [0, 3, 1, 4, 5, 6, 7] rfl)
        · skip
          refine lv_aload_n hx hb dX2_pour_82 rfl (lv_at hl 5 rfl) ?_
          refine lv_aload_n hx hb dX2_pour_83 rfl (lv_at hl 5 rfl) ?_
          refine q_get (C := RX2) (T := TX2) (N := 20) (ci := 2) (v := .ref (e_a E (28))) hx hb hts hinX2 hown hK hP at_26 rfl 2 (by decide) hf13 rfl dX2_pour_84 ?_
          refine lv_iload hx hb dX2_pour_87 (lv_at hl 0 rfl) ?_
          refine q_ld hx hb hK hP at_28 (i := U1 a (p1)) rfl (by omega) (by decide) dX2_pour_89 ?_
          refine lv_aload_n hx hb dX2_pour_90 rfl (lv_at hl 5 rfl) ?_
          refine q_get (C := RX2) (T := TX2) (N := 20) (ci := 2) (v := .ref (e_a E (29))) hx hb hts hinX2 hown hK hP at_26 rfl 3 (by decide) hf16 rfl dX2_pour_91 ?_
          refine lv_iload hx hb dX2_pour_94 (lv_at hl 0 rfl) ?_
          refine q_ld hx hb hK hP at_29 (i := U1 a (p1)) rfl (by omega) (by decide) dX2_pour_96 ?_
          refine lv_iload_n hx hb dX2_pour_97 rfl (lv_at hl 7 rfl) ?_
          refine k_Vi (As := [.int (σ1 (28) (U1 a (p1))), .int (σ1 (29) (U1 a (p1))), .int (nI (b))]) (rest := []) ⟨hx, hb, hml, hown, hts⟩ (mtX2_fitsChute l E hok σ1 o (σ1 (28) (U1 a (p1))) (σ1 (29) (U1 a (p1))) b (by omega)) (cwV 3 hts gX2_pour_X2_fitsChute rfl rfl rfl (by decide +kernel) ⟨Nat.le_of_ble_eq_true rfl, Nat.le_of_ble_eq_true rfl⟩) (va_recv hK.K hP (ci := 2) (q0 := 26) rfl at_26) hK hP hS rfl hl.1 rfl (Nat.le_of_ble_eq_true rfl) dX2_pour_98 ⟨Nat.le_of_ble_eq_true rfl, Nat.le_of_ble_eq_true rfl⟩ (fun r8 σ_9 H locs hr8 hP hS => ?_)
          obtain ⟨zhr8, ehr8⟩ := hr8
          rw [ehr8] at hP
          have zhr8 : r8 = fitM (σ1 31 (b)) (σ1 32 (b)) (σ1 33 (b)) (σ1 34 (b)) (σ1 (28) (U1 a (p1))) (σ1 (29) (U1 a (p1))) := zhr8
          subst zhr8
          refine lv_if_eq (tgt := 139) hx hb dX2_pour_101 (by decide) (fun c101 => ?_) (fun c101 => ?_)
          · skip
            refine lv_iinc (v := nI (p1 + 1)) (lv' := [(4, .int (nI (p1 + 1))), (7, .int (nI (U1 a (p1)))), (6, .int (nI (i))), (5, .int (nI (N a))), (3, .int (nI (g1))), (0, .ref (e_a E (26))), (1, .int (nI (a))), (2, .int (nI (b)))]) hx hb dX2_pour_139 hl (k := 3) rfl (by exact nI_add (p1) 1) (by decide) rfl (fun ls hl => ?_)
            refine lv_iinc (v := nI (i + 1)) (lv' := [(6, .int (nI (i + 1))), (4, .int (nI (p1 + 1))), (7, .int (nI (U1 a (p1)))), (5, .int (nI (N a))), (3, .int (nI (g1))), (0, .ref (e_a E (26))), (1, .int (nI (a))), (2, .int (nI (b)))]) hx hb dX2_pour_142 hl (k := 2) rfl (by exact nI_add (i) 1) (by decide) rfl (fun ls hl => ?_)
            refine lv_goto (tgt := 56) hx hb dX2_pour_145 (by decide) ?_
            exact IH ((i + 1), (p1 + 1), (g1), (σ1), (U1), (N1), (C1)) (show (i + 1) ≤ N a ∧ (p1 + 1) + (g1) = (i + 1) ∧ MIx ((σ1) 27) ((σ1) 28) ((σ1) 30) (U1) (N1) (C1) ∧ (σ1) 26 5 = nI (C1) ∧ (C1) ≤ C + (i + 1) ∧ (N1) a = N a - (g1) ∧ pstepsM a b (i + 1) (m_up σ 26 0 0) U N C 0 (σ1) (U1) (N1) (C1) (p1 + 1) from ⟨by omega, by omega, hI.2.2.1, hI.2.2.2.1, by omega, hI.2.2.2.2.2.1, σ1, U1, N1, C1, p1, hI.2.2.2.2.2.2, Or.inl ⟨Or.inr c101, rfl, rfl, rfl, rfl, rfl⟩⟩) (by (try dsimp only); omega) _ _ _ hP hS (lv_sub hl [0, 3, 1, 4, 5, 6, 7] rfl)
          · skip
            obtain ⟨q, hq⟩ := plU_ex (σ1 28) (U1 b) (N1 b) (σ1 28 (U1 a p1))
            refine lv_aload_n hx hb dX2_pour_104 rfl (lv_at hl 5 rfl) ?_
            refine q_get (C := RX2) (T := TX2) (N := 20) (ci := 2) (v := .ref (e_a E (27))) hx hb hts hinX2 hown hK hP at_26 rfl 1 (by decide) hf7 rfl dX2_pour_105 ?_
            refine lv_iload hx hb dX2_pour_108 (lv_at hl 0 rfl) ?_
            refine lv_iload_n hx hb dX2_pour_110 rfl (lv_at hl 7 rfl) ?_
            refine q_st hx hb hok hK hP hS at_27 (fun _ => rfl) (by decide) (i := U1 a (p1)) rfl (by omega) (by decide) dX2_pour_111 (fun H locs hP hS => ?_)
            refine lv_aload_n hx hb dX2_pour_112 rfl (lv_at hl 5 rfl) ?_
            refine q_get (C := RX2) (T := TX2) (N := 20) (ci := 2) (v := .ref (e_a E (30))) hx hb hts hinX2 hown hK hP at_26 rfl 4 (by decide) hf19 rfl dX2_pour_113 ?_
            refine lv_iload hx hb dX2_pour_116 (lv_at hl 0 rfl) ?_
            refine lv_aload_n hx hb dX2_pour_118 rfl (lv_at hl 5 rfl) ?_
            refine q_get (C := RX2) (T := TX2) (N := 20) (ci := 2) (v := .int (σ1 (26) 5)) hx hb hts hinX2 hown hK hP at_26 rfl 5 (by decide) hf62 rfl dX2_pour_119 ?_
            refine q_st hx hb hok hK hP hS at_30 (fun _ => rfl) (by decide) (i := U1 a (p1)) rfl (by omega) (by decide) dX2_pour_122 (fun H locs hP hS => ?_)
            refine lv_aload_n hx hb dX2_pour_123 rfl (lv_at hl 5 rfl) ?_
            refine lv_dup hx hb dX2_pour_124 rfl ?_
            refine q_get (C := RX2) (T := TX2) (N := 20) (ci := 2) (v := .int (σ1 (26) 5)) hx hb hts hinX2 hown hK hP at_26 rfl 5 (by decide) hf62 rfl dX2_pour_125 ?_
            refine lv_iconst (v := 1) hx hb dX2_pour_128 (by decide) ?_
            refine lv_iadd hx hb dX2_pour_129 ?_
            refine q_put (C := RX2) (T := TX2) (N := 20) (ci := 2) (ty := .int) (v := (σ1 (26) 5) + 1) hx hb hts hinX2 tyX2 tyX2_ok nmX2 hown hok hK hP hS at_26 (by decide) rfl 5 (by decide) hf62 rfl (tyX2_ok 5 (by decide)) rfl rfl (Nat.le_of_ble_eq_true rfl) rfl dX2_pour_130 (fun H locs hP hS => ?_)
            refine lv_iinc (v := nI (g1 + 1)) (lv' := [(3, .int (nI (g1 + 1))), (7, .int (nI (U1 a (p1)))), (6, .int (nI (i))), (5, .int (nI (N a))), (4, .int (nI (p1))), (0, .ref (e_a E (26))), (1, .int (nI (a))), (2, .int (nI (b)))]) hx hb dX2_pour_133 hl (k := 4) rfl (by exact nI_add (g1) 1) (by decide) rfl (fun ls hl => ?_)
            refine lv_goto (tgt := 142) hx hb dX2_pour_136 (by decide) ?_
            refine lv_iinc (v := nI (i + 1)) (lv' := [(6, .int (nI (i + 1))), (3, .int (nI (g1 + 1))), (7, .int (nI (U1 a (p1)))), (5, .int (nI (N a))), (4, .int (nI (p1))), (0, .ref (e_a E (26))), (1, .int (nI (a))), (2, .int (nI (b)))]) hx hb dX2_pour_142 hl (k := 2) rfl (by exact nI_add (i) 1) (by decide) rfl (fun ls hl => ?_)
            refine lv_goto (tgt := 56) hx hb dX2_pour_145 (by decide) ?_
            exact IH ((i + 1), (p1), (g1 + 1), (m_mov σ1 (U1 a p1) (nI b)), (insU (remU U1 a p1 (N1 a)) b q (N1 b) (U1 a p1)), (addN (subN N1 a) b), (C1 + 1)) (show (i + 1) ≤ N a ∧ (p1) + (g1 + 1) = (i + 1) ∧ MIx ((m_mov σ1 (U1 a p1) (nI b)) 27) ((m_mov σ1 (U1 a p1) (nI b)) 28) ((m_mov σ1 (U1 a p1) (nI b)) 30) (insU (remU U1 a p1 (N1 a)) b q (N1 b) (U1 a p1)) (addN (subN N1 a) b) (C1 + 1) ∧ (m_mov σ1 (U1 a p1) (nI b)) 26 5 = nI (C1 + 1) ∧ (C1 + 1) ≤ C + (i + 1) ∧ (addN (subN N1 a) b) a = N a - (g1 + 1) ∧ pstepsM a b (i + 1) (m_up σ 26 0 0) U N C 0 (m_mov σ1 (U1 a p1) (nI b)) (insU (remU U1 a p1 (N1 a)) b q (N1 b) (U1 a p1)) (addN (subN N1 a) b) (C1 + 1) (p1) from ⟨by omega, by omega, by have hz := mi_mov hI.2.2.1 ha hb8 hab (by omega) c79 (by omega) hq; rw [← hI.2.2.2.1] at hz; exact hz, by show σ1 26 5 + 1 = nI (C1 + 1); rw [hI.2.2.2.1]; exact nI_1 C1, by omega, by simp [addN, subN, hab]; omega, σ1, U1, N1, C1, p1, hI.2.2.2.2.2.2, Or.inr ⟨c79, c101, q, hq, rfl, rfl, rfl, rfl, rfl⟩⟩) (by (try dsimp only); omega) _ _ _ hP hS (lv_sub hl [0, 3, 4, 1, 5, 6, 7] rfl)
    · skip
      refine lv_iconst (v := 0) hx hb dX2_pour_39 (by decide) ?_
      exact r_i hx hb hr hlocks hP hS dX2_pour_40 (Or.inl ⟨c36, rfl, rfl⟩)
  refine k_Si (As := [.int (x)]) (rest := [.ref (e_a E (26))]) ⟨hx, hb, hml, hown, hts⟩ (mtX2_isChute l x) (va_cwS 1 hts gX2_pour_X2_isChute rfl rfl rfl (by decide +kernel) ⟨Nat.le_of_ble_eq_true rfl, Nat.le_of_ble_eq_true rfl⟩) rfl hl.1 rfl (Nat.le_of_ble_eq_true rfl) dX2_pour_2 ⟨Nat.le_of_ble_eq_true rfl, Nat.le_of_ble_eq_true rfl⟩ (fun r10 er10 => ?_)
  subst er10
  refine lv_if_eq (tgt := 15) hx hb dX2_pour_5 (by decide) (fun c5 => ?_) (fun c5 => ?_)
  · skip
    refine lv_iconst (v := 1) hx hb dX2_pour_15 (by decide) ?_
    refine lv_goto (tgt := 29) hx hb dX2_pour_16 (by decide) ?_
    exact J29 _ _ _ (by simp [tR, c5]) hP hS
  · skip
    refine lv_iload_n hx hb dX2_pour_8 rfl (lv_at hl 2 rfl) ?_
    refine k_Si (As := [.int (y)]) (rest := [.ref (e_a E (26))]) ⟨hx, hb, hml, hown, hts⟩ (mtX2_isChute l y) (va_cwS 1 hts gX2_pour_X2_isChute rfl rfl rfl (by decide +kernel) ⟨Nat.le_of_ble_eq_true rfl, Nat.le_of_ble_eq_true rfl⟩) rfl hl.1 rfl (Nat.le_of_ble_eq_true rfl) dX2_pour_9 ⟨Nat.le_of_ble_eq_true rfl, Nat.le_of_ble_eq_true rfl⟩ (fun r11 er11 => ?_)
    subst er11
    refine lv_if_ne (tgt := 19) hx hb dX2_pour_12 (by decide) (fun c12 => ?_) (fun c12 => ?_)
    · skip
      refine lv_iload_n hx hb dX2_pour_19 rfl (lv_at hl 1 rfl) ?_
      refine lv_iload_n hx hb dX2_pour_20 rfl (lv_at hl 2 rfl) ?_
      refine lv_icmp_ne (tgt := 28) hx hb dX2_pour_21 (by decide) (fun c21 => ?_) (fun c21 => ?_)
      · skip
        refine lv_iconst (v := 0) hx hb dX2_pour_28 (by decide) ?_
        exact J29 _ _ _ (by simp [tR, c5, c12, c21]) hP hS
      · skip
        refine lv_iconst (v := 2) hx hb dX2_pour_24 (by decide) ?_
        refine lv_goto (tgt := 29) hx hb dX2_pour_25 (by decide) ?_
        exact J29 _ _ _ (by simp [tR, c5, c12, c21]) hP hS
    · skip
      refine lv_iconst (v := 1) hx hb dX2_pour_15 (by decide) ?_
      refine lv_goto (tgt := 29) hx hb dX2_pour_16 (by decide) ?_
      exact J29 _ _ _ (by simp [tR, c5, c12]) hP hS
set_option maxHeartbeats 4000000 in
set_option maxRecDepth 100000 in
/-- sweep -/
theorem mtX2_sweep (l : Launch) (E : Ev) (hok : e_ok E) (σ : Mem) (o : Nat → Int64) (x : Int32) (U : Nat → Nat → Nat) (N : Nat → Nat) (C : Nat) (M0 : MIx (σ 27) (σ 28) (σ 30) U N C) (hC0 : σ 26 5 = nI C) (hCb : C < 100000) : Met l yX2_sweep wsX2_sweep ({ frames := 3, cells := 0, slots := 0, locals := 69 } : Room) (PW E σ o [.ref (e_a E (26)), .int (x)]) (va_Qi (fun (r : Int32) (σ' : Mem) => (tC x ≠ 0 ∧ r = 0 ∧ σ' = m_up σ 26 0 (tC x)) ∨ (tC x = 0 ∧ ∃ a : Nat, a < 8 ∧ x = nI a ∧ ∃ (U' : Nat → Nat → Nat) (N' : Nat → Nat) (p' : Nat), p' ≤ N a ∧ r = nI (N a - p') ∧ MIx (σ' 27) (σ' 28) (σ' 30) U' N' C ∧ σ' 26 5 = nI C ∧ sstepsM a (N a) (m_up σ 26 0 0) U N 0 σ' U' N' p')) (BW E o) (LB (e_B E))) 0 0 (LB (e_B E)) := by
  refine Met.ofW (cc := cX2_sweep) (maxL := 6) (ret := (some .int)) (by decide) rfl ?_
  intro p e s m args below meth c s₁ B hml hv
  obtain ⟨rfl, hP, hK⟩ := hv
  have hx := B.exec
  have hb := B.bytes
  have hr := B.returns
  have hts := atoms_spec (ws := wsX2_sweep) B.pre
  have hown : s.vm.findClass RX2 = some m.cls := findClass_of_methodNamed B.named
  have hlocks := B.notSynchronized
  have hS : va_S (LB (e_B E)) s.heap s.heap [] := va_S.rf
  have hinX2 : ∀ w ∈ wsX20, w ∈ wsX2_sweep := fun w h => by simp only [wsX2_sweep, List.mem_cons, List.mem_append, h, or_true, true_or]
  have hf7 := hts (.fieldLink RX2 7 "ParcelChutesModel" "home" "[I") (by decide +kernel)
  have hf13 := hts (.fieldLink RX2 13 "ParcelChutesModel" "heavy" "[I") (by decide +kernel)
  have hf16 := hts (.fieldLink RX2 16 "ParcelChutesModel" "round" "[I") (by decide +kernel)
  have hf38 := hts (.fieldLink RX2 38 "ParcelChutesModel" "thrown" "I") (by decide +kernel)
  have hl := lv_entry ([.ref (e_a E (26)), .int (x)]) (n := 6) (Nat.le_of_ble_eq_true rfl)
  rw [lg_entry_eq]
  generalize (lg_sl ([.ref (e_a E (26)), .int (x)]) ++ List.replicate (6 - (lg_sl ([.ref (e_a E (26)), .int (x)])).length) Slot.unset).toArray = ls at hl ⊢
  have hl : lv_has ls 6 [(0, .ref (e_a E (26))), (1, .int (x))] := hl
  refine lv_aload_n hx hb dX2_sweep_0 rfl (lv_at hl 0 rfl) ?_
  refine lv_iload_n hx hb dX2_sweep_1 rfl (lv_at hl 1 rfl) ?_
  refine cut_w (ls := ls) (E := E) (o := o) (σ := σ) (pcj := 13) (rest := [.ref (e_a E (26))]) (P := fun vv : Int32 => vv = tC x) ?_ (fun J13 => ?_)
  · intro v1 H locs ev1 hP hS
    subst ev1
    refine q_put (C := RX2) (T := TX2) (N := 20) (ci := 2) (ty := .int) (v := tC x) hx hb hts hinX2 tyX2 tyX2_ok nmX2 hown hok hK hP hS at_26 (by decide) rfl 0 (by decide) hf38 rfl (tyX2_ok 0 (by decide)) rfl rfl (Nat.le_of_ble_eq_true rfl) rfl dX2_sweep_13 (fun H locs hP hS => ?_)
    refine lv_aload_n hx hb dX2_sweep_16 rfl (lv_at hl 0 rfl) ?_
    refine q_get (C := RX2) (T := TX2) (N := 20) (ci := 2) (v := .int (tC x)) hx hb hts hinX2 hown hK hP at_26 rfl 0 (by decide) hf38 rfl dX2_sweep_17 ?_
    refine lv_if_eq (tgt := 25) hx hb dX2_sweep_20 (by decide) (fun c20 => ?_) (fun c20 => ?_)
    · skip
      obtain ⟨a, ha, rfl⟩ := tC_ch c20
      rw [c20] at hP
      have h12a := (M0.1 a ha).2.1
      refine lv_iconst (v := 0) hx hb dX2_sweep_25 (by decide) ?_
      refine lv_istore_n (lv' := [(2, .int (0)), (0, .ref (e_a E (26))), (1, .int (nI (a)))]) hx hb dX2_sweep_26 rfl hl (by decide) rfl (fun ls hl => ?_)
      refine lv_aload_n hx hb dX2_sweep_27 rfl (lv_at hl 1 rfl) ?_
      refine lv_iload_n hx hb dX2_sweep_28 rfl (lv_at hl 2 rfl) ?_
      refine k_Vi (As := [.int (nI (a))]) (rest := []) ⟨hx, hb, hml, hown, hts⟩ (mtX2_many l E hok (m_up σ 26 0 0) o (nI (a))) (cwV 1 hts gX2_sweep_X2_many rfl rfl rfl (by decide +kernel) ⟨Nat.le_of_ble_eq_true rfl, Nat.le_of_ble_eq_true rfl⟩) (va_recv hK.K hP (ci := 2) (q0 := 26) rfl at_26) hK hP hS rfl hl.1 rfl (Nat.le_of_ble_eq_true rfl) dX2_sweep_29 ⟨Nat.le_of_ble_eq_true rfl, Nat.le_of_ble_eq_true rfl⟩ (fun r2 σ_3 H locs hr2 hP hS => ?_)
      obtain ⟨zhr2, ehr2⟩ := hr2
      rw [ehr2] at hP
      have zhr2 : r2 = nI (ct (fHome (σ (27)) (nI (a))) 96) := zhr2
      subst zhr2
      rw [mi_many M0 ha]
      refine lv_istore_n (lv' := [(3, .int (nI (N a))), (2, .int (0)), (0, .ref (e_a E (26))), (1, .int (nI (a)))]) hx hb dX2_sweep_32 rfl hl (by decide) rfl (fun ls hl => ?_)
      refine lv_iconst (v := 0) hx hb dX2_sweep_33 (by decide) ?_
      refine lv_istore (lv' := [(4, .int (0)), (3, .int (nI (N a))), (2, .int (0)), (0, .ref (e_a E (26))), (1, .int (nI (a)))]) hx hb dX2_sweep_34 hl (by decide) rfl (fun ls hl => ?_)
      refine w_loop (E := E) (o := o) (ι := Nat × Nat × Mem × (Nat → Nat → Nat) × (Nat → Nat)) (μ := fun (i, g1, σ1, U1, N1) => 12 - i) (I := fun (i, g1, σ1, U1, N1) => i ≤ N a ∧ g1 ≤ i ∧ MIx (σ1 27) (σ1 28) (σ1 30) U1 N1 C ∧ σ1 26 5 = nI C ∧ N1 a = N a - g1 ∧ sstepsM a i (m_up σ 26 0 0) U N 0 σ1 U1 N1 (i - g1)) (mem := fun (i, g1, σ1, U1, N1) => σ1) (lv := fun (i, g1, σ1, U1, N1) => [(4, .int (nI (i))), (3, .int (nI (N a))), (2, .int (nI (g1))), (0, .ref (e_a E (26))), (1, .int (nI (a)))]) (nL := 6) (pch := 36) ?_ ((0), (0), (m_up σ 26 0 0), (U), (N)) (show (0) ≤ N a ∧ (0) ≤ (0) ∧ MIx ((m_up σ 26 0 0) 27) ((m_up σ 26 0 0) 28) ((m_up σ 26 0 0) 30) (U) (N) C ∧ (m_up σ 26 0 0) 26 5 = nI C ∧ (N) a = N a - (0) ∧ sstepsM a (0) (m_up σ 26 0 0) U N 0 (m_up σ 26 0 0) (U) (N) ((0) - (0)) from ⟨Nat.zero_le _, Nat.le_refl _, M0, hC0, by omega, rfl, rfl, rfl, rfl⟩) hP hS (lv_sub hl [0, 1, 2, 3, 4] rfl)
      rintro ⟨i, g1, σ1, U1, N1⟩ hI IH H locs ls hP hS hl
      have hP : va_P (e_D E) vwCl (wd E σ1 o) H := hP
      have hl : lv_has ls 6 [(4, .int (nI (i))), (3, .int (nI (N a))), (2, .int (nI (g1))), (0, .ref (e_a E (26))), (1, .int (nI (a)))] := hl
      have hI : i ≤ N a ∧ g1 ≤ i ∧ MIx (σ1 27) (σ1 28) (σ1 30) U1 N1 C ∧ σ1 26 5 = nI C ∧ N1 a = N a - g1 ∧ sstepsM a i (m_up σ 26 0 0) U N 0 σ1 U1 N1 (i - g1) := hI
      have h1a := (hI.2.2.1.1 a ha).2.1
      have h1s := hI.2.2.2.2.1
      refine lv_iload hx hb dX2_sweep_36 (lv_at hl 0 rfl) ?_
      refine lv_iload_n hx hb dX2_sweep_38 rfl (lv_at hl 1 rfl) ?_
      refine nb_ge (i := i) (j := N a) hx hb rfl rfl (by omega) (by omega) dX2_sweep_39 (tgt := 110) (by decide) (fun c39 => ?_) (fun c39 => ?_)
      · skip
        refine lv_iload_n hx hb dX2_sweep_110 rfl (lv_at hl 2 rfl) ?_
        exact r_i hx hb hr hlocks hP hS dX2_sweep_111 (by
      have hi : i = N a := by omega
      subst hi
      exact Or.inr ⟨c20, a, ha, rfl, U1, N1, N a - g1, by omega, by rw [show N a - (N a - g1) = g1 by omega], hI.2.2.1, hI.2.2.2.1, hI.2.2.2.2.2⟩)
      · skip
        refine lv_aload_n hx hb dX2_sweep_42 rfl (lv_at hl 3 rfl) ?_
        refine lv_iload_n hx hb dX2_sweep_43 rfl (lv_at hl 4 rfl) ?_
        refine lv_iload hx hb dX2_sweep_44 (lv_at hl 0 rfl) ?_
        refine lv_iload_n hx hb dX2_sweep_46 rfl (lv_at hl 2 rfl) ?_
        refine lv_isub hx hb dX2_sweep_47 ?_
        refine k_Vi (As := [.int (nI (a)), .int ((nI (i)) - (nI (g1)))]) (rest := []) ⟨hx, hb, hml, hown, hts⟩ (mtX2_parcelAt l E hok σ1 o (nI (a)) ((nI (i)) - (nI (g1)))) (cwV 2 hts gX2_sweep_X2_parcelAt rfl rfl rfl (by decide +kernel) ⟨Nat.le_of_ble_eq_true rfl, Nat.le_of_ble_eq_true rfl⟩) (va_recv hK.K hP (ci := 2) (q0 := 26) rfl at_26) hK hP hS rfl hl.1 rfl (Nat.le_of_ble_eq_true rfl) dX2_sweep_48 ⟨Nat.le_of_ble_eq_true rfl, Nat.le_of_ble_eq_true rfl⟩ (fun r4 σ_5 H locs hr4 hP hS => ?_)
        obtain ⟨hpa, ehr4⟩ := hr4
        rw [ehr4] at hP
        rw [show nI i - nI g1 = nI (i - g1) from pk_sub (by omega)] at hpa
        obtain ⟨rfl, hpl⟩ := pa_at hI.2.2.1 ha (by omega) hpa
        clear hpa
        refine lv_istore (lv' := [(5, .int (nI (U1 a (i - g1)))), (4, .int (nI (i))), (3, .int (nI (N a))), (2, .int (nI (g1))), (0, .ref (e_a E (26))), (1, .int (nI (a)))]) hx hb dX2_sweep_51 hl (by decide) rfl (fun ls hl => ?_)
        refine lv_aload_n hx hb dX2_sweep_53 rfl (lv_at hl 4 rfl) ?_
        refine lv_aload_n hx hb dX2_sweep_54 rfl (lv_at hl 4 rfl) ?_
        refine q_get (C := RX2) (T := TX2) (N := 20) (ci := 2) (v := .ref (e_a E (28))) hx hb hts hinX2 hown hK hP at_26 rfl 2 (by decide) hf13 rfl dX2_sweep_55 ?_
        refine lv_iload hx hb dX2_sweep_58 (lv_at hl 0 rfl) ?_
        refine q_ld hx hb hK hP at_28 (i := U1 a (i - g1)) rfl (by omega) (by decide) dX2_sweep_60 ?_
        refine lv_aload_n hx hb dX2_sweep_61 rfl (lv_at hl 4 rfl) ?_
        refine q_get (C := RX2) (T := TX2) (N := 20) (ci := 2) (v := .ref (e_a E (29))) hx hb hts hinX2 hown hK hP at_26 rfl 3 (by decide) hf16 rfl dX2_sweep_62 ?_
        refine lv_iload hx hb dX2_sweep_65 (lv_at hl 0 rfl) ?_
        refine q_ld hx hb hK hP at_29 (i := U1 a (i - g1)) rfl (by omega) (by decide) dX2_sweep_67 ?_
        refine lv_iload_n hx hb dX2_sweep_68 rfl (lv_at hl 5 rfl) ?_
        refine k_Vi (As := [.int (σ1 (28) (U1 a (i - g1))), .int (σ1 (29) (U1 a (i - g1))), .int (nI (a))]) (rest := []) ⟨hx, hb, hml, hown, hts⟩ (mtX2_fitsChute l E hok σ1 o (σ1 (28) (U1 a (i - g1))) (σ1 (29) (U1 a (i - g1))) a (by omega)) (cwV 3 hts gX2_sweep_X2_fitsChute rfl rfl rfl (by decide +kernel) ⟨Nat.le_of_ble_eq_true rfl, Nat.le_of_ble_eq_true rfl⟩) (va_recv hK.K hP (ci := 2) (q0 := 26) rfl at_26) hK hP hS rfl hl.1 rfl (Nat.le_of_ble_eq_true rfl) dX2_sweep_69 ⟨Nat.le_of_ble_eq_true rfl, Nat.le_of_ble_eq_true rfl⟩ (fun r6 σ_7 H locs hr6 hP hS => ?_)
        obtain ⟨zhr6, ehr6⟩ := hr6
        rw [ehr6] at hP
        have zhr6 : r6 = fitM (σ1 31 (a)) (σ1 32 (a)) (σ1 33 (a)) (σ1 34 (a)) (σ1 (28) (U1 a (i - g1))) (σ1 (29) (U1 a (i - g1))) := zhr6
        subst zhr6
        refine lv_if_ne (tgt := 104) hx hb dX2_sweep_72 (by decide) (fun c72 => ?_) (fun c72 => ?_)
        · skip
          refine lv_iinc (v := nI (i + 1)) (lv' := [(4, .int (nI (i + 1))), (5, .int (nI (U1 a (i - g1)))), (3, .int (nI (N a))), (2, .int (nI (g1))), (0, .ref (e_a E (26))), (1, .int (nI (a)))]) hx hb dX2_sweep_104 hl (k := 1) rfl (by exact nI_add (i) 1) (by decide) rfl (fun ls hl => ?_)
          refine lv_goto (tgt := 36) hx hb dX2_sweep_107 (by decide) ?_
          exact IH ((i + 1), (g1), (σ1), (U1), (N1)) (show (i + 1) ≤ N a ∧ (g1) ≤ (i + 1) ∧ MIx ((σ1) 27) ((σ1) 28) ((σ1) 30) (U1) (N1) C ∧ (σ1) 26 5 = nI C ∧ (N1) a = N a - (g1) ∧ sstepsM a (i + 1) (m_up σ 26 0 0) U N 0 (σ1) (U1) (N1) ((i + 1) - (g1)) from ⟨by omega, by omega, hI.2.2.1, hI.2.2.2.1, hI.2.2.2.2.1, σ1, U1, N1, i - g1, hI.2.2.2.2.2, Or.inl ⟨c72, rfl, rfl, rfl, by omega⟩⟩) (by (try dsimp only); omega) _ _ _ hP hS (lv_sub hl [0, 2, 3, 4, 5] rfl)
        · skip
          refine lv_aload_n hx hb dX2_sweep_75 rfl (lv_at hl 4 rfl) ?_
          refine lv_aload_n hx hb dX2_sweep_76 rfl (lv_at hl 4 rfl) ?_
          refine q_get (C := RX2) (T := TX2) (N := 20) (ci := 2) (v := .ref (e_a E (28))) hx hb hts hinX2 hown hK hP at_26 rfl 2 (by decide) hf13 rfl dX2_sweep_77 ?_
          refine lv_iload hx hb dX2_sweep_80 (lv_at hl 0 rfl) ?_
          refine q_ld hx hb hK hP at_28 (i := U1 a (i - g1)) rfl (by omega) (by decide) dX2_sweep_82 ?_
          refine lv_aload_n hx hb dX2_sweep_83 rfl (lv_at hl 4 rfl) ?_
          refine q_get (C := RX2) (T := TX2) (N := 20) (ci := 2) (v := .ref (e_a E (29))) hx hb hts hinX2 hown hK hP at_26 rfl 3 (by decide) hf16 rfl dX2_sweep_84 ?_
          refine lv_iload hx hb dX2_sweep_87 (lv_at hl 0 rfl) ?_
          refine q_ld hx hb hK hP at_29 (i := U1 a (i - g1)) rfl (by omega) (by decide) dX2_sweep_89 ?_
          refine k_Vv (As := [.int (σ1 (28) (U1 a (i - g1))), .int (σ1 (29) (U1 a (i - g1)))]) (rest := []) ⟨hx, hb, hml, hown, hts⟩ (mtX2_putAside l E hok σ1 o (σ1 (28) (U1 a (i - g1))) (σ1 (29) (U1 a (i - g1)))) (cwV 2 hts gX2_sweep_X2_putAside rfl rfl rfl (by decide +kernel) ⟨Nat.le_of_ble_eq_true rfl, Nat.le_of_ble_eq_true rfl⟩) (va_recv hK.K hP (ci := 2) (q0 := 26) rfl at_26) hK hP hS rfl hl.1 rfl (Nat.le_of_ble_eq_true rfl) dX2_sweep_90 ⟨Nat.le_of_ble_eq_true rfl, Nat.le_of_ble_eq_true rfl⟩ (fun σ_8 H locs hσ_8 hP hS => ?_)
          subst hσ_8
          refine lv_aload_n hx hb dX2_sweep_93 rfl (lv_at hl 4 rfl) ?_
          refine q_get (C := RX2) (T := TX2) (N := 20) (ci := 2) (v := .ref (e_a E (27))) hx hb hts hinX2 hown hK hP at_26 rfl 1 (by decide) hf7 rfl dX2_sweep_94 ?_
          refine lv_iload hx hb dX2_sweep_97 (lv_at hl 0 rfl) ?_
          refine lv_iconst (v := (-1)) hx hb dX2_sweep_99 (by decide) ?_
          refine q_st hx hb hok hK hP hS at_27 (fun _ => rfl) (by decide) (i := U1 a (i - g1)) rfl (by omega) (by decide) dX2_sweep_100 (fun H locs hP hS => ?_)
          refine lv_iinc (v := nI (g1 + 1)) (lv' := [(2, .int (nI (g1 + 1))), (5, .int (nI (U1 a (i - g1)))), (4, .int (nI (i))), (3, .int (nI (N a))), (0, .ref (e_a E (26))), (1, .int (nI (a)))]) hx hb dX2_sweep_101 hl (k := 3) rfl (by exact nI_add (g1) 1) (by decide) rfl (fun ls hl => ?_)
          refine lv_iinc (v := nI (i + 1)) (lv' := [(4, .int (nI (i + 1))), (2, .int (nI (g1 + 1))), (5, .int (nI (U1 a (i - g1)))), (3, .int (nI (N a))), (0, .ref (e_a E (26))), (1, .int (nI (a)))]) hx hb dX2_sweep_104 hl (k := 2) rfl (by exact nI_add (i) 1) (by decide) rfl (fun ls hl => ?_)
          refine lv_goto (tgt := 36) hx hb dX2_sweep_107 (by decide) ?_
          exact IH ((i + 1), (g1 + 1), (m_up (asM σ1 (σ1 28 (U1 a (i - g1))) (σ1 29 (U1 a (i - g1)))) 27 (U1 a (i - g1)) (-1)), (remU U1 a (i - g1) (N1 a)), (subN N1 a)) (show (i + 1) ≤ N a ∧ (g1 + 1) ≤ (i + 1) ∧ MIx ((m_up (asM σ1 (σ1 28 (U1 a (i - g1))) (σ1 29 (U1 a (i - g1)))) 27 (U1 a (i - g1)) (-1)) 27) ((m_up (asM σ1 (σ1 28 (U1 a (i - g1))) (σ1 29 (U1 a (i - g1)))) 27 (U1 a (i - g1)) (-1)) 28) ((m_up (asM σ1 (σ1 28 (U1 a (i - g1))) (σ1 29 (U1 a (i - g1)))) 27 (U1 a (i - g1)) (-1)) 30) (remU U1 a (i - g1) (N1 a)) (subN N1 a) C ∧ (m_up (asM σ1 (σ1 28 (U1 a (i - g1))) (σ1 29 (U1 a (i - g1)))) 27 (U1 a (i - g1)) (-1)) 26 5 = nI C ∧ (subN N1 a) a = N a - (g1 + 1) ∧ sstepsM a (i + 1) (m_up σ 26 0 0) U N 0 (m_up (asM σ1 (σ1 28 (U1 a (i - g1))) (σ1 29 (U1 a (i - g1)))) 27 (U1 a (i - g1)) (-1)) (remU U1 a (i - g1) (N1 a)) (subN N1 a) ((i + 1) - (g1 + 1)) from ⟨by omega, by omega, mi_rem hI.2.2.1 ha (by omega), hI.2.2.2.1, by rw [subN_self]; omega, σ1, U1, N1, i - g1, hI.2.2.2.2.2, Or.inr ⟨c72, rfl, rfl, rfl, by omega⟩⟩) (by (try dsimp only); omega) _ _ _ hP hS (lv_sub hl [0, 3, 1, 4, 5] rfl)
    · skip
      refine lv_iconst (v := 0) hx hb dX2_sweep_23 (by decide) ?_
      exact r_i hx hb hr hlocks hP hS dX2_sweep_24 (Or.inl ⟨c20, rfl, rfl⟩)
  refine k_Si (As := [.int (x)]) (rest := [.ref (e_a E (26))]) ⟨hx, hb, hml, hown, hts⟩ (mtX2_isChute l x) (va_cwS 1 hts gX2_sweep_X2_isChute rfl rfl rfl (by decide +kernel) ⟨Nat.le_of_ble_eq_true rfl, Nat.le_of_ble_eq_true rfl⟩) rfl hl.1 rfl (Nat.le_of_ble_eq_true rfl) dX2_sweep_2 ⟨Nat.le_of_ble_eq_true rfl, Nat.le_of_ble_eq_true rfl⟩ (fun r9 er9 => ?_)
  subst er9
  refine lv_if_eq (tgt := 12) hx hb dX2_sweep_5 (by decide) (fun c5 => ?_) (fun c5 => ?_)
  · skip
    refine lv_iconst (v := 1) hx hb dX2_sweep_12 (by decide) ?_
    exact J13 _ _ _ (by simp [tC, c5]) hP hS
  · skip
    refine lv_iconst (v := 0) hx hb dX2_sweep_8 (by decide) ?_
    refine lv_goto (tgt := 13) hx hb dX2_sweep_9 (by decide) ?_
    exact J13 _ _ _ (by simp [tC, c5]) hP hS

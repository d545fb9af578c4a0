set_option maxHeartbeats 4000000 in
set_option maxRecDepth 100000 in
/-- signsBetween -/
theorem mtX1_signsBetween (l : Launch) (a b : Int32) : Met l yX1_signsBetween wsX1_signsBetween ({ frames := 0, cells := 0, slots := 0, locals := 0 } : Room) (va_Pc [.int (a), .int (b)] (fun _ => True)) (vp_Si (fun r => r = sg a b)) 0 0 (fun _ => False) := by
  refine Met.ofW (cc := cX1_signsBetween) (maxL := 2) (ret := (some .int)) (by decide) rfl ?_
  intro p e s m args below meth c s₁ B hml hv
  obtain ⟨rfl, -⟩ := hv
  have hx := B.exec
  have hb := B.bytes
  have hr := B.returns
  have hts := atoms_spec (ws := wsX1_signsBetween) B.pre
  have hown : s.vm.findClass RX1 = some m.cls := findClass_of_methodNamed B.named
  have hlocks := B.notSynchronized
  have hl := lv_entry ([.int (a), .int (b)]) (n := 2) (Nat.le_of_ble_eq_true rfl)
  rw [lg_entry_eq]
  generalize (lg_sl ([.int (a), .int (b)]) ++ List.replicate (2 - (lg_sl ([.int (a), .int (b)])).length) Slot.unset).toArray = ls at hl ⊢
  have hl : lv_has ls 2 [(0, .int (a)), (1, .int (b))] := hl
  refine lv_iload_n hx hb dX1_signsBetween_0 rfl (lv_at hl 0 rfl) ?_
  refine lv_if_eq (tgt := 8) hx hb dX1_signsBetween_1 (by decide) (fun c1 => ?_) (fun c1 => ?_)
  · skip
    refine lv_bipush (v := 32) hx hb dX1_signsBetween_8 (by decide) ?_
    exact s_i hx hb hr hlocks dX1_signsBetween_10 (by simp [sg, c1])
  · skip
    refine lv_iload_n hx hb dX1_signsBetween_4 rfl (lv_at hl 1 rfl) ?_
    refine lv_if_ne (tgt := 11) hx hb dX1_signsBetween_5 (by decide) (fun c5 => ?_) (fun c5 => ?_)
    · skip
      refine lv_iload_n hx hb dX1_signsBetween_11 rfl (lv_at hl 0 rfl) ?_
      refine lv_iload_n hx hb dX1_signsBetween_12 rfl (lv_at hl 1 rfl) ?_
      refine lv_icmp_ge (tgt := 19) hx hb dX1_signsBetween_13 (by decide) (fun c13 => ?_) (fun c13 => ?_)
      · skip
        refine lv_iload_n hx hb dX1_signsBetween_19 rfl (lv_at hl 0 rfl) ?_
        refine lv_iload_n hx hb dX1_signsBetween_20 rfl (lv_at hl 1 rfl) ?_
        refine lv_icmp_le (tgt := 27) hx hb dX1_signsBetween_21 (by decide) (fun c21 => ?_) (fun c21 => ?_)
        · skip
          refine lv_bipush (v := 26) hx hb dX1_signsBetween_27 (by decide) ?_
          exact s_i hx hb hr hlocks dX1_signsBetween_29 (by simp [sg, c1, c5, c13, c21])
        · skip
          refine lv_bipush (v := 44) hx hb dX1_signsBetween_24 (by decide) ?_
          exact s_i hx hb hr hlocks dX1_signsBetween_26 (by simp [sg, c1, c5, c13, c21])
      · skip
        refine lv_bipush (v := 35) hx hb dX1_signsBetween_16 (by decide) ?_
        exact s_i hx hb hr hlocks dX1_signsBetween_18 (by simp [sg, c1, c5, c13])
    · skip
      refine lv_bipush (v := 32) hx hb dX1_signsBetween_8 (by decide) ?_
      exact s_i hx hb hr hlocks dX1_signsBetween_10 (by simp [sg, c1, c5])
set_option maxHeartbeats 4000000 in
set_option maxRecDepth 100000 in
/-- holds -/
theorem mtX1_holds (l : Launch) (a z b : Int32) : Met l yX1_holds wsX1_holds ({ frames := 1, cells := 0, slots := 0, locals := 21 } : Room) (va_Pc [.int (a), .int (z), .int (b)] (fun _ => True)) (vp_Si (fun r => r = hd a b z)) 0 0 (fun _ => False) := by
  refine Met.ofW (cc := cX1_holds) (maxL := 3) (ret := (some .boolean)) (by decide) rfl ?_
  intro p e s m args below meth c s₁ B hml hv
  obtain ⟨rfl, -⟩ := hv
  have hx := B.exec
  have hb := B.bytes
  have hr := B.returns
  have hts := atoms_spec (ws := wsX1_holds) B.pre
  have hown : s.vm.findClass RX1 = some m.cls := findClass_of_methodNamed B.named
  have hlocks := B.notSynchronized
  have hl := lv_entry ([.int (a), .int (z), .int (b)]) (n := 3) (Nat.le_of_ble_eq_true rfl)
  rw [lg_entry_eq]
  generalize (lg_sl ([.int (a), .int (z), .int (b)]) ++ List.replicate (3 - (lg_sl ([.int (a), .int (z), .int (b)])).length) Slot.unset).toArray = ls at hl ⊢
  have hl : lv_has ls 3 [(0, .int (a)), (1, .int (z)), (2, .int (b))] := hl
  refine lv_iload_n hx hb dX1_holds_0 rfl (lv_at hl 0 rfl) ?_
  refine lv_iload_n hx hb dX1_holds_1 rfl (lv_at hl 2 rfl) ?_
  refine k_Si (As := [.int (a), .int (b)]) (rest := []) ⟨hx, hb, hml, hown, hts⟩ (mtX1_signsBetween l a b) (va_cwS 2 hts gX1_holds_X1_signsBetween rfl rfl rfl (by decide +kernel) ⟨Nat.le_of_ble_eq_true rfl, Nat.le_of_ble_eq_true rfl⟩) rfl hl.1 rfl (Nat.le_of_ble_eq_true rfl) dX1_holds_2 ⟨Nat.le_of_ble_eq_true rfl, Nat.le_of_ble_eq_true rfl⟩ (fun r1 er1 => ?_)
  subst er1
  refine lv_iload_n hx hb dX1_holds_5 rfl (lv_at hl 1 rfl) ?_
  refine lv_iand hx hb dX1_holds_6 ?_
  refine lv_if_eq (tgt := 14) hx hb dX1_holds_7 (by decide) (fun c7 => ?_) (fun c7 => ?_)
  · skip
    refine lv_iconst (v := 0) hx hb dX1_holds_14 (by decide) ?_
    exact s_z hx hb hr hlocks rfl dX1_holds_15 (by simp [hd, c7])
  · skip
    refine lv_iconst (v := 1) hx hb dX1_holds_10 (by decide) ?_
    refine lv_goto (tgt := 15) hx hb dX1_holds_11 (by decide) ?_
    exact s_z hx hb hr hlocks rfl dX1_holds_15 (by simp [hd, c7])
set_option maxHeartbeats 4000000 in
set_option maxRecDepth 100000 in
/-- oneIf -/
theorem mtX1_oneIf (l : Launch) (z : Int32) : Met l yX1_oneIf wsX1_oneIf ({ frames := 0, cells := 0, slots := 0, locals := 0 } : Room) (va_Pc [.int (z)] (fun _ => True)) (vp_Si (fun r => r = b1 z)) 0 0 (fun _ => False) := by
  refine Met.ofW (cc := cX1_oneIf) (maxL := 1) (ret := (some .int)) (by decide) rfl ?_
  intro p e s m args below meth c s₁ B hml hv
  obtain ⟨rfl, -⟩ := hv
  have hx := B.exec
  have hb := B.bytes
  have hr := B.returns
  have hts := atoms_spec (ws := wsX1_oneIf) B.pre
  have hown : s.vm.findClass RX1 = some m.cls := findClass_of_methodNamed B.named
  have hlocks := B.notSynchronized
  have hl := lv_entry ([.int (z)]) (n := 1) (Nat.le_of_ble_eq_true rfl)
  rw [lg_entry_eq]
  generalize (lg_sl ([.int (z)]) ++ List.replicate (1 - (lg_sl ([.int (z)])).length) Slot.unset).toArray = ls at hl ⊢
  have hl : lv_has ls 1 [(0, .int (z))] := hl
  refine lv_iload_n hx hb dX1_oneIf_0 rfl (lv_at hl 0 rfl) ?_
  refine lv_if_eq (tgt := 8) hx hb dX1_oneIf_1 (by decide) (fun c1 => ?_) (fun c1 => ?_)
  · skip
    refine lv_iconst (v := 0) hx hb dX1_oneIf_8 (by decide) ?_
    exact s_i hx hb hr hlocks dX1_oneIf_9 (by simp [b1, c1])
  · skip
    refine lv_iconst (v := 1) hx hb dX1_oneIf_4 (by decide) ?_
    refine lv_goto (tgt := 9) hx hb dX1_oneIf_5 (by decide) ?_
    exact s_i hx hb hr hlocks dX1_oneIf_9 (by simp [b1, c1])
set_option maxHeartbeats 4000000 in
set_option maxRecDepth 100000 in
/-- isWithin -/
theorem mtX2_isWithin (l : Launch) (v b : Int32) : Met l yX2_isWithin wsX2_isWithin ({ frames := 0, cells := 0, slots := 0, locals := 0 } : Room) (va_Pc [.int (v), .int (b)] (fun _ => True)) (vp_Si (fun r => r = iw v b)) 0 0 (fun _ => False) := by
  refine Met.ofW (cc := cX2_isWithin) (maxL := 2) (ret := (some .boolean)) (by decide) rfl ?_
  intro p e s m args below meth c s₁ B hml hv
  obtain ⟨rfl, -⟩ := hv
  have hx := B.exec
  have hb := B.bytes
  have hr := B.returns
  have hts := atoms_spec (ws := wsX2_isWithin) B.pre
  have hown : s.vm.findClass RX2 = some m.cls := findClass_of_methodNamed B.named
  have hlocks := B.notSynchronized
  have hl := lv_entry ([.int (v), .int (b)]) (n := 2) (Nat.le_of_ble_eq_true rfl)
  rw [lg_entry_eq]
  generalize (lg_sl ([.int (v), .int (b)]) ++ List.replicate (2 - (lg_sl ([.int (v), .int (b)])).length) Slot.unset).toArray = ls at hl ⊢
  have hl : lv_has ls 2 [(0, .int (v)), (1, .int (b))] := hl
  refine lv_iload_n hx hb dX2_isWithin_0 rfl (lv_at hl 0 rfl) ?_
  refine lv_if_lt (tgt := 13) hx hb dX2_isWithin_1 (by decide) (fun c1 => ?_) (fun c1 => ?_)
  · skip
    refine lv_iconst (v := 0) hx hb dX2_isWithin_13 (by decide) ?_
    exact s_z hx hb hr hlocks rfl dX2_isWithin_14 (by simp [iw, c1])
  · skip
    refine lv_iload_n hx hb dX2_isWithin_4 rfl (lv_at hl 0 rfl) ?_
    refine lv_iload_n hx hb dX2_isWithin_5 rfl (lv_at hl 1 rfl) ?_
    refine lv_icmp_gt (tgt := 13) hx hb dX2_isWithin_6 (by decide) (fun c6 => ?_) (fun c6 => ?_)
    · skip
      refine lv_iconst (v := 0) hx hb dX2_isWithin_13 (by decide) ?_
      exact s_z hx hb hr hlocks rfl dX2_isWithin_14 (by simp [iw, c1, c6])
    · skip
      refine lv_iconst (v := 1) hx hb dX2_isWithin_9 (by decide) ?_
      refine lv_goto (tgt := 14) hx hb dX2_isWithin_10 (by decide) ?_
      exact s_z hx hb hr hlocks rfl dX2_isWithin_14 (by simp [iw, c1, c6])
set_option maxHeartbeats 4000000 in
set_option maxRecDepth 100000 in
/-- isChute -/
theorem mtX2_isChute (l : Launch) (v : Int32) : Met l yX2_isChute wsX2_isChute ({ frames := 1, cells := 0, slots := 0, locals := 21 } : Room) (va_Pc [.int (v)] (fun _ => True)) (vp_Si (fun r => r = iw v 7)) 0 0 (fun _ => False) := by
  refine Met.ofW (cc := cX2_isChute) (maxL := 1) (ret := (some .boolean)) (by decide) rfl ?_
  intro p e s m args below meth c s₁ B hml hv
  obtain ⟨rfl, -⟩ := hv
  have hx := B.exec
  have hb := B.bytes
  have hr := B.returns
  have hts := atoms_spec (ws := wsX2_isChute) B.pre
  have hown : s.vm.findClass RX2 = some m.cls := findClass_of_methodNamed B.named
  have hlocks := B.notSynchronized
  have hl := lv_entry ([.int (v)]) (n := 1) (Nat.le_of_ble_eq_true rfl)
  rw [lg_entry_eq]
  generalize (lg_sl ([.int (v)]) ++ List.replicate (1 - (lg_sl ([.int (v)])).length) Slot.unset).toArray = ls at hl ⊢
  have hl : lv_has ls 1 [(0, .int (v))] := hl
  refine lv_iload_n hx hb dX2_isChute_0 rfl (lv_at hl 0 rfl) ?_
  refine lv_bipush (v := 7) hx hb dX2_isChute_1 (by decide) ?_
  refine k_Si (As := [.int (v), .int (7)]) (rest := []) ⟨hx, hb, hml, hown, hts⟩ (mtX2_isWithin l v 7) (va_cwS 2 hts gX2_isChute_X2_isWithin rfl rfl rfl (by decide +kernel) ⟨Nat.le_of_ble_eq_true rfl, Nat.le_of_ble_eq_true rfl⟩) rfl hl.1 rfl (Nat.le_of_ble_eq_true rfl) dX2_isChute_3 ⟨Nat.le_of_ble_eq_true rfl, Nat.le_of_ble_eq_true rfl⟩ (fun r1 er1 => ?_)
  subst er1
  exact s_z hx hb hr hlocks (by first | rfl | (exact iw_nar _ _)) dX2_isChute_6 rfl
set_option maxHeartbeats 4000000 in
set_option maxRecDepth 100000 in
/-- isParcel -/
theorem mtX2_isParcel (l : Launch) (v b : Int32) : Met l yX2_isParcel wsX2_isParcel ({ frames := 1, cells := 0, slots := 0, locals := 21 } : Room) (va_Pc [.int (v), .int (b)] (fun _ => True)) (vp_Si (fun r => r = ip v b)) 0 0 (fun _ => False) := by
  refine Met.ofW (cc := cX2_isParcel) (maxL := 2) (ret := (some .boolean)) (by decide) rfl ?_
  intro p e s m args below meth c s₁ B hml hv
  obtain ⟨rfl, -⟩ := hv
  have hx := B.exec
  have hb := B.bytes
  have hr := B.returns
  have hts := atoms_spec (ws := wsX2_isParcel) B.pre
  have hown : s.vm.findClass RX2 = some m.cls := findClass_of_methodNamed B.named
  have hlocks := B.notSynchronized
  have hl := lv_entry ([.int (v), .int (b)]) (n := 2) (Nat.le_of_ble_eq_true rfl)
  rw [lg_entry_eq]
  generalize (lg_sl ([.int (v), .int (b)]) ++ List.replicate (2 - (lg_sl ([.int (v), .int (b)])).length) Slot.unset).toArray = ls at hl ⊢
  have hl : lv_has ls 2 [(0, .int (v)), (1, .int (b))] := hl
  refine lv_iload_n hx hb dX2_isParcel_0 rfl (lv_at hl 0 rfl) ?_
  refine lv_ldc (v := 800000) hx hb hown (hts (.constant RX2 46 (800000)) (by decide +kernel)) dX2_isParcel_1 ?_
  refine k_Si (As := [.int (v), .int (800000)]) (rest := []) ⟨hx, hb, hml, hown, hts⟩ (mtX2_isWithin l v 800000) (va_cwS 2 hts gX2_isParcel_X2_isWithin rfl rfl rfl (by decide +kernel) ⟨Nat.le_of_ble_eq_true rfl, Nat.le_of_ble_eq_true rfl⟩) rfl hl.1 rfl (Nat.le_of_ble_eq_true rfl) dX2_isParcel_3 ⟨Nat.le_of_ble_eq_true rfl, Nat.le_of_ble_eq_true rfl⟩ (fun r1 er1 => ?_)
  subst er1
  refine lv_if_eq (tgt := 23) hx hb dX2_isParcel_6 (by decide) (fun c6 => ?_) (fun c6 => ?_)
  · skip
    refine lv_iconst (v := 0) hx hb dX2_isParcel_23 (by decide) ?_
    exact s_z hx hb hr hlocks rfl dX2_isParcel_24 (by simp [ip, c6])
  · skip
    refine lv_iload_n hx hb dX2_isParcel_9 rfl (lv_at hl 1 rfl) ?_
    refine lv_sipush (v := 16000) hx hb dX2_isParcel_10 (by decide) ?_
    refine k_Si (As := [.int (b), .int (16000)]) (rest := []) ⟨hx, hb, hml, hown, hts⟩ (mtX2_isWithin l b 16000) (va_cwS 2 hts gX2_isParcel_X2_isWithin rfl rfl rfl (by decide +kernel) ⟨Nat.le_of_ble_eq_true rfl, Nat.le_of_ble_eq_true rfl⟩) rfl hl.1 rfl (Nat.le_of_ble_eq_true rfl) dX2_isParcel_13 ⟨Nat.le_of_ble_eq_true rfl, Nat.le_of_ble_eq_true rfl⟩ (fun r2 er2 => ?_)
    subst er2
    refine lv_if_eq (tgt := 23) hx hb dX2_isParcel_16 (by decide) (fun c16 => ?_) (fun c16 => ?_)
    · skip
      refine lv_iconst (v := 0) hx hb dX2_isParcel_23 (by decide) ?_
      exact s_z hx hb hr hlocks rfl dX2_isParcel_24 (by simp [ip, c6, c16])
    · skip
      refine lv_iconst (v := 1) hx hb dX2_isParcel_19 (by decide) ?_
      refine lv_goto (tgt := 24) hx hb dX2_isParcel_20 (by decide) ?_
      exact s_z hx hb hr hlocks rfl dX2_isParcel_24 (by simp [ip, c6, c16])
set_option maxHeartbeats 4000000 in
set_option maxRecDepth 100000 in
/-- signsOf -/
theorem mtX2_signsOf (l : Launch) (a b : Int32) : Met l yX2_signsOf wsX2_signsOf ({ frames := 0, cells := 0, slots := 0, locals := 0 } : Room) (va_Pc [.int (a), .int (b)] (fun _ => True)) (vp_Si (fun r => r = sg a b)) 0 0 (fun _ => False) := by
  refine Met.ofW (cc := cX2_signsOf) (maxL := 2) (ret := (some .int)) (by decide) rfl ?_
  intro p e s m args below meth c s₁ B hml hv
  obtain ⟨rfl, -⟩ := hv
  have hx := B.exec
  have hb := B.bytes
  have hr := B.returns
  have hts := atoms_spec (ws := wsX2_signsOf) B.pre
  have hown : s.vm.findClass RX2 = some m.cls := findClass_of_methodNamed B.named
  have hlocks := B.notSynchronized
  have hl := lv_entry ([.int (a), .int (b)]) (n := 2) (Nat.le_of_ble_eq_true rfl)
  rw [lg_entry_eq]
  generalize (lg_sl ([.int (a), .int (b)]) ++ List.replicate (2 - (lg_sl ([.int (a), .int (b)])).length) Slot.unset).toArray = ls at hl ⊢
  have hl : lv_has ls 2 [(0, .int (a)), (1, .int (b))] := hl
  refine lv_iload_n hx hb dX2_signsOf_0 rfl (lv_at hl 0 rfl) ?_
  refine lv_if_eq (tgt := 8) hx hb dX2_signsOf_1 (by decide) (fun c1 => ?_) (fun c1 => ?_)
  · skip
    refine lv_bipush (v := 32) hx hb dX2_signsOf_8 (by decide) ?_
    exact s_i hx hb hr hlocks dX2_signsOf_10 (by rw [← sgM_eq]; simp [sgM, c1])
  · skip
    refine lv_iload_n hx hb dX2_signsOf_4 rfl (lv_at hl 1 rfl) ?_
    refine lv_if_ne (tgt := 11) hx hb dX2_signsOf_5 (by decide) (fun c5 => ?_) (fun c5 => ?_)
    · skip
      refine lv_iload_n hx hb dX2_signsOf_11 rfl (lv_at hl 0 rfl) ?_
      refine lv_iload_n hx hb dX2_signsOf_12 rfl (lv_at hl 1 rfl) ?_
      refine lv_icmp_ne (tgt := 19) hx hb dX2_signsOf_13 (by decide) (fun c13 => ?_) (fun c13 => ?_)
      · skip
        refine lv_iload_n hx hb dX2_signsOf_19 rfl (lv_at hl 0 rfl) ?_
        refine lv_iload_n hx hb dX2_signsOf_20 rfl (lv_at hl 1 rfl) ?_
        refine lv_icmp_ge (tgt := 29) hx hb dX2_signsOf_21 (by decide) (fun c21 => ?_) (fun c21 => ?_)
        · skip
          refine lv_bipush (v := 44) hx hb dX2_signsOf_29 (by decide) ?_
          exact s_i hx hb hr hlocks dX2_signsOf_31 (by rw [← sgM_eq]; simp [sgM, c1, c5, c13, c21])
        · skip
          refine lv_bipush (v := 35) hx hb dX2_signsOf_24 (by decide) ?_
          refine lv_goto (tgt := 31) hx hb dX2_signsOf_26 (by decide) ?_
          exact s_i hx hb hr hlocks dX2_signsOf_31 (by rw [← sgM_eq]; simp [sgM, c1, c5, c13, c21])
      · skip
        refine lv_bipush (v := 26) hx hb dX2_signsOf_16 (by decide) ?_
        exact s_i hx hb hr hlocks dX2_signsOf_18 (by rw [← sgM_eq]; simp [sgM, c1, c5, c13])
    · skip
      refine lv_bipush (v := 32) hx hb dX2_signsOf_8 (by decide) ?_
      exact s_i hx hb hr hlocks dX2_signsOf_10 (by rw [← sgM_eq]; simp [sgM, c1, c5])
set_option maxHeartbeats 4000000 in
set_option maxRecDepth 100000 in
/-- holds -/
theorem mtX2_holds (l : Launch) (a b z : Int32) : Met l yX2_holds wsX2_holds ({ frames := 1, cells := 0, slots := 0, locals := 21 } : Room) (va_Pc [.int (a), .int (b), .int (z)] (fun _ => True)) (vp_Si (fun r => r = hd a b z)) 0 0 (fun _ => False) := by
  refine Met.ofW (cc := cX2_holds) (maxL := 3) (ret := (some .boolean)) (by decide) rfl ?_
  intro p e s m args below meth c s₁ B hml hv
  obtain ⟨rfl, -⟩ := hv
  have hx := B.exec
  have hb := B.bytes
  have hr := B.returns
  have hts := atoms_spec (ws := wsX2_holds) B.pre
  have hown : s.vm.findClass RX2 = some m.cls := findClass_of_methodNamed B.named
  have hlocks := B.notSynchronized
  have hl := lv_entry ([.int (a), .int (b), .int (z)]) (n := 3) (Nat.le_of_ble_eq_true rfl)
  rw [lg_entry_eq]
  generalize (lg_sl ([.int (a), .int (b), .int (z)]) ++ List.replicate (3 - (lg_sl ([.int (a), .int (b), .int (z)])).length) Slot.unset).toArray = ls at hl ⊢
  have hl : lv_has ls 3 [(0, .int (a)), (1, .int (b)), (2, .int (z))] := hl
  refine lv_iload_n hx hb dX2_holds_0 rfl (lv_at hl 0 rfl) ?_
  refine lv_iload_n hx hb dX2_holds_1 rfl (lv_at hl 1 rfl) ?_
  refine k_Si (As := [.int (a), .int (b)]) (rest := []) ⟨hx, hb, hml, hown, hts⟩ (mtX2_signsOf l a b) (va_cwS 2 hts gX2_holds_X2_signsOf rfl rfl rfl (by decide +kernel) ⟨Nat.le_of_ble_eq_true rfl, Nat.le_of_ble_eq_true rfl⟩) rfl hl.1 rfl (Nat.le_of_ble_eq_true rfl) dX2_holds_2 ⟨Nat.le_of_ble_eq_true rfl, Nat.le_of_ble_eq_true rfl⟩ (fun r1 er1 => ?_)
  subst er1
  refine lv_iload_n hx hb dX2_holds_5 rfl (lv_at hl 2 rfl) ?_
  refine lv_iand hx hb dX2_holds_6 ?_
  refine lv_if_eq (tgt := 14) hx hb dX2_holds_7 (by decide) (fun c7 => ?_) (fun c7 => ?_)
  · skip
    refine lv_iconst (v := 0) hx hb dX2_holds_14 (by decide) ?_
    exact s_z hx hb hr hlocks rfl dX2_holds_15 (by simp [hd, c7])
  · skip
    refine lv_iconst (v := 1) hx hb dX2_holds_10 (by decide) ?_
    refine lv_goto (tgt := 15) hx hb dX2_holds_11 (by decide) ?_
    exact s_z hx hb hr hlocks rfl dX2_holds_15 (by simp [hd, c7])
theorem wxX1_requireWeight_24 : ∀ w ∈ (vx_atS RX1 24 "java/lang/IllegalArgumentException" ["java/lang/RuntimeException", "java/lang/Exception"]).filter goodWord, w ∈ wsX1_requireWeight := fun w h => by
  simp only [wsX1_requireWeight, List.mem_cons, List.mem_append, h, or_true, true_or]
set_option maxHeartbeats 4000000 in
set_option maxRecDepth 100000 in
/-- requireWeight -/
theorem mtX1_requireWeight (l : Launch) (hl0 : l.stackTraces = false) (E : Ev) (hok : e_ok E) (σ : Mem) (o : Nat → Int64) (v : Int32) : vx_Met l yX1_requireWeight wsX1_requireWeight ({ frames := 6, cells := 1, slots := 6, locals := 90 } : Room) (PW E σ o [.int (v)]) (va_Qv (fun (σ' : Mem) => (¬ v < 0 ∧ v ≤ 800000) ∧ σ' = σ) (BW E o) (LB (e_B E))) (XW E σ o (fun u => u = xIA ∧ ¬ (¬ v < 0 ∧ v ≤ 800000))) 1 6 (LB (e_B E)) := by
  refine vx_ofW (cc := cX1_requireWeight) (maxL := 1) (ret := none) (by decide) rfl ?_
  intro p e s m args below meth c s₁ B hml hno hv
  obtain ⟨rfl, hP, hK⟩ := hv
  have hx := B.exec
  have hb := B.bytes
  have hr := B.returns
  have hts := atoms_spec (ws := wsX1_requireWeight) B.pre
  have hown : s.vm.findClass RX1 = some m.cls := findClass_of_methodNamed B.named
  have hlocks := B.notSynchronized
  have hS : va_S (LB (e_B E)) s.heap s.heap [] := va_S.rf
  have hl := lv_entry ([.int (v)]) (n := 1) (Nat.le_of_ble_eq_true rfl)
  rw [lg_entry_eq]
  generalize (lg_sl ([.int (v)]) ++ List.replicate (1 - (lg_sl ([.int (v)])).length) Slot.unset).toArray = ls at hl ⊢
  have hl : lv_has ls 1 [(0, .int (v))] := hl
  refine lv_iload_n hx hb dX1_requireWeight_0 rfl (lv_at hl 0 rfl) ?_
  refine lv_if_lt (tgt := 10) hx hb dX1_requireWeight_1 (by decide) (fun c1 => ?_) (fun c1 => ?_)
  · skip
    exact x_throw hx hb hl0 (ik := 20) (is := 155) (ic := 24) hown (by decide +kernel) (hts (.classLink RX1 20 "java/lang/IllegalArgumentException") (by decide +kernel)) (hts (.initialized "java/lang/IllegalArgumentException") (by decide +kernel)) hK.s155 (vx_hat (B := [.castable "java/lang/IllegalArgumentException" "java/lang/IllegalArgumentException", .declares (Bundle.initS "java/lang/RuntimeException"), .declares (Bundle.initS "java/lang/Exception"), .declares (Bundle.initS "java/lang/Throwable")]) (fun w h => hts w (wxX1_requireWeight_24 w h)) (by decide +kernel) (vx_c (hK.c (by decide)) (vx_c (hK.d (by decide)) (vx_c (hK.d (by decide)) (vx_c (hK.d (by decide)) vx_n))))) (by decide +kernel) hK hP hS hl.1 hml dX1_requireWeight_10 dX1_requireWeight_13 dX1_requireWeight_14 dX1_requireWeight_16 dX1_requireWeight_19 hno (Nat.le_of_ble_eq_true rfl) (Nat.le_of_ble_eq_true rfl) (Nat.le_of_ble_eq_true rfl) (Nat.le_of_ble_eq_true rfl) hlocks ⟨rfl, fun z => z.1 c1⟩ (Nat.le_of_ble_eq_true rfl) (Nat.le_of_ble_eq_true rfl)
  · skip
    refine lv_iload_n hx hb dX1_requireWeight_4 rfl (lv_at hl 0 rfl) ?_
    refine lv_ldc (v := 800000) hx hb hown (hts (.constant RX1 154 (800000)) (by decide +kernel)) dX1_requireWeight_5 ?_
    refine lv_icmp_le (tgt := 20) hx hb dX1_requireWeight_7 (by decide) (fun c7 => ?_) (fun c7 => ?_)
    · skip
      refine W.widen (k := 1) (n := 6) (Nat.le_of_ble_eq_true rfl) (Nat.le_of_ble_eq_true rfl) ?_
      exact vx_ret (r_v hx hb hr hlocks hP hS dX1_requireWeight_20 ⟨⟨c1, c7⟩, rfl⟩)
    · skip
      exact x_throw hx hb hl0 (ik := 20) (is := 155) (ic := 24) hown (by decide +kernel) (hts (.classLink RX1 20 "java/lang/IllegalArgumentException") (by decide +kernel)) (hts (.initialized "java/lang/IllegalArgumentException") (by decide +kernel)) hK.s155 (vx_hat (B := [.castable "java/lang/IllegalArgumentException" "java/lang/IllegalArgumentException", .declares (Bundle.initS "java/lang/RuntimeException"), .declares (Bundle.initS "java/lang/Exception"), .declares (Bundle.initS "java/lang/Throwable")]) (fun w h => hts w (wxX1_requireWeight_24 w h)) (by decide +kernel) (vx_c (hK.c (by decide)) (vx_c (hK.d (by decide)) (vx_c (hK.d (by decide)) (vx_c (hK.d (by decide)) vx_n))))) (by decide +kernel) hK hP hS hl.1 hml dX1_requireWeight_10 dX1_requireWeight_13 dX1_requireWeight_14 dX1_requireWeight_16 dX1_requireWeight_19 hno (Nat.le_of_ble_eq_true rfl) (Nat.le_of_ble_eq_true rfl) (Nat.le_of_ble_eq_true rfl) (Nat.le_of_ble_eq_true rfl) hlocks ⟨rfl, fun z => c7 z.2⟩ (Nat.le_of_ble_eq_true rfl) (Nat.le_of_ble_eq_true rfl)
theorem wxX1_requireGirth_24 : ∀ w ∈ (vx_atS RX1 24 "java/lang/IllegalArgumentException" ["java/lang/RuntimeException", "java/lang/Exception"]).filter goodWord, w ∈ wsX1_requireGirth := fun w h => by
  simp only [wsX1_requireGirth, List.mem_cons, List.mem_append, h, or_true, true_or]
set_option maxHeartbeats 4000000 in
set_option maxRecDepth 100000 in
/-- requireGirth -/
theorem mtX1_requireGirth (l : Launch) (hl0 : l.stackTraces = false) (E : Ev) (hok : e_ok E) (σ : Mem) (o : Nat → Int64) (v : Int32) : vx_Met l yX1_requireGirth wsX1_requireGirth ({ frames := 6, cells := 1, slots := 6, locals := 90 } : Room) (PW E σ o [.int (v)]) (va_Qv (fun (σ' : Mem) => (¬ v < 0 ∧ v ≤ 16000) ∧ σ' = σ) (BW E o) (LB (e_B E))) (XW E σ o (fun u => u = xIA ∧ ¬ (¬ v < 0 ∧ v ≤ 16000))) 1 6 (LB (e_B E)) := by
  refine vx_ofW (cc := cX1_requireGirth) (maxL := 1) (ret := none) (by decide) rfl ?_
  intro p e s m args below meth c s₁ B hml hno hv
  obtain ⟨rfl, hP, hK⟩ := hv
  have hx := B.exec
  have hb := B.bytes
  have hr := B.returns
  have hts := atoms_spec (ws := wsX1_requireGirth) B.pre
  have hown : s.vm.findClass RX1 = some m.cls := findClass_of_methodNamed B.named
  have hlocks := B.notSynchronized
  have hS : va_S (LB (e_B E)) s.heap s.heap [] := va_S.rf
  have hl := lv_entry ([.int (v)]) (n := 1) (Nat.le_of_ble_eq_true rfl)
  rw [lg_entry_eq]
  generalize (lg_sl ([.int (v)]) ++ List.replicate (1 - (lg_sl ([.int (v)])).length) Slot.unset).toArray = ls at hl ⊢
  have hl : lv_has ls 1 [(0, .int (v))] := hl
  refine lv_iload_n hx hb dX1_requireGirth_0 rfl (lv_at hl 0 rfl) ?_
  refine lv_if_lt (tgt := 11) hx hb dX1_requireGirth_1 (by decide) (fun c1 => ?_) (fun c1 => ?_)
  · skip
    exact x_throw hx hb hl0 (ik := 20) (is := 157) (ic := 24) hown (by decide +kernel) (hts (.classLink RX1 20 "java/lang/IllegalArgumentException") (by decide +kernel)) (hts (.initialized "java/lang/IllegalArgumentException") (by decide +kernel)) hK.s157 (vx_hat (B := [.castable "java/lang/IllegalArgumentException" "java/lang/IllegalArgumentException", .declares (Bundle.initS "java/lang/RuntimeException"), .declares (Bundle.initS "java/lang/Exception"), .declares (Bundle.initS "java/lang/Throwable")]) (fun w h => hts w (wxX1_requireGirth_24 w h)) (by decide +kernel) (vx_c (hK.c (by decide)) (vx_c (hK.d (by decide)) (vx_c (hK.d (by decide)) (vx_c (hK.d (by decide)) vx_n))))) (by decide +kernel) hK hP hS hl.1 hml dX1_requireGirth_11 dX1_requireGirth_14 dX1_requireGirth_15 dX1_requireGirth_17 dX1_requireGirth_20 hno (Nat.le_of_ble_eq_true rfl) (Nat.le_of_ble_eq_true rfl) (Nat.le_of_ble_eq_true rfl) (Nat.le_of_ble_eq_true rfl) hlocks ⟨rfl, fun z => z.1 c1⟩ (Nat.le_of_ble_eq_true rfl) (Nat.le_of_ble_eq_true rfl)
  · skip
    refine lv_iload_n hx hb dX1_requireGirth_4 rfl (lv_at hl 0 rfl) ?_
    refine lv_sipush (v := 16000) hx hb dX1_requireGirth_5 (by decide) ?_
    refine lv_icmp_le (tgt := 21) hx hb dX1_requireGirth_8 (by decide) (fun c8 => ?_) (fun c8 => ?_)
    · skip
      refine W.widen (k := 1) (n := 6) (Nat.le_of_ble_eq_true rfl) (Nat.le_of_ble_eq_true rfl) ?_
      exact vx_ret (r_v hx hb hr hlocks hP hS dX1_requireGirth_21 ⟨⟨c1, c8⟩, rfl⟩)
    · skip
      exact x_throw hx hb hl0 (ik := 20) (is := 157) (ic := 24) hown (by decide +kernel) (hts (.classLink RX1 20 "java/lang/IllegalArgumentException") (by decide +kernel)) (hts (.initialized "java/lang/IllegalArgumentException") (by decide +kernel)) hK.s157 (vx_hat (B := [.castable "java/lang/IllegalArgumentException" "java/lang/IllegalArgumentException", .declares (Bundle.initS "java/lang/RuntimeException"), .declares (Bundle.initS "java/lang/Exception"), .declares (Bundle.initS "java/lang/Throwable")]) (fun w h => hts w (wxX1_requireGirth_24 w h)) (by decide +kernel) (vx_c (hK.c (by decide)) (vx_c (hK.d (by decide)) (vx_c (hK.d (by decide)) (vx_c (hK.d (by decide)) vx_n))))) (by decide +kernel) hK hP hS hl.1 hml dX1_requireGirth_11 dX1_requireGirth_14 dX1_requireGirth_15 dX1_requireGirth_17 dX1_requireGirth_20 hno (Nat.le_of_ble_eq_true rfl) (Nat.le_of_ble_eq_true rfl) (Nat.le_of_ble_eq_true rfl) (Nat.le_of_ble_eq_true rfl) hlocks ⟨rfl, fun z => c8 z.2⟩ (Nat.le_of_ble_eq_true rfl) (Nat.le_of_ble_eq_true rfl)
theorem wxX1_requirePlace_163 : ∀ w ∈ (vy_atS RX1 163 "java/util/NoSuchElementException" ["java/lang/RuntimeException", "java/lang/Exception"]).filter goodWord, w ∈ wsX1_requirePlace := fun w h => by
  simp only [wsX1_requirePlace, List.mem_cons, List.mem_append, h, or_true, true_or]
set_option maxHeartbeats 4000000 in
set_option maxRecDepth 100000 in
/-- requirePlace -/
theorem mtX1_requirePlace (l : Launch) (hl0 : l.stackTraces = false) (E : Ev) (hok : e_ok E) (σ : Mem) (o : Nat → Int64) (k : Nat) (hk : k < 8) (v : Int32) : vx_Met l yX1_requirePlace wsX1_requirePlace ({ frames := 6, cells := 1, slots := 6, locals := 90 } : Room) (PW E σ o [.ref (e_a E (k + 2)), .int (v)]) (va_Qv (fun (σ' : Mem) => (¬ v < 0 ∧ v < σ (k + 2) 2) ∧ σ' = σ) (BW E o) (LB (e_B E))) (XW E σ o (fun u => u = xNS ∧ ¬ (¬ v < 0 ∧ v < σ (k + 2) 2))) 1 6 (LB (e_B E)) := by
  refine vx_ofW (cc := cX1_requirePlace) (maxL := 2) (ret := none) (by decide) rfl ?_
  intro p e s m args below meth c s₁ B hml hno hv
  obtain ⟨rfl, hP, hK⟩ := hv
  have hx := B.exec
  have hb := B.bytes
  have hr := B.returns
  have hts := atoms_spec (ws := wsX1_requirePlace) B.pre
  have hown : s.vm.findClass RX1 = some m.cls := findClass_of_methodNamed B.named
  have hlocks := B.notSynchronized
  have hS : va_S (LB (e_B E)) s.heap s.heap [] := va_S.rf
  have hinX0 : ∀ w ∈ wsX00, w ∈ wsX1_requirePlace := fun w h => by simp only [wsX1_requirePlace, List.mem_cons, List.mem_append, h, or_true, true_or]
  have hf27 := hts (.fieldLink RX1 27 "ParcelChutes$Chute" "count" "I") (by decide +kernel)
  have hl := lv_entry ([.ref (e_a E (k + 2)), .int (v)]) (n := 2) (Nat.le_of_ble_eq_true rfl)
  rw [lg_entry_eq]
  generalize (lg_sl ([.ref (e_a E (k + 2)), .int (v)]) ++ List.replicate (2 - (lg_sl ([.ref (e_a E (k + 2)), .int (v)])).length) Slot.unset).toArray = ls at hl ⊢
  have hl : lv_has ls 2 [(0, .ref (e_a E (k + 2))), (1, .int (v))] := hl
  refine lv_iload_n hx hb dX1_requirePlace_0 rfl (lv_at hl 1 rfl) ?_
  refine lv_if_lt (tgt := 12) hx hb dX1_requirePlace_1 (by decide) (fun c1 => ?_) (fun c1 => ?_)
  · skip
    exact x_throwN hx hb hl0 (ik := 159) (is := 161) (ic := 163) hown (by decide +kernel) (hts (.classLink RX1 159 "java/util/NoSuchElementException") (by decide +kernel)) (hts (.initialized "java/util/NoSuchElementException") (by decide +kernel)) hK.s161 (vx_hat (B := [.castable "java/util/NoSuchElementException" "java/util/NoSuchElementException", .declares (Bundle.initS "java/lang/RuntimeException"), .declares (Bundle.initS "java/lang/Exception"), .declares (Bundle.initS "java/lang/Throwable")]) (fun w h => hts w (wxX1_requirePlace_163 w h)) (by decide +kernel) (vx_c (hK.c (by decide)) (vx_c (hK.d (by decide)) (vx_c (hK.d (by decide)) (vx_c (hK.d (by decide)) vx_n))))) (by decide +kernel) hK hP hS hl.1 hml dX1_requirePlace_12 dX1_requirePlace_15 dX1_requirePlace_16 dX1_requirePlace_18 dX1_requirePlace_21 hno (Nat.le_of_ble_eq_true rfl) (Nat.le_of_ble_eq_true rfl) (Nat.le_of_ble_eq_true rfl) (Nat.le_of_ble_eq_true rfl) hlocks ⟨rfl, fun z => z.1 c1⟩ (Nat.le_of_ble_eq_true rfl) (Nat.le_of_ble_eq_true rfl)
  · skip
    refine lv_iload_n hx hb dX1_requirePlace_4 rfl (lv_at hl 1 rfl) ?_
    refine lv_aload_n hx hb dX1_requirePlace_5 rfl (lv_at hl 0 rfl) ?_
    refine q_get (C := RX0) (T := TX0) (N := 8) (ci := 0) (v := .int (σ (k + 2) 2)) hx hb hts hinX0 hown hK hP (at_ch hk) rfl 2 (by decide) hf27 rfl dX1_requirePlace_6 ?_
    refine lv_icmp_lt (tgt := 22) hx hb dX1_requirePlace_9 (by decide) (fun c9 => ?_) (fun c9 => ?_)
    · skip
      refine W.widen (k := 1) (n := 6) (Nat.le_of_ble_eq_true rfl) (Nat.le_of_ble_eq_true rfl) ?_
      exact vx_ret (r_v hx hb hr hlocks hP hS dX1_requirePlace_22 ⟨⟨c1, c9⟩, rfl⟩)
    · skip
      exact x_throwN hx hb hl0 (ik := 159) (is := 161) (ic := 163) hown (by decide +kernel) (hts (.classLink RX1 159 "java/util/NoSuchElementException") (by decide +kernel)) (hts (.initialized "java/util/NoSuchElementException") (by decide +kernel)) hK.s161 (vx_hat (B := [.castable "java/util/NoSuchElementException" "java/util/NoSuchElementException", .declares (Bundle.initS "java/lang/RuntimeException"), .declares (Bundle.initS "java/lang/Exception"), .declares (Bundle.initS "java/lang/Throwable")]) (fun w h => hts w (wxX1_requirePlace_163 w h)) (by decide +kernel) (vx_c (hK.c (by decide)) (vx_c (hK.d (by decide)) (vx_c (hK.d (by decide)) (vx_c (hK.d (by decide)) vx_n))))) (by decide +kernel) hK hP hS hl.1 hml dX1_requirePlace_12 dX1_requirePlace_15 dX1_requirePlace_16 dX1_requirePlace_18 dX1_requirePlace_21 hno (Nat.le_of_ble_eq_true rfl) (Nat.le_of_ble_eq_true rfl) (Nat.le_of_ble_eq_true rfl) (Nat.le_of_ble_eq_true rfl) hlocks ⟨rfl, fun z => c9 z.2⟩ (Nat.le_of_ble_eq_true rfl) (Nat.le_of_ble_eq_true rfl)
theorem wxX1_chuteAt_150 : ∀ w ∈ (vx_atS RX1 150 "java/lang/IndexOutOfBoundsException" ["java/lang/RuntimeException", "java/lang/Exception"]).filter goodWord, w ∈ wsX1_chuteAt := fun w h => by
  simp only [wsX1_chuteAt, List.mem_cons, List.mem_append, h, or_true, true_or]
set_option maxHeartbeats 4000000 in
set_option maxRecDepth 100000 in
/-- chuteAt -/
theorem mtX1_chuteAt (l : Launch) (hl0 : l.stackTraces = false) (E : Ev) (hok : e_ok E) (σ : Mem) (o : Nat → Int64) (v : Int32) : vx_Met l yX1_chuteAt wsX1_chuteAt ({ frames := 6, cells := 1, slots := 6, locals := 90 } : Room) (PW E σ o [.ref (e_a E (0)), .int (v)]) (va_Qr (fun k : Nat => k < 8 ∧ v = nI k) (BC E σ o) (LB (e_B E))) (XW E σ o (fun u => u = xIO ∧ ¬ ∃ k : Nat, k < 8 ∧ v = nI k)) 1 6 (LB (e_B E)) := by
  refine vx_ofW (cc := cX1_chuteAt) (maxL := 2) (ret := (some (.object "ParcelChutes$Chute"))) (by decide) rfl ?_
  intro p e s m args below meth c s₁ B hml hno hv
  obtain ⟨rfl, hP, hK⟩ := hv
  have hx := B.exec
  have hb := B.bytes
  have hr := B.returns
  have hts := atoms_spec (ws := wsX1_chuteAt) B.pre
  have hown : s.vm.findClass RX1 = some m.cls := findClass_of_methodNamed B.named
  have hlocks := B.notSynchronized
  have hS : va_S (LB (e_B E)) s.heap s.heap [] := va_S.rf
  have hinX1 : ∀ w ∈ wsX10, w ∈ wsX1_chuteAt := fun w h => by simp only [wsX1_chuteAt, List.mem_cons, List.mem_append, h, or_true, true_or]
  have hf11 := hts (.fieldLink RX1 11 "ParcelChutes" "chutes" "[LParcelChutes$Chute;") (by decide +kernel)
  have hl := lv_entry ([.ref (e_a E (0)), .int (v)]) (n := 2) (Nat.le_of_ble_eq_true rfl)
  rw [lg_entry_eq]
  generalize (lg_sl ([.ref (e_a E (0)), .int (v)]) ++ List.replicate (2 - (lg_sl ([.ref (e_a E (0)), .int (v)])).length) Slot.unset).toArray = ls at hl ⊢
  have hl : lv_has ls 2 [(0, .ref (e_a E (0))), (1, .int (v))] := hl
  refine lv_iload_n hx hb dX1_chuteAt_0 rfl (lv_at hl 1 rfl) ?_
  refine lv_if_lt (tgt := 10) hx hb dX1_chuteAt_1 (by decide) (fun c1 => ?_) (fun c1 => ?_)
  · skip
    exact x_throw hx hb hl0 (ik := 146) (is := 148) (ic := 150) hown (by decide +kernel) (hts (.classLink RX1 146 "java/lang/IndexOutOfBoundsException") (by decide +kernel)) (hts (.initialized "java/lang/IndexOutOfBoundsException") (by decide +kernel)) hK.s148 (vx_hat (B := [.castable "java/lang/IndexOutOfBoundsException" "java/lang/IndexOutOfBoundsException", .declares (Bundle.initS "java/lang/RuntimeException"), .declares (Bundle.initS "java/lang/Exception"), .declares (Bundle.initS "java/lang/Throwable")]) (fun w h => hts w (wxX1_chuteAt_150 w h)) (by decide +kernel) (vx_c (hK.c (by decide)) (vx_c (hK.d (by decide)) (vx_c (hK.d (by decide)) (vx_c (hK.d (by decide)) vx_n))))) (by decide +kernel) hK hP hS hl.1 hml dX1_chuteAt_10 dX1_chuteAt_13 dX1_chuteAt_14 dX1_chuteAt_16 dX1_chuteAt_19 hno (Nat.le_of_ble_eq_true rfl) (Nat.le_of_ble_eq_true rfl) (Nat.le_of_ble_eq_true rfl) (Nat.le_of_ble_eq_true rfl) hlocks ⟨rfl, fun ⟨k, hk, ek⟩ => ix8n1 hk ek c1⟩ (Nat.le_of_ble_eq_true rfl) (Nat.le_of_ble_eq_true rfl)
  · skip
    refine lv_iload_n hx hb dX1_chuteAt_4 rfl (lv_at hl 1 rfl) ?_
    refine lv_bipush (v := 8) hx hb dX1_chuteAt_5 (by decide) ?_
    refine lv_icmp_lt (tgt := 20) hx hb dX1_chuteAt_7 (by decide) (fun c7 => ?_) (fun c7 => ?_)
    · skip
      obtain ⟨k, hk, ek⟩ : ∃ k : Nat, k < 8 ∧ v = nI k := ix8 c1 c7
      refine lv_aload_n hx hb dX1_chuteAt_20 rfl (lv_at hl 0 rfl) ?_
      refine q_get (C := RX1) (T := TX1) (N := 10) (ci := 1) (v := .ref (e_a E (1))) hx hb hts hinX1 hown hK hP at_0 rfl 0 (by decide) hf11 rfl dX1_chuteAt_21 ?_
      refine lv_iload_n hx hb dX1_chuteAt_24 rfl (lv_at hl 1 rfl) ?_
      refine q_chld hx hb hK hP (i := k) ek (by omega) dX1_chuteAt_25 ?_
      refine W.widen (k := 1) (n := 6) (Nat.le_of_ble_eq_true rfl) (Nat.le_of_ble_eq_true rfl) ?_
      exact vx_ret (r_c hx hb hr hlocks ⟨hk, ek⟩ hP hS dX1_chuteAt_26 )
    · skip
      exact x_throw hx hb hl0 (ik := 146) (is := 148) (ic := 150) hown (by decide +kernel) (hts (.classLink RX1 146 "java/lang/IndexOutOfBoundsException") (by decide +kernel)) (hts (.initialized "java/lang/IndexOutOfBoundsException") (by decide +kernel)) hK.s148 (vx_hat (B := [.castable "java/lang/IndexOutOfBoundsException" "java/lang/IndexOutOfBoundsException", .declares (Bundle.initS "java/lang/RuntimeException"), .declares (Bundle.initS "java/lang/Exception"), .declares (Bundle.initS "java/lang/Throwable")]) (fun w h => hts w (wxX1_chuteAt_150 w h)) (by decide +kernel) (vx_c (hK.c (by decide)) (vx_c (hK.d (by decide)) (vx_c (hK.d (by decide)) (vx_c (hK.d (by decide)) vx_n))))) (by decide +kernel) hK hP hS hl.1 hml dX1_chuteAt_10 dX1_chuteAt_13 dX1_chuteAt_14 dX1_chuteAt_16 dX1_chuteAt_19 hno (Nat.le_of_ble_eq_true rfl) (Nat.le_of_ble_eq_true rfl) (Nat.le_of_ble_eq_true rfl) (Nat.le_of_ble_eq_true rfl) hlocks ⟨rfl, fun ⟨k, hk, ek⟩ => ix8n2 hk ek c7⟩ (Nat.le_of_ble_eq_true rfl) (Nat.le_of_ble_eq_true rfl)
set_option maxHeartbeats 4000000 in
set_option maxRecDepth 100000 in
/-- suits -/
theorem mtX0_suits (l : Launch) (E : Ev) (hok : e_ok E) (σ : Mem) (o : Nat → Int64) (k : Nat) (hk : k < 8) (w g : Int32) : Met l yX0_suits wsX0_suits ({ frames := 2, cells := 0, slots := 0, locals := 43 } : Room) (PW E σ o [.ref (e_a E (k + 2)), .int (w), .int (g)]) (va_Qi (fun (r : Int32) (σ' : Mem) => r = fitC (σ (k + 2) 3) (σ (k + 2) 4) (σ (k + 2) 5) (σ (k + 2) 6) w g ∧ σ' = σ) (BW E o) (LB (e_B E))) 0 0 (LB (e_B E)) := by
  refine Met.ofW (cc := cX0_suits) (maxL := 3) (ret := (some .boolean)) (by decide) rfl ?_
  intro p e s m args below meth c s₁ B hml hv
  obtain ⟨rfl, hP, hK⟩ := hv
  have hx := B.exec
  have hb := B.bytes
  have hr := B.returns
  have hts := atoms_spec (ws := wsX0_suits) B.pre
  have hown : s.vm.findClass RX0 = some m.cls := findClass_of_methodNamed B.named
  have hlocks := B.notSynchronized
  have hS : va_S (LB (e_B E)) s.heap s.heap [] := va_S.rf
  have hinX0 : ∀ w ∈ wsX00, w ∈ wsX0_suits := fun w h => by simp only [wsX0_suits, List.mem_cons, List.mem_append, h, or_true, true_or]
  have hf18 := hts (.fieldLink RX0 18 "ParcelChutes$Chute" "kind" "I") (by decide +kernel)
  have hf22 := hts (.fieldLink RX0 22 "ParcelChutes$Chute" "low" "I") (by decide +kernel)
  have hf29 := hts (.fieldLink RX0 29 "ParcelChutes$Chute" "high" "I") (by decide +kernel)
  have hf32 := hts (.fieldLink RX0 32 "ParcelChutes$Chute" "wide" "I") (by decide +kernel)
  have hl := lv_entry ([.ref (e_a E (k + 2)), .int (w), .int (g)]) (n := 3) (Nat.le_of_ble_eq_true rfl)
  rw [lg_entry_eq]
  generalize (lg_sl ([.ref (e_a E (k + 2)), .int (w), .int (g)]) ++ List.replicate (3 - (lg_sl ([.ref (e_a E (k + 2)), .int (w), .int (g)])).length) Slot.unset).toArray = ls at hl ⊢
  have hl : lv_has ls 3 [(0, .ref (e_a E (k + 2))), (1, .int (w)), (2, .int (g))] := hl
  refine lv_aload_n hx hb dX0_suits_0 rfl (lv_at hl 0 rfl) ?_
  refine q_get (C := RX0) (T := TX0) (N := 8) (ci := 0) (v := .int (σ (k + 2) 3)) hx hb hts hinX0 hown hK hP (at_ch hk) rfl 3 (by decide) hf18 rfl dX0_suits_1 ?_
  by_cases k4_0 : σ (k + 2) 3 = 0
  · skip
    refine lv_tableIn (off := 32) (tgt := 36) hx hb dX0_suits_4 (by rw [k4_0]; decide) (by rw [k4_0]; decide) (by rw [k4_0]; rfl) (by decide) ?_
    refine lv_aload_n hx hb dX0_suits_36 rfl (lv_at hl 0 rfl) ?_
    refine q_get (C := RX0) (T := TX0) (N := 8) (ci := 0) (v := .int (σ (k + 2) 4)) hx hb hts hinX0 hown hK hP (at_ch hk) rfl 4 (by decide) hf22 rfl dX0_suits_37 ?_
    refine lv_iconst (v := 2) hx hb dX0_suits_40 (by decide) ?_
    refine lv_iload_n hx hb dX0_suits_41 rfl (lv_at hl 1 rfl) ?_
    refine k_SiN (As := [.int (σ (k + 2) 4), .int (2), .int (w)]) (rest := []) ⟨hx, hb, hml, hown, hts⟩ (mtX1_holds l (σ (k + 2) 4) 2 w) ⟨va_cnB 3 hts gX0_suits_X1_holds_n25 rfl rfl rfl hK.nX0_25 (hts (.initialized RX1) (by decide +kernel)) (by decide +kernel) ⟨Nat.le_of_ble_eq_true rfl, Nat.le_of_ble_eq_true rfl⟩, hts (.static yX1_holds) (by decide +kernel), trivial⟩ rfl hl.1 rfl (Nat.le_of_ble_eq_true rfl) dX0_suits_42 ⟨Nat.le_of_ble_eq_true rfl, Nat.le_of_ble_eq_true rfl⟩ (fun r1 er1 => ?_)
    subst er1
    refine lv_if_eq (tgt := 76) hx hb dX0_suits_45 (by decide) (fun c45 => ?_) (fun c45 => ?_)
    · skip
      refine lv_iconst (v := 0) hx hb dX0_suits_76 (by decide) ?_
      exact r_z hx hb hr hlocks rfl hP hS dX0_suits_77 ⟨by simp [fitC, k4_0, c45], rfl⟩
    · skip
      refine lv_iload_n hx hb dX0_suits_48 rfl (lv_at hl 1 rfl) ?_
      refine lv_iconst (v := 1) hx hb dX0_suits_49 (by decide) ?_
      refine lv_aload_n hx hb dX0_suits_50 rfl (lv_at hl 0 rfl) ?_
      refine q_get (C := RX0) (T := TX0) (N := 8) (ci := 0) (v := .int (σ (k + 2) 5)) hx hb hts hinX0 hown hK hP (at_ch hk) rfl 5 (by decide) hf29 rfl dX0_suits_51 ?_
      refine k_SiN (As := [.int (w), .int (1), .int (σ (k + 2) 5)]) (rest := []) ⟨hx, hb, hml, hown, hts⟩ (mtX1_holds l w 1 (σ (k + 2) 5)) ⟨va_cnB 3 hts gX0_suits_X1_holds_n25 rfl rfl rfl hK.nX0_25 (hts (.initialized RX1) (by decide +kernel)) (by decide +kernel) ⟨Nat.le_of_ble_eq_true rfl, Nat.le_of_ble_eq_true rfl⟩, hts (.static yX1_holds) (by decide +kernel), trivial⟩ rfl hl.1 rfl (Nat.le_of_ble_eq_true rfl) dX0_suits_54 ⟨Nat.le_of_ble_eq_true rfl, Nat.le_of_ble_eq_true rfl⟩ (fun r2 er2 => ?_)
      subst er2
      refine lv_if_eq (tgt := 76) hx hb dX0_suits_57 (by decide) (fun c57 => ?_) (fun c57 => ?_)
      · skip
        refine lv_iconst (v := 0) hx hb dX0_suits_76 (by decide) ?_
        exact r_z hx hb hr hlocks rfl hP hS dX0_suits_77 ⟨by simp [fitC, k4_0, c45, c57], rfl⟩
      · skip
        refine lv_iload_n hx hb dX0_suits_60 rfl (lv_at hl 2 rfl) ?_
        refine lv_iconst (v := 2) hx hb dX0_suits_61 (by decide) ?_
        refine lv_aload_n hx hb dX0_suits_62 rfl (lv_at hl 0 rfl) ?_
        refine q_get (C := RX0) (T := TX0) (N := 8) (ci := 0) (v := .int (σ (k + 2) 6)) hx hb hts hinX0 hown hK hP (at_ch hk) rfl 6 (by decide) hf32 rfl dX0_suits_63 ?_
        refine k_SiN (As := [.int (g), .int (2), .int (σ (k + 2) 6)]) (rest := []) ⟨hx, hb, hml, hown, hts⟩ (mtX1_holds l g 2 (σ (k + 2) 6)) ⟨va_cnB 3 hts gX0_suits_X1_holds_n25 rfl rfl rfl hK.nX0_25 (hts (.initialized RX1) (by decide +kernel)) (by decide +kernel) ⟨Nat.le_of_ble_eq_true rfl, Nat.le_of_ble_eq_true rfl⟩, hts (.static yX1_holds) (by decide +kernel), trivial⟩ rfl hl.1 rfl (Nat.le_of_ble_eq_true rfl) dX0_suits_66 ⟨Nat.le_of_ble_eq_true rfl, Nat.le_of_ble_eq_true rfl⟩ (fun r3 er3 => ?_)
        subst er3
        refine lv_if_eq (tgt := 76) hx hb dX0_suits_69 (by decide) (fun c69 => ?_) (fun c69 => ?_)
        · skip
          refine lv_iconst (v := 0) hx hb dX0_suits_76 (by decide) ?_
          exact r_z hx hb hr hlocks rfl hP hS dX0_suits_77 ⟨by simp [fitC, k4_0, c45, c57, c69], rfl⟩
        · skip
          refine lv_iconst (v := 1) hx hb dX0_suits_72 (by decide) ?_
          refine lv_goto (tgt := 77) hx hb dX0_suits_73 (by decide) ?_
          exact r_z hx hb hr hlocks rfl hP hS dX0_suits_77 ⟨by simp [fitC, k4_0, c45, c57, c69], rfl⟩
  by_cases k4_1 : σ (k + 2) 3 = 1
  · skip
    refine lv_tableIn (off := 74) (tgt := 78) hx hb dX0_suits_4 (by rw [k4_1]; decide) (by rw [k4_1]; decide) (by rw [k4_1]; rfl) (by decide) ?_
    refine lv_iload_n hx hb dX0_suits_78 rfl (lv_at hl 1 rfl) ?_
    refine lv_iconst (v := 1) hx hb dX0_suits_79 (by decide) ?_
    refine lv_aload_n hx hb dX0_suits_80 rfl (lv_at hl 0 rfl) ?_
    refine q_get (C := RX0) (T := TX0) (N := 8) (ci := 0) (v := .int (σ (k + 2) 4)) hx hb hts hinX0 hown hK hP (at_ch hk) rfl 4 (by decide) hf22 rfl dX0_suits_81 ?_
    refine k_SiN (As := [.int (w), .int (1), .int (σ (k + 2) 4)]) (rest := []) ⟨hx, hb, hml, hown, hts⟩ (mtX1_holds l w 1 (σ (k + 2) 4)) ⟨va_cnB 3 hts gX0_suits_X1_holds_n25 rfl rfl rfl hK.nX0_25 (hts (.initialized RX1) (by decide +kernel)) (by decide +kernel) ⟨Nat.le_of_ble_eq_true rfl, Nat.le_of_ble_eq_true rfl⟩, hts (.static yX1_holds) (by decide +kernel), trivial⟩ rfl hl.1 rfl (Nat.le_of_ble_eq_true rfl) dX0_suits_84 ⟨Nat.le_of_ble_eq_true rfl, Nat.le_of_ble_eq_true rfl⟩ (fun r4 er4 => ?_)
    subst er4
    refine lv_if_ne (tgt := 119) hx hb dX0_suits_87 (by decide) (fun c87 => ?_) (fun c87 => ?_)
    · skip
      refine lv_iconst (v := 0) hx hb dX0_suits_119 (by decide) ?_
      exact r_z hx hb hr hlocks rfl hP hS dX0_suits_120 ⟨by simp [fitC, k4_0, k4_1, c87], rfl⟩
    · skip
      refine lv_iload_n hx hb dX0_suits_90 rfl (lv_at hl 1 rfl) ?_
      refine lv_bipush (v := 8) hx hb dX0_suits_91 (by decide) ?_
      refine lv_aload_n hx hb dX0_suits_93 rfl (lv_at hl 0 rfl) ?_
      refine q_get (C := RX0) (T := TX0) (N := 8) (ci := 0) (v := .int (σ (k + 2) 5)) hx hb hts hinX0 hown hK hP (at_ch hk) rfl 5 (by decide) hf29 rfl dX0_suits_94 ?_
      refine k_SiN (As := [.int (w), .int (8), .int (σ (k + 2) 5)]) (rest := []) ⟨hx, hb, hml, hown, hts⟩ (mtX1_holds l w 8 (σ (k + 2) 5)) ⟨va_cnB 3 hts gX0_suits_X1_holds_n25 rfl rfl rfl hK.nX0_25 (hts (.initialized RX1) (by decide +kernel)) (by decide +kernel) ⟨Nat.le_of_ble_eq_true rfl, Nat.le_of_ble_eq_true rfl⟩, hts (.static yX1_holds) (by decide +kernel), trivial⟩ rfl hl.1 rfl (Nat.le_of_ble_eq_true rfl) dX0_suits_97 ⟨Nat.le_of_ble_eq_true rfl, Nat.le_of_ble_eq_true rfl⟩ (fun r5 er5 => ?_)
      subst er5
      refine lv_if_ne (tgt := 119) hx hb dX0_suits_100 (by decide) (fun c100 => ?_) (fun c100 => ?_)
      · skip
        refine lv_iconst (v := 0) hx hb dX0_suits_119 (by decide) ?_
        exact r_z hx hb hr hlocks rfl hP hS dX0_suits_120 ⟨by simp [fitC, k4_0, k4_1, c87, c100], rfl⟩
      · skip
        refine lv_iload_n hx hb dX0_suits_103 rfl (lv_at hl 2 rfl) ?_
        refine lv_iconst (v := 4) hx hb dX0_suits_104 (by decide) ?_
        refine lv_aload_n hx hb dX0_suits_105 rfl (lv_at hl 0 rfl) ?_
        refine q_get (C := RX0) (T := TX0) (N := 8) (ci := 0) (v := .int (σ (k + 2) 6)) hx hb hts hinX0 hown hK hP (at_ch hk) rfl 6 (by decide) hf32 rfl dX0_suits_106 ?_
        refine k_SiN (As := [.int (g), .int (4), .int (σ (k + 2) 6)]) (rest := []) ⟨hx, hb, hml, hown, hts⟩ (mtX1_holds l g 4 (σ (k + 2) 6)) ⟨va_cnB 3 hts gX0_suits_X1_holds_n25 rfl rfl rfl hK.nX0_25 (hts (.initialized RX1) (by decide +kernel)) (by decide +kernel) ⟨Nat.le_of_ble_eq_true rfl, Nat.le_of_ble_eq_true rfl⟩, hts (.static yX1_holds) (by decide +kernel), trivial⟩ rfl hl.1 rfl (Nat.le_of_ble_eq_true rfl) dX0_suits_109 ⟨Nat.le_of_ble_eq_true rfl, Nat.le_of_ble_eq_true rfl⟩ (fun r6 er6 => ?_)
        subst er6
        refine lv_if_ne (tgt := 119) hx hb dX0_suits_112 (by decide) (fun c112 => ?_) (fun c112 => ?_)
        · skip
          refine lv_iconst (v := 0) hx hb dX0_suits_119 (by decide) ?_
          exact r_z hx hb hr hlocks rfl hP hS dX0_suits_120 ⟨by simp [fitC, k4_0, k4_1, c87, c100, c112], rfl⟩
        · skip
          refine lv_iconst (v := 1) hx hb dX0_suits_115 (by decide) ?_
          refine lv_goto (tgt := 120) hx hb dX0_suits_116 (by decide) ?_
          exact r_z hx hb hr hlocks rfl hP hS dX0_suits_120 ⟨by simp [fitC, k4_0, k4_1, c87, c100, c112], rfl⟩
  by_cases k4_2 : σ (k + 2) 3 = 2
  · skip
    refine lv_tableIn (off := 117) (tgt := 121) hx hb dX0_suits_4 (by rw [k4_2]; decide) (by rw [k4_2]; decide) (by rw [k4_2]; rfl) (by decide) ?_
    refine lv_iload_n hx hb dX0_suits_121 rfl (lv_at hl 1 rfl) ?_
    refine lv_bipush (v := 16) hx hb dX0_suits_122 (by decide) ?_
    refine lv_aload_n hx hb dX0_suits_124 rfl (lv_at hl 0 rfl) ?_
    refine q_get (C := RX0) (T := TX0) (N := 8) (ci := 0) (v := .int (σ (k + 2) 4)) hx hb hts hinX0 hown hK hP (at_ch hk) rfl 4 (by decide) hf22 rfl dX0_suits_125 ?_
    refine k_SiN (As := [.int (w), .int (16), .int (σ (k + 2) 4)]) (rest := []) ⟨hx, hb, hml, hown, hts⟩ (mtX1_holds l w 16 (σ (k + 2) 4)) ⟨va_cnB 3 hts gX0_suits_X1_holds_n25 rfl rfl rfl hK.nX0_25 (hts (.initialized RX1) (by decide +kernel)) (by decide +kernel) ⟨Nat.le_of_ble_eq_true rfl, Nat.le_of_ble_eq_true rfl⟩, hts (.static yX1_holds) (by decide +kernel), trivial⟩ rfl hl.1 rfl (Nat.le_of_ble_eq_true rfl) dX0_suits_128 ⟨Nat.le_of_ble_eq_true rfl, Nat.le_of_ble_eq_true rfl⟩ (fun r7 er7 => ?_)
    subst er7
    refine lv_if_ne (tgt := 147) hx hb dX0_suits_131 (by decide) (fun c131 => ?_) (fun c131 => ?_)
    · skip
      refine lv_iconst (v := 1) hx hb dX0_suits_147 (by decide) ?_
      refine lv_goto (tgt := 152) hx hb dX0_suits_148 (by decide) ?_
      exact r_z hx hb hr hlocks rfl hP hS dX0_suits_152 ⟨by simp [fitC, k4_0, k4_1, k4_2, c131], rfl⟩
    · skip
      refine lv_iload_n hx hb dX0_suits_134 rfl (lv_at hl 2 rfl) ?_
      refine lv_bipush (v := 16) hx hb dX0_suits_135 (by decide) ?_
      refine lv_aload_n hx hb dX0_suits_137 rfl (lv_at hl 0 rfl) ?_
      refine q_get (C := RX0) (T := TX0) (N := 8) (ci := 0) (v := .int (σ (k + 2) 6)) hx hb hts hinX0 hown hK hP (at_ch hk) rfl 6 (by decide) hf32 rfl dX0_suits_138 ?_
      refine k_SiN (As := [.int (g), .int (16), .int (σ (k + 2) 6)]) (rest := []) ⟨hx, hb, hml, hown, hts⟩ (mtX1_holds l g 16 (σ (k + 2) 6)) ⟨va_cnB 3 hts gX0_suits_X1_holds_n25 rfl rfl rfl hK.nX0_25 (hts (.initialized RX1) (by decide +kernel)) (by decide +kernel) ⟨Nat.le_of_ble_eq_true rfl, Nat.le_of_ble_eq_true rfl⟩, hts (.static yX1_holds) (by decide +kernel), trivial⟩ rfl hl.1 rfl (Nat.le_of_ble_eq_true rfl) dX0_suits_141 ⟨Nat.le_of_ble_eq_true rfl, Nat.le_of_ble_eq_true rfl⟩ (fun r8 er8 => ?_)
      subst er8
      refine lv_if_eq (tgt := 151) hx hb dX0_suits_144 (by decide) (fun c144 => ?_) (fun c144 => ?_)
      · skip
        refine lv_iconst (v := 0) hx hb dX0_suits_151 (by decide) ?_
        exact r_z hx hb hr hlocks rfl hP hS dX0_suits_152 ⟨by simp [fitC, k4_0, k4_1, k4_2, c131, c144], rfl⟩
      · skip
        refine lv_iconst (v := 1) hx hb dX0_suits_147 (by decide) ?_
        refine lv_goto (tgt := 152) hx hb dX0_suits_148 (by decide) ?_
        exact r_z hx hb hr hlocks rfl hP hS dX0_suits_152 ⟨by simp [fitC, k4_0, k4_1, k4_2, c131, c144], rfl⟩
  by_cases k4_3 : σ (k + 2) 3 = 3
  · skip
    refine lv_tableIn (off := 149) (tgt := 153) hx hb dX0_suits_4 (by rw [k4_3]; decide) (by rw [k4_3]; decide) (by rw [k4_3]; rfl) (by decide) ?_
    refine lv_iload_n hx hb dX0_suits_153 rfl (lv_at hl 1 rfl) ?_
    refine lv_bipush (v := 32) hx hb dX0_suits_154 (by decide) ?_
    refine lv_aload_n hx hb dX0_suits_156 rfl (lv_at hl 0 rfl) ?_
    refine q_get (C := RX0) (T := TX0) (N := 8) (ci := 0) (v := .int (σ (k + 2) 4)) hx hb hts hinX0 hown hK hP (at_ch hk) rfl 4 (by decide) hf22 rfl dX0_suits_157 ?_
    refine k_SiN (As := [.int (w), .int (32), .int (σ (k + 2) 4)]) (rest := []) ⟨hx, hb, hml, hown, hts⟩ (mtX1_holds l w 32 (σ (k + 2) 4)) ⟨va_cnB 3 hts gX0_suits_X1_holds_n25 rfl rfl rfl hK.nX0_25 (hts (.initialized RX1) (by decide +kernel)) (by decide +kernel) ⟨Nat.le_of_ble_eq_true rfl, Nat.le_of_ble_eq_true rfl⟩, hts (.static yX1_holds) (by decide +kernel), trivial⟩ rfl hl.1 rfl (Nat.le_of_ble_eq_true rfl) dX0_suits_160 ⟨Nat.le_of_ble_eq_true rfl, Nat.le_of_ble_eq_true rfl⟩ (fun r9 er9 => ?_)
    subst er9
    refine lv_if_eq (tgt := 196) hx hb dX0_suits_163 (by decide) (fun c163 => ?_) (fun c163 => ?_)
    · skip
      refine lv_iconst (v := 0) hx hb dX0_suits_196 (by decide) ?_
      exact r_z hx hb hr hlocks rfl hP hS dX0_suits_197 ⟨by simp [fitC, k4_0, k4_1, k4_2, k4_3, c163], rfl⟩
    · skip
      refine lv_iload_n hx hb dX0_suits_166 rfl (lv_at hl 1 rfl) ?_
      refine lv_bipush (v := 32) hx hb dX0_suits_167 (by decide) ?_
      refine lv_aload_n hx hb dX0_suits_169 rfl (lv_at hl 0 rfl) ?_
      refine q_get (C := RX0) (T := TX0) (N := 8) (ci := 0) (v := .int (σ (k + 2) 5)) hx hb hts hinX0 hown hK hP (at_ch hk) rfl 5 (by decide) hf29 rfl dX0_suits_170 ?_
      refine k_SiN (As := [.int (w), .int (32), .int (σ (k + 2) 5)]) (rest := []) ⟨hx, hb, hml, hown, hts⟩ (mtX1_holds l w 32 (σ (k + 2) 5)) ⟨va_cnB 3 hts gX0_suits_X1_holds_n25 rfl rfl rfl hK.nX0_25 (hts (.initialized RX1) (by decide +kernel)) (by decide +kernel) ⟨Nat.le_of_ble_eq_true rfl, Nat.le_of_ble_eq_true rfl⟩, hts (.static yX1_holds) (by decide +kernel), trivial⟩ rfl hl.1 rfl (Nat.le_of_ble_eq_true rfl) dX0_suits_173 ⟨Nat.le_of_ble_eq_true rfl, Nat.le_of_ble_eq_true rfl⟩ (fun r10 er10 => ?_)
      subst er10
      refine lv_if_eq (tgt := 196) hx hb dX0_suits_176 (by decide) (fun c176 => ?_) (fun c176 => ?_)
      · skip
        refine lv_iconst (v := 0) hx hb dX0_suits_196 (by decide) ?_
        exact r_z hx hb hr hlocks rfl hP hS dX0_suits_197 ⟨by simp [fitC, k4_0, k4_1, k4_2, k4_3, c163, c176], rfl⟩
      · skip
        refine lv_iload_n hx hb dX0_suits_179 rfl (lv_at hl 2 rfl) ?_
        refine lv_bipush (v := 32) hx hb dX0_suits_180 (by decide) ?_
        refine lv_aload_n hx hb dX0_suits_182 rfl (lv_at hl 0 rfl) ?_
        refine q_get (C := RX0) (T := TX0) (N := 8) (ci := 0) (v := .int (σ (k + 2) 6)) hx hb hts hinX0 hown hK hP (at_ch hk) rfl 6 (by decide) hf32 rfl dX0_suits_183 ?_
        refine k_SiN (As := [.int (g), .int (32), .int (σ (k + 2) 6)]) (rest := []) ⟨hx, hb, hml, hown, hts⟩ (mtX1_holds l g 32 (σ (k + 2) 6)) ⟨va_cnB 3 hts gX0_suits_X1_holds_n25 rfl rfl rfl hK.nX0_25 (hts (.initialized RX1) (by decide +kernel)) (by decide +kernel) ⟨Nat.le_of_ble_eq_true rfl, Nat.le_of_ble_eq_true rfl⟩, hts (.static yX1_holds) (by decide +kernel), trivial⟩ rfl hl.1 rfl (Nat.le_of_ble_eq_true rfl) dX0_suits_186 ⟨Nat.le_of_ble_eq_true rfl, Nat.le_of_ble_eq_true rfl⟩ (fun r11 er11 => ?_)
        subst er11
        refine lv_if_eq (tgt := 196) hx hb dX0_suits_189 (by decide) (fun c189 => ?_) (fun c189 => ?_)
        · skip
          refine lv_iconst (v := 0) hx hb dX0_suits_196 (by decide) ?_
          exact r_z hx hb hr hlocks rfl hP hS dX0_suits_197 ⟨by simp [fitC, k4_0, k4_1, k4_2, k4_3, c163, c176, c189], rfl⟩
        · skip
          refine lv_iconst (v := 1) hx hb dX0_suits_192 (by decide) ?_
          refine lv_goto (tgt := 197) hx hb dX0_suits_193 (by decide) ?_
          exact r_z hx hb hr hlocks rfl hP hS dX0_suits_197 ⟨by simp [fitC, k4_0, k4_1, k4_2, k4_3, c163, c176, c189], rfl⟩
  refine lv_tableOut (tgt := 198) hx hb dX0_suits_4 (tb_out3 _ k4_0 k4_1 k4_2 k4_3) (by decide) ?_
  refine lv_iload_n hx hb dX0_suits_198 rfl (lv_at hl 1 rfl) ?_
  refine lv_iconst (v := 4) hx hb dX0_suits_199 (by decide) ?_
  refine lv_aload_n hx hb dX0_suits_200 rfl (lv_at hl 0 rfl) ?_
  refine q_get (C := RX0) (T := TX0) (N := 8) (ci := 0) (v := .int (σ (k + 2) 5)) hx hb hts hinX0 hown hK hP (at_ch hk) rfl 5 (by decide) hf29 rfl dX0_suits_201 ?_
  refine k_SiN (As := [.int (w), .int (4), .int (σ (k + 2) 5)]) (rest := []) ⟨hx, hb, hml, hown, hts⟩ (mtX1_holds l w 4 (σ (k + 2) 5)) ⟨va_cnB 3 hts gX0_suits_X1_holds_n25 rfl rfl rfl hK.nX0_25 (hts (.initialized RX1) (by decide +kernel)) (by decide +kernel) ⟨Nat.le_of_ble_eq_true rfl, Nat.le_of_ble_eq_true rfl⟩, hts (.static yX1_holds) (by decide +kernel), trivial⟩ rfl hl.1 rfl (Nat.le_of_ble_eq_true rfl) dX0_suits_204 ⟨Nat.le_of_ble_eq_true rfl, Nat.le_of_ble_eq_true rfl⟩ (fun r12 er12 => ?_)
  subst er12
  refine lv_if_ne (tgt := 235) hx hb dX0_suits_207 (by decide) (fun c207 => ?_) (fun c207 => ?_)
  · skip
    refine lv_iconst (v := 1) hx hb dX0_suits_235 (by decide) ?_
    refine lv_goto (tgt := 240) hx hb dX0_suits_236 (by decide) ?_
    exact r_z hx hb hr hlocks rfl hP hS dX0_suits_240 ⟨by simp [fitC, k4_0, k4_1, k4_2, k4_3, c207], rfl⟩
  · skip
    refine lv_iload_n hx hb dX0_suits_210 rfl (lv_at hl 1 rfl) ?_
    refine lv_iconst (v := 1) hx hb dX0_suits_211 (by decide) ?_
    refine lv_aload_n hx hb dX0_suits_212 rfl (lv_at hl 0 rfl) ?_
    refine q_get (C := RX0) (T := TX0) (N := 8) (ci := 0) (v := .int (σ (k + 2) 4)) hx hb hts hinX0 hown hK hP (at_ch hk) rfl 4 (by decide) hf22 rfl dX0_suits_213 ?_
    refine k_SiN (As := [.int (w), .int (1), .int (σ (k + 2) 4)]) (rest := []) ⟨hx, hb, hml, hown, hts⟩ (mtX1_holds l w 1 (σ (k + 2) 4)) ⟨va_cnB 3 hts gX0_suits_X1_holds_n25 rfl rfl rfl hK.nX0_25 (hts (.initialized RX1) (by decide +kernel)) (by decide +kernel) ⟨Nat.le_of_ble_eq_true rfl, Nat.le_of_ble_eq_true rfl⟩, hts (.static yX1_holds) (by decide +kernel), trivial⟩ rfl hl.1 rfl (Nat.le_of_ble_eq_true rfl) dX0_suits_216 ⟨Nat.le_of_ble_eq_true rfl, Nat.le_of_ble_eq_true rfl⟩ (fun r13 er13 => ?_)
    subst er13
    refine lv_if_ne (tgt := 235) hx hb dX0_suits_219 (by decide) (fun c219 => ?_) (fun c219 => ?_)
    · skip
      refine lv_iconst (v := 1) hx hb dX0_suits_235 (by decide) ?_
      refine lv_goto (tgt := 240) hx hb dX0_suits_236 (by decide) ?_
      exact r_z hx hb hr hlocks rfl hP hS dX0_suits_240 ⟨by simp [fitC, k4_0, k4_1, k4_2, k4_3, c207, c219], rfl⟩
    · skip
      refine lv_iload_n hx hb dX0_suits_222 rfl (lv_at hl 2 rfl) ?_
      refine lv_bipush (v := 8) hx hb dX0_suits_223 (by decide) ?_
      refine lv_aload_n hx hb dX0_suits_225 rfl (lv_at hl 0 rfl) ?_
      refine q_get (C := RX0) (T := TX0) (N := 8) (ci := 0) (v := .int (σ (k + 2) 6)) hx hb hts hinX0 hown hK hP (at_ch hk) rfl 6 (by decide) hf32 rfl dX0_suits_226 ?_
      refine k_SiN (As := [.int (g), .int (8), .int (σ (k + 2) 6)]) (rest := []) ⟨hx, hb, hml, hown, hts⟩ (mtX1_holds l g 8 (σ (k + 2) 6)) ⟨va_cnB 3 hts gX0_suits_X1_holds_n25 rfl rfl rfl hK.nX0_25 (hts (.initialized RX1) (by decide +kernel)) (by decide +kernel) ⟨Nat.le_of_ble_eq_true rfl, Nat.le_of_ble_eq_true rfl⟩, hts (.static yX1_holds) (by decide +kernel), trivial⟩ rfl hl.1 rfl (Nat.le_of_ble_eq_true rfl) dX0_suits_229 ⟨Nat.le_of_ble_eq_true rfl, Nat.le_of_ble_eq_true rfl⟩ (fun r14 er14 => ?_)
      subst er14
      refine lv_if_eq (tgt := 239) hx hb dX0_suits_232 (by decide) (fun c232 => ?_) (fun c232 => ?_)
      · skip
        refine lv_iconst (v := 0) hx hb dX0_suits_239 (by decide) ?_
        exact r_z hx hb hr hlocks rfl hP hS dX0_suits_240 ⟨by simp [fitC, k4_0, k4_1, k4_2, k4_3, c207, c219, c232], rfl⟩
      · skip
        refine lv_iconst (v := 1) hx hb dX0_suits_235 (by decide) ?_
        refine lv_goto (tgt := 240) hx hb dX0_suits_236 (by decide) ?_
        exact r_z hx hb hr hlocks rfl hP hS dX0_suits_240 ⟨by simp [fitC, k4_0, k4_1, k4_2, k4_3, c207, c219, c232], rfl⟩
set_option maxHeartbeats 4000000 in
set_option maxRecDepth 100000 in
/-- placeFor -/
theorem mtX0_placeFor (l : Launch) (E : Ev) (hok : e_ok E) (σ : Mem) (o : Nat → Int64) (k : Nat) (hk : k < 8) (n : Nat) (hn : σ (k + 2) 2 = nI n) (h12 : n ≤ 12) (w : Int32) : Met l yX0_placeFor wsX0_placeFor ({ frames := 2, cells := 0, slots := 0, locals := 43 } : Room) (PW E σ o [.ref (e_a E (k + 2)), .int (w)]) (va_Qi (fun (r : Int32) (σ' : Mem) => (∃ q : Nat, r = nI q ∧ q ≤ n ∧ ((w = 0 ∧ q = n) ∨ (w ≠ 0 ∧ (∀ a, a < q → hd (σ (k + 10) a) w 2 ≠ 0) ∧ (q < n → hd (σ (k + 10) q) w 2 = 0)))) ∧ σ' = σ) (BW E o) (LB (e_B E))) 0 0 (LB (e_B E)) := by
  refine Met.ofW (cc := cX0_placeFor) (maxL := 3) (ret := (some .int)) (by decide) rfl ?_
  intro p e s m args below meth c s₁ B hml hv
  obtain ⟨rfl, hP, hK⟩ := hv
  have hx := B.exec
  have hb := B.bytes
  have hr := B.returns
  have hts := atoms_spec (ws := wsX0_placeFor) B.pre
  have hown : s.vm.findClass RX0 = some m.cls := findClass_of_methodNamed B.named
  have hlocks := B.notSynchronized
  have hS : va_S (LB (e_B E)) s.heap s.heap [] := va_S.rf
  have hinX0 : ∀ w ∈ wsX00, w ∈ wsX0_placeFor := fun w h => by simp only [wsX0_placeFor, List.mem_cons, List.mem_append, h, or_true, true_or]
  have hf9 := hts (.fieldLink RX0 9 "ParcelChutes$Chute" "weights" "[I") (by decide +kernel)
  have hf35 := hts (.fieldLink RX0 35 "ParcelChutes$Chute" "count" "I") (by decide +kernel)
  have hl := lv_entry ([.ref (e_a E (k + 2)), .int (w)]) (n := 3) (Nat.le_of_ble_eq_true rfl)
  rw [lg_entry_eq]
  generalize (lg_sl ([.ref (e_a E (k + 2)), .int (w)]) ++ List.replicate (3 - (lg_sl ([.ref (e_a E (k + 2)), .int (w)])).length) Slot.unset).toArray = ls at hl ⊢
  have hl : lv_has ls 3 [(0, .ref (e_a E (k + 2))), (1, .int (w))] := hl
  refine lv_iload_n hx hb dX0_placeFor_0 rfl (lv_at hl 1 rfl) ?_
  refine lv_if_ne (tgt := 9) hx hb dX0_placeFor_1 (by decide) (fun c1 => ?_) (fun c1 => ?_)
  · skip
    refine lv_iconst (v := 0) hx hb dX0_placeFor_9 (by decide) ?_
    refine lv_istore_n (lv' := [(2, .int (0)), (0, .ref (e_a E (k + 2))), (1, .int (w))]) hx hb dX0_placeFor_10 rfl hl (by decide) rfl (fun ls hl => ?_)
    refine w_loop (E := E) (o := o) (ι := Nat) (μ := fun i => 12 - i) (I := fun i => i ≤ n ∧ ∀ a, a < i → hd (σ (k + 10) a) w 2 ≠ 0) (mem := fun _ => σ) (lv := fun i => [(2, .int (nI (i))), (0, .ref (e_a E (k + 2))), (1, .int (w))]) (nL := 3) (pch := 11) ?_ (0) (show (0) ≤ n ∧ ∀ a, a < (0) → hd (σ (k + 10) a) w 2 ≠ 0 from ⟨Nat.zero_le _, fun a h => absurd h (Nat.not_lt_zero a)⟩) hP hS (lv_sub hl [0, 1, 2] rfl)
    rintro i hI IH H locs ls hP hS hl
    have hP : va_P (e_D E) vwCl (wd E σ o) H := hP
    have hl : lv_has ls 3 [(2, .int (nI (i))), (0, .ref (e_a E (k + 2))), (1, .int (w))] := hl
    have hI : i ≤ n ∧ ∀ a, a < i → hd (σ (k + 10) a) w 2 ≠ 0 := hI
    refine lv_iload_n hx hb dX0_placeFor_11 rfl (lv_at hl 0 rfl) ?_
    refine lv_aload_n hx hb dX0_placeFor_12 rfl (lv_at hl 1 rfl) ?_
    refine q_get (C := RX0) (T := TX0) (N := 8) (ci := 0) (v := .int (σ (k + 2) 2)) hx hb hts hinX0 hown hK hP (at_ch hk) rfl 2 (by decide) hf35 rfl dX0_placeFor_13 ?_
    refine nb_ge (i := i) (j := n) hx hb rfl hn (by omega) (by omega) dX0_placeFor_16 (tgt := 39) (by decide) (fun c16 => ?_) (fun c16 => ?_)
    · skip
      refine lv_iload_n hx hb dX0_placeFor_39 rfl (lv_at hl 0 rfl) ?_
      exact r_i hx hb hr hlocks hP hS dX0_placeFor_40 ⟨⟨i, rfl, by omega, Or.inr ⟨c1, hI.2, fun h => absurd h (by omega)⟩⟩, rfl⟩
    · skip
      refine lv_aload_n hx hb dX0_placeFor_19 rfl (lv_at hl 1 rfl) ?_
      refine q_get (C := RX0) (T := TX0) (N := 8) (ci := 0) (v := .ref (e_a E (k + 10))) hx hb hts hinX0 hown hK hP (at_ch hk) rfl 0 (by decide) hf9 rfl dX0_placeFor_20 ?_
      refine lv_iload_n hx hb dX0_placeFor_23 rfl (lv_at hl 0 rfl) ?_
      refine q_ld hx hb hK hP (at_wt hk) (i := i) rfl (by omega) (by decide) dX0_placeFor_24 ?_
      refine lv_iconst (v := 2) hx hb dX0_placeFor_25 (by decide) ?_
      refine lv_iload_n hx hb dX0_placeFor_26 rfl (lv_at hl 2 rfl) ?_
      refine k_SiN (As := [.int (σ (k + 10) (i)), .int (2), .int (w)]) (rest := []) ⟨hx, hb, hml, hown, hts⟩ (mtX1_holds l (σ (k + 10) (i)) 2 w) ⟨va_cnB 3 hts gX0_placeFor_X1_holds_n25 rfl rfl rfl hK.nX0_25 (hts (.initialized RX1) (by decide +kernel)) (by decide +kernel) ⟨Nat.le_of_ble_eq_true rfl, Nat.le_of_ble_eq_true rfl⟩, hts (.static yX1_holds) (by decide +kernel), trivial⟩ rfl hl.1 rfl (Nat.le_of_ble_eq_true rfl) dX0_placeFor_27 ⟨Nat.le_of_ble_eq_true rfl, Nat.le_of_ble_eq_true rfl⟩ (fun r1 er1 => ?_)
      subst er1
      refine lv_if_eq (tgt := 39) hx hb dX0_placeFor_30 (by decide) (fun c30 => ?_) (fun c30 => ?_)
      · skip
        refine lv_iload_n hx hb dX0_placeFor_39 rfl (lv_at hl 0 rfl) ?_
        exact r_i hx hb hr hlocks hP hS dX0_placeFor_40 ⟨⟨i, rfl, by omega, Or.inr ⟨c1, hI.2, fun _ => c30⟩⟩, rfl⟩
      · skip
        refine lv_iinc (v := nI (i + 1)) (lv' := [(2, .int (nI (i + 1))), (0, .ref (e_a E (k + 2))), (1, .int (w))]) hx hb dX0_placeFor_33 hl (k := 0) rfl (by exact nI_add (i) 1) (by decide) rfl (fun ls hl => ?_)
        refine lv_goto (tgt := 11) hx hb dX0_placeFor_36 (by decide) ?_
        exact IH (i + 1) (show (i + 1) ≤ n ∧ ∀ a, a < (i + 1) → hd (σ (k + 10) a) w 2 ≠ 0 from ⟨by omega, lt_s hI.2 c30⟩) (by (try dsimp only); omega) _ _ _ hP hS (lv_sub hl [0, 1, 2] rfl)
  · skip
    refine lv_aload_n hx hb dX0_placeFor_4 rfl (lv_at hl 0 rfl) ?_
    refine q_get (C := RX0) (T := TX0) (N := 8) (ci := 0) (v := .int (σ (k + 2) 2)) hx hb hts hinX0 hown hK hP (at_ch hk) rfl 2 (by decide) hf35 rfl dX0_placeFor_5 ?_
    exact r_i hx hb hr hlocks hP hS dX0_placeFor_8 ⟨⟨n, hn, Nat.le_refl _, Or.inl ⟨c1, rfl⟩⟩, rfl⟩
set_option maxHeartbeats 4000000 in
set_option maxRecDepth 100000 in
/-- firstOf -/
theorem mtX0_firstOf (l : Launch) (E : Ev) (hok : e_ok E) (σ : Mem) (o : Nat → Int64) (k : Nat) (hk : k < 8) (n : Nat) (hn : σ (k + 2) 2 = nI n) (h12 : n ≤ 12) (w : Int32) : Met l yX0_firstOf wsX0_firstOf ({ frames := 0, cells := 0, slots := 0, locals := 0 } : Room) (PW E σ o [.ref (e_a E (k + 2)), .int (w)]) (va_Qi (fun (r : Int32) (σ' : Mem) => ((∃ q : Nat, q < n ∧ r = nI q ∧ σ (k + 10) q = w ∧ ∀ a, a < q → σ (k + 10) a ≠ w) ∨ (r = -1 ∧ ∀ a, a < n → σ (k + 10) a ≠ w)) ∧ σ' = σ) (BW E o) (LB (e_B E))) 0 0 (LB (e_B E)) := by
  refine Met.ofW (cc := cX0_firstOf) (maxL := 3) (ret := (some .int)) (by decide) rfl ?_
  intro p e s m args below meth c s₁ B hml hv
  obtain ⟨rfl, hP, hK⟩ := hv
  have hx := B.exec
  have hb := B.bytes
  have hr := B.returns
  have hts := atoms_spec (ws := wsX0_firstOf) B.pre
  have hown : s.vm.findClass RX0 = some m.cls := findClass_of_methodNamed B.named
  have hlocks := B.notSynchronized
  have hS : va_S (LB (e_B E)) s.heap s.heap [] := va_S.rf
  have hinX0 : ∀ w ∈ wsX00, w ∈ wsX0_firstOf := fun w h => by simp only [wsX0_firstOf, List.mem_cons, List.mem_append, h, or_true, true_or]
  have hf9 := hts (.fieldLink RX0 9 "ParcelChutes$Chute" "weights" "[I") (by decide +kernel)
  have hf35 := hts (.fieldLink RX0 35 "ParcelChutes$Chute" "count" "I") (by decide +kernel)
  have hl := lv_entry ([.ref (e_a E (k + 2)), .int (w)]) (n := 3) (Nat.le_of_ble_eq_true rfl)
  rw [lg_entry_eq]
  generalize (lg_sl ([.ref (e_a E (k + 2)), .int (w)]) ++ List.replicate (3 - (lg_sl ([.ref (e_a E (k + 2)), .int (w)])).length) Slot.unset).toArray = ls at hl ⊢
  have hl : lv_has ls 3 [(0, .ref (e_a E (k + 2))), (1, .int (w))] := hl
  refine lv_iconst (v := 0) hx hb dX0_firstOf_0 (by decide) ?_
  refine lv_istore_n (lv' := [(2, .int (0)), (0, .ref (e_a E (k + 2))), (1, .int (w))]) hx hb dX0_firstOf_1 rfl hl (by decide) rfl (fun ls hl => ?_)
  refine w_loop (E := E) (o := o) (ι := Nat) (μ := fun i => 12 - i) (I := fun i => i ≤ n ∧ ∀ a, a < i → σ (k + 10) a ≠ w) (mem := fun _ => σ) (lv := fun i => [(2, .int (nI (i))), (0, .ref (e_a E (k + 2))), (1, .int (w))]) (nL := 3) (pch := 2) ?_ (0) (show (0) ≤ n ∧ ∀ a, a < (0) → σ (k + 10) a ≠ w from ⟨Nat.zero_le _, fun a h => absurd h (Nat.not_lt_zero a)⟩) hP hS (lv_sub hl [0, 1, 2] rfl)
  rintro i hI IH H locs ls hP hS hl
  have hP : va_P (e_D E) vwCl (wd E σ o) H := hP
  have hl : lv_has ls 3 [(2, .int (nI (i))), (0, .ref (e_a E (k + 2))), (1, .int (w))] := hl
  have hI : i ≤ n ∧ ∀ a, a < i → σ (k + 10) a ≠ w := hI
  refine lv_iload_n hx hb dX0_firstOf_2 rfl (lv_at hl 0 rfl) ?_
  refine lv_aload_n hx hb dX0_firstOf_3 rfl (lv_at hl 1 rfl) ?_
  refine q_get (C := RX0) (T := TX0) (N := 8) (ci := 0) (v := .int (σ (k + 2) 2)) hx hb hts hinX0 hown hK hP (at_ch hk) rfl 2 (by decide) hf35 rfl dX0_firstOf_4 ?_
  refine nb_ge (i := i) (j := n) hx hb rfl hn (by omega) (by omega) dX0_firstOf_7 (tgt := 28) (by decide) (fun c7 => ?_) (fun c7 => ?_)
  · skip
    refine lv_iconst (v := (-1)) hx hb dX0_firstOf_28 (by decide) ?_
    exact r_i hx hb hr hlocks hP hS dX0_firstOf_29 ⟨Or.inr ⟨rfl, fun a h => hI.2 a (by omega)⟩, rfl⟩
  · skip
    refine lv_aload_n hx hb dX0_firstOf_10 rfl (lv_at hl 1 rfl) ?_
    refine q_get (C := RX0) (T := TX0) (N := 8) (ci := 0) (v := .ref (e_a E (k + 10))) hx hb hts hinX0 hown hK hP (at_ch hk) rfl 0 (by decide) hf9 rfl dX0_firstOf_11 ?_
    refine lv_iload_n hx hb dX0_firstOf_14 rfl (lv_at hl 0 rfl) ?_
    refine q_ld hx hb hK hP (at_wt hk) (i := i) rfl (by omega) (by decide) dX0_firstOf_15 ?_
    refine lv_iload_n hx hb dX0_firstOf_16 rfl (lv_at hl 2 rfl) ?_
    refine lv_icmp_ne (tgt := 22) hx hb dX0_firstOf_17 (by decide) (fun c17 => ?_) (fun c17 => ?_)
    · skip
      refine lv_iinc (v := nI (i + 1)) (lv' := [(2, .int (nI (i + 1))), (0, .ref (e_a E (k + 2))), (1, .int (w))]) hx hb dX0_firstOf_22 hl (k := 0) rfl (by exact nI_add (i) 1) (by decide) rfl (fun ls hl => ?_)
      refine lv_goto (tgt := 2) hx hb dX0_firstOf_25 (by decide) ?_
      exact IH (i + 1) (show (i + 1) ≤ n ∧ ∀ a, a < (i + 1) → σ (k + 10) a ≠ w from ⟨by omega, lt_s hI.2 c17⟩) (by (try dsimp only); omega) _ _ _ hP hS (lv_sub hl [0, 1, 2] rfl)
    · skip
      refine lv_iload_n hx hb dX0_firstOf_20 rfl (lv_at hl 0 rfl) ?_
      exact r_i hx hb hr hlocks hP hS dX0_firstOf_21 ⟨Or.inl ⟨i, by omega, rfl, c17, hI.2⟩, rfl⟩
set_option maxHeartbeats 4000000 in
set_option maxRecDepth 100000 in
/-- removeAt -/
theorem mtX0_removeAt (l : Launch) (E : Ev) (hok : e_ok E) (σ : Mem) (o : Nat → Int64) (k : Nat) (hk : k < 8) (n q : Nat) (hn : σ (k + 2) 2 = nI n) (h12 : n ≤ 12) (hqn : q < n) : Met l yX0_removeAt wsX0_removeAt ({ frames := 0, cells := 0, slots := 0, locals := 0 } : Room) (PW E σ o [.ref (e_a E (k + 2)), .int (nI (q))]) (va_Qv (fun (σ' : Mem) => σ' = m_rem σ k q n) (BW E o) (LB (e_B E))) 0 0 (LB (e_B E)) := by
  refine Met.ofW (cc := cX0_removeAt) (maxL := 3) (ret := none) (by decide) rfl ?_
  intro p e s m args below meth c s₁ B hml hv
  obtain ⟨rfl, hP, hK⟩ := hv
  have hx := B.exec
  have hb := B.bytes
  have hr := B.returns
  have hts := atoms_spec (ws := wsX0_removeAt) B.pre
  have hown : s.vm.findClass RX0 = some m.cls := findClass_of_methodNamed B.named
  have hlocks := B.notSynchronized
  have hS : va_S (LB (e_B E)) s.heap s.heap [] := va_S.rf
  have hinX0 : ∀ w ∈ wsX00, w ∈ wsX0_removeAt := fun w h => by simp only [wsX0_removeAt, List.mem_cons, List.mem_append, h, or_true, true_or]
  have hf9 := hts (.fieldLink RX0 9 "ParcelChutes$Chute" "weights" "[I") (by decide +kernel)
  have hf15 := hts (.fieldLink RX0 15 "ParcelChutes$Chute" "girths" "[I") (by decide +kernel)
  have hf35 := hts (.fieldLink RX0 35 "ParcelChutes$Chute" "count" "I") (by decide +kernel)
  have hl := lv_entry ([.ref (e_a E (k + 2)), .int (nI (q))]) (n := 3) (Nat.le_of_ble_eq_true rfl)
  rw [lg_entry_eq]
  generalize (lg_sl ([.ref (e_a E (k + 2)), .int (nI (q))]) ++ List.replicate (3 - (lg_sl ([.ref (e_a E (k + 2)), .int (nI (q))])).length) Slot.unset).toArray = ls at hl ⊢
  have hl : lv_has ls 3 [(0, .ref (e_a E (k + 2))), (1, .int (nI (q)))] := hl
  refine lv_aload_n hx hb dX0_removeAt_0 rfl (lv_at hl 0 rfl) ?_
  refine lv_dup hx hb dX0_removeAt_1 rfl ?_
  refine q_get (C := RX0) (T := TX0) (N := 8) (ci := 0) (v := .int (σ (k + 2) 2)) hx hb hts hinX0 hown hK hP (at_ch hk) rfl 2 (by decide) hf35 rfl dX0_removeAt_2 ?_
  refine lv_iconst (v := 1) hx hb dX0_removeAt_5 (by decide) ?_
  refine lv_isub hx hb dX0_removeAt_6 ?_
  refine q_put (C := RX0) (T := TX0) (N := 8) (ci := 0) (ty := .int) (v := (σ (k + 2) 2) - 1) hx hb hts hinX0 tyX0 tyX0_ok nmX0 hown hok hK hP hS (at_ch hk) (by omega) rfl 2 (by decide) hf35 rfl (tyX0_ok 2 (by decide)) rfl rfl (Nat.le_of_ble_eq_true rfl) (by rw [wc_ch hk]; rfl) dX0_removeAt_7 (fun H locs hP hS => ?_)
  have eM : (m_up σ (k + 2) 2 ((σ (k + 2) 2) - 1) : Mem) = m_sh σ k q q (nI (n - 1)) := by rw [show σ (k + 2) 2 - 1 = nI (n - 1) by rw [hn]; exact pk_sub (a := n) (b := 1) (by omega)]; exact m_sh_0 σ k q _
  rw [eM] at hP
  have hcn : ∀ i : Nat, m_sh σ k q i (nI (n - 1)) (k + 2) 2 = nI (n - 1) := fun i => by simp [m_sh, upd]
  refine lv_iload_n hx hb dX0_removeAt_10 rfl (lv_at hl 1 rfl) ?_
  refine lv_istore_n (lv' := [(2, .int (nI (q))), (0, .ref (e_a E (k + 2))), (1, .int (nI (q)))]) hx hb dX0_removeAt_11 rfl hl (by decide) rfl (fun ls hl => ?_)
  refine w_loop (E := E) (o := o) (ι := Nat) (μ := fun i => 12 - i) (I := fun i => q ≤ i ∧ i ≤ n - 1) (mem := fun i => m_sh σ k q i (nI (n - 1))) (lv := fun i => [(2, .int (nI (i))), (0, .ref (e_a E (k + 2)))]) (nL := 3) (pch := 12) ?_ (q) (show q ≤ (q) ∧ (q) ≤ n - 1 from ⟨Nat.le_refl _, by omega⟩) hP hS (lv_sub hl [0, 1] rfl)
  rintro i hI IH H locs ls hP hS hl
  have hP : va_P (e_D E) vwCl (wd E (m_sh σ k q i (nI (n - 1))) o) H := hP
  have hl : lv_has ls 3 [(2, .int (nI (i))), (0, .ref (e_a E (k + 2)))] := hl
  have hI : q ≤ i ∧ i ≤ n - 1 := hI
  refine lv_iload_n hx hb dX0_removeAt_12 rfl (lv_at hl 0 rfl) ?_
  refine lv_aload_n hx hb dX0_removeAt_13 rfl (lv_at hl 1 rfl) ?_
  refine q_get (C := RX0) (T := TX0) (N := 8) (ci := 0) (v := .int ((m_sh σ k q i (nI (n - 1))) (k + 2) 2)) hx hb hts hinX0 hown hK hP (at_ch hk) rfl 2 (by decide) hf35 rfl dX0_removeAt_14 ?_
  refine nb_ge (i := i) (j := n - 1) hx hb rfl (hcn _) (by omega) (by omega) dX0_removeAt_17 (tgt := 54) (by decide) (fun c17 => ?_) (fun c17 => ?_)
  · skip
    exact r_v hx hb hr hlocks hP hS dX0_removeAt_54 (by rw [show i = n - 1 by omega]; rfl)
  · skip
    refine lv_aload_n hx hb dX0_removeAt_20 rfl (lv_at hl 1 rfl) ?_
    refine q_get (C := RX0) (T := TX0) (N := 8) (ci := 0) (v := .ref (e_a E (k + 10))) hx hb hts hinX0 hown hK hP (at_ch hk) rfl 0 (by decide) hf9 rfl dX0_removeAt_21 ?_
    refine lv_iload_n hx hb dX0_removeAt_24 rfl (lv_at hl 0 rfl) ?_
    refine lv_aload_n hx hb dX0_removeAt_25 rfl (lv_at hl 1 rfl) ?_
    refine q_get (C := RX0) (T := TX0) (N := 8) (ci := 0) (v := .ref (e_a E (k + 10))) hx hb hts hinX0 hown hK hP (at_ch hk) rfl 0 (by decide) hf9 rfl dX0_removeAt_26 ?_
    refine lv_iload_n hx hb dX0_removeAt_29 rfl (lv_at hl 0 rfl) ?_
    refine lv_iconst (v := 1) hx hb dX0_removeAt_30 (by decide) ?_
    refine lv_iadd hx hb dX0_removeAt_31 ?_
    refine q_ld hx hb hK hP (at_wt hk) (i := i + 1) (by first | exact nI_add (i) (1) | (simp only [nI]; exact nI_add _ _)) (by omega) (by decide) dX0_removeAt_32 ?_
    refine q_st hx hb hok hK hP hS (at_wt hk) (fun r => (wc_wt (k := k) hk).symm) (by omega) (i := i) rfl (by omega) (by decide) dX0_removeAt_33 (fun H locs hP hS => ?_)
    refine lv_aload_n hx hb dX0_removeAt_34 rfl (lv_at hl 1 rfl) ?_
    refine q_get (C := RX0) (T := TX0) (N := 8) (ci := 0) (v := .ref (e_a E (k + 18))) hx hb hts hinX0 hown hK hP (at_ch hk) rfl 1 (by decide) hf15 rfl dX0_removeAt_35 ?_
    refine lv_iload_n hx hb dX0_removeAt_38 rfl (lv_at hl 0 rfl) ?_
    refine lv_aload_n hx hb dX0_removeAt_39 rfl (lv_at hl 1 rfl) ?_
    refine q_get (C := RX0) (T := TX0) (N := 8) (ci := 0) (v := .ref (e_a E (k + 18))) hx hb hts hinX0 hown hK hP (at_ch hk) rfl 1 (by decide) hf15 rfl dX0_removeAt_40 ?_
    refine lv_iload_n hx hb dX0_removeAt_43 rfl (lv_at hl 0 rfl) ?_
    refine lv_iconst (v := 1) hx hb dX0_removeAt_44 (by decide) ?_
    refine lv_iadd hx hb dX0_removeAt_45 ?_
    refine q_ld hx hb hK hP (at_gi hk) (i := i + 1) (by first | exact nI_add (i) (1) | (simp only [nI]; exact nI_add _ _)) (by omega) (by decide) dX0_removeAt_46 ?_
    refine q_st hx hb hok hK hP hS (at_gi hk) (fun r => (wc_gi (k := k) hk).symm) (by omega) (i := i) rfl (by omega) (by decide) dX0_removeAt_47 (fun H locs hP hS => ?_)
    refine lv_iinc (v := nI (i + 1)) (lv' := [(2, .int (nI (i + 1))), (0, .ref (e_a E (k + 2)))]) hx hb dX0_removeAt_48 hl (k := 0) rfl (by exact nI_add (i) 1) (by decide) rfl (fun ls hl => ?_)
    refine lv_goto (tgt := 12) hx hb dX0_removeAt_51 (by decide) ?_
    rw [m_sh_step σ (nI (n - 1)) hI.1] at hP
    exact IH (i + 1) (show q ≤ (i + 1) ∧ (i + 1) ≤ n - 1 from ⟨by omega, by omega⟩) (by (try dsimp only); omega) _ _ _ hP hS (lv_sub hl [0, 1] rfl)
set_option maxHeartbeats 4000000 in
set_option maxRecDepth 100000 in
/-- unknownIn -/
theorem mtX0_unknownIn_w (l : Launch) (E : Ev) (hok : e_ok E) (σ : Mem) (o : Nat → Int64) (k : Nat) (hk : k < 8) (n : Nat) (hn : σ (k + 2) 2 = nI n) (h12 : n ≤ 12) : Met l yX0_unknownIn wsX0_unknownIn ({ frames := 1, cells := 0, slots := 0, locals := 20 } : Room) (PW E σ o [.ref (e_a E (k + 2)), .ref (e_a E (k + 10))]) (va_Qi (fun (r : Int32) (σ' : Mem) => r = nI (cz (σ (k + 10)) n) ∧ σ' = σ) (BW E o) (LB (e_B E))) 0 0 (LB (e_B E)) := by
  refine Met.ofW (cc := cX0_unknownIn) (maxL := 4) (ret := (some .int)) (by decide) rfl ?_
  intro p e s m args below meth c s₁ B hml hv
  obtain ⟨rfl, hP, hK⟩ := hv
  have hx := B.exec
  have hb := B.bytes
  have hr := B.returns
  have hts := atoms_spec (ws := wsX0_unknownIn) B.pre
  have hown : s.vm.findClass RX0 = some m.cls := findClass_of_methodNamed B.named
  have hlocks := B.notSynchronized
  have hS : va_S (LB (e_B E)) s.heap s.heap [] := va_S.rf
  have hinX0 : ∀ w ∈ wsX00, w ∈ wsX0_unknownIn := fun w h => by simp only [wsX0_unknownIn, List.mem_cons, List.mem_append, h, or_true, true_or]
  have hf35 := hts (.fieldLink RX0 35 "ParcelChutes$Chute" "count" "I") (by decide +kernel)
  have hl := lv_entry ([.ref (e_a E (k + 2)), .ref (e_a E (k + 10))]) (n := 4) (Nat.le_of_ble_eq_true rfl)
  rw [lg_entry_eq]
  generalize (lg_sl ([.ref (e_a E (k + 2)), .ref (e_a E (k + 10))]) ++ List.replicate (4 - (lg_sl ([.ref (e_a E (k + 2)), .ref (e_a E (k + 10))])).length) Slot.unset).toArray = ls at hl ⊢
  have hl : lv_has ls 4 [(0, .ref (e_a E (k + 2))), (1, .ref (e_a E (k + 10)))] := hl
  refine lv_iconst (v := 0) hx hb dX0_unknownIn_0 (by decide) ?_
  refine lv_istore_n (lv' := [(2, .int (0)), (0, .ref (e_a E (k + 2))), (1, .ref (e_a E (k + 10)))]) hx hb dX0_unknownIn_1 rfl hl (by decide) rfl (fun ls hl => ?_)
  refine lv_iconst (v := 0) hx hb dX0_unknownIn_2 (by decide) ?_
  refine lv_istore_n (lv' := [(3, .int (0)), (2, .int (0)), (0, .ref (e_a E (k + 2))), (1, .ref (e_a E (k + 10)))]) hx hb dX0_unknownIn_3 rfl hl (by decide) rfl (fun ls hl => ?_)
  refine w_loop (E := E) (o := o) (ι := Nat × Int32) (μ := fun (i, x) => 12 - i) (I := fun (i, x) => i ≤ n ∧ x = nI (cz (σ (k + 10)) i)) (mem := fun _ => σ) (lv := fun (i, x) => [(3, .int (nI (i))), (2, .int (x)), (0, .ref (e_a E (k + 2))), (1, .ref (e_a E (k + 10)))]) (nL := 4) (pch := 4) ?_ ((0), (0)) (show (0) ≤ n ∧ (0) = nI (cz (σ (k + 10)) (0)) from ⟨Nat.zero_le _, rfl⟩) hP hS (lv_sub hl [0, 1, 2, 3] rfl)
  rintro ⟨i, x⟩ hI IH H locs ls hP hS hl
  have hP : va_P (e_D E) vwCl (wd E σ o) H := hP
  have hl : lv_has ls 4 [(3, .int (nI (i))), (2, .int (x)), (0, .ref (e_a E (k + 2))), (1, .ref (e_a E (k + 10)))] := hl
  have hI : i ≤ n ∧ x = nI (cz (σ (k + 10)) i) := hI
  refine lv_iload_n hx hb dX0_unknownIn_4 rfl (lv_at hl 0 rfl) ?_
  refine lv_aload_n hx hb dX0_unknownIn_5 rfl (lv_at hl 2 rfl) ?_
  refine q_get (C := RX0) (T := TX0) (N := 8) (ci := 0) (v := .int (σ (k + 2) 2)) hx hb hts hinX0 hown hK hP (at_ch hk) rfl 2 (by decide) hf35 rfl dX0_unknownIn_6 ?_
  refine nb_ge (i := i) (j := n) hx hb rfl hn (by omega) (by omega) dX0_unknownIn_9 (tgt := 35) (by decide) (fun c9 => ?_) (fun c9 => ?_)
  · skip
    refine lv_iload_n hx hb dX0_unknownIn_35 rfl (lv_at hl 1 rfl) ?_
    exact r_i hx hb hr hlocks hP hS dX0_unknownIn_36 ⟨by rw [hI.2, show i = n by omega], rfl⟩
  · skip
    refine lv_iload_n hx hb dX0_unknownIn_12 rfl (lv_at hl 1 rfl) ?_
    refine lv_aload_n hx hb dX0_unknownIn_13 rfl (lv_at hl 3 rfl) ?_
    refine lv_iload_n hx hb dX0_unknownIn_14 rfl (lv_at hl 0 rfl) ?_
    refine q_ld hx hb hK hP (at_wt hk) (i := i) rfl (by omega) (by decide) dX0_unknownIn_15 ?_
    refine lv_if_ne (tgt := 23) hx hb dX0_unknownIn_16 (by decide) (fun c16 => ?_) (fun c16 => ?_)
    · skip
      refine lv_iconst (v := 0) hx hb dX0_unknownIn_23 (by decide) ?_
      refine k_SiN (As := [.int (0)]) (rest := [.int (x)]) ⟨hx, hb, hml, hown, hts⟩ (mtX1_oneIf l 0) ⟨va_cnB 1 hts gX0_unknownIn_X1_oneIf_n46 rfl rfl rfl hK.nX0_46 (hts (.initialized RX1) (by decide +kernel)) (by decide +kernel) ⟨Nat.le_of_ble_eq_true rfl, Nat.le_of_ble_eq_true rfl⟩, hts (.static yX1_oneIf) (by decide +kernel), trivial⟩ rfl hl.1 rfl (Nat.le_of_ble_eq_true rfl) dX0_unknownIn_24 ⟨Nat.le_of_ble_eq_true rfl, Nat.le_of_ble_eq_true rfl⟩ (fun r1 er1 => ?_)
      subst er1
      refine lv_iadd hx hb dX0_unknownIn_27 ?_
      refine lv_istore_n (lv' := [(2, .int (x + (b1 0))), (3, .int (nI (i))), (0, .ref (e_a E (k + 2))), (1, .ref (e_a E (k + 10)))]) hx hb dX0_unknownIn_28 rfl hl (by decide) rfl (fun ls hl => ?_)
      refine lv_iinc (v := nI (i + 1)) (lv' := [(3, .int (nI (i + 1))), (2, .int (x + (b1 0))), (0, .ref (e_a E (k + 2))), (1, .ref (e_a E (k + 10)))]) hx hb dX0_unknownIn_29 hl (k := 1) rfl (by exact nI_add (i) 1) (by decide) rfl (fun ls hl => ?_)
      refine lv_goto (tgt := 4) hx hb dX0_unknownIn_32 (by decide) ?_
      exact IH ((i + 1), (x + (b1 0))) (show (i + 1) ≤ n ∧ (x + (b1 0)) = nI (cz (σ (k + 10)) (i + 1)) from ⟨by omega, cz_s0 hI.2 c16⟩) (by (try dsimp only); omega) _ _ _ hP hS (lv_sub hl [0, 1, 2, 3] rfl)
    · skip
      refine lv_iconst (v := 1) hx hb dX0_unknownIn_19 (by decide) ?_
      refine lv_goto (tgt := 24) hx hb dX0_unknownIn_20 (by decide) ?_
      refine k_SiN (As := [.int (1)]) (rest := [.int (x)]) ⟨hx, hb, hml, hown, hts⟩ (mtX1_oneIf l 1) ⟨va_cnB 1 hts gX0_unknownIn_X1_oneIf_n46 rfl rfl rfl hK.nX0_46 (hts (.initialized RX1) (by decide +kernel)) (by decide +kernel) ⟨Nat.le_of_ble_eq_true rfl, Nat.le_of_ble_eq_true rfl⟩, hts (.static yX1_oneIf) (by decide +kernel), trivial⟩ rfl hl.1 rfl (Nat.le_of_ble_eq_true rfl) dX0_unknownIn_24 ⟨Nat.le_of_ble_eq_true rfl, Nat.le_of_ble_eq_true rfl⟩ (fun r2 er2 => ?_)
      subst er2
      refine lv_iadd hx hb dX0_unknownIn_27 ?_
      refine lv_istore_n (lv' := [(2, .int (x + (b1 1))), (3, .int (nI (i))), (0, .ref (e_a E (k + 2))), (1, .ref (e_a E (k + 10)))]) hx hb dX0_unknownIn_28 rfl hl (by decide) rfl (fun ls hl => ?_)
      refine lv_iinc (v := nI (i + 1)) (lv' := [(3, .int (nI (i + 1))), (2, .int (x + (b1 1))), (0, .ref (e_a E (k + 2))), (1, .ref (e_a E (k + 10)))]) hx hb dX0_unknownIn_29 hl (k := 1) rfl (by exact nI_add (i) 1) (by decide) rfl (fun ls hl => ?_)
      refine lv_goto (tgt := 4) hx hb dX0_unknownIn_32 (by decide) ?_
      exact IH ((i + 1), (x + (b1 1))) (show (i + 1) ≤ n ∧ (x + (b1 1)) = nI (cz (σ (k + 10)) (i + 1)) from ⟨by omega, cz_s1 hI.2 c16⟩) (by (try dsimp only); omega) _ _ _ hP hS (lv_sub hl [0, 1, 2, 3] rfl)
set_option maxHeartbeats 4000000 in
set_option maxRecDepth 100000 in
/-- unknownIn -/
theorem mtX0_unknownIn_g (l : Launch) (E : Ev) (hok : e_ok E) (σ : Mem) (o : Nat → Int64) (k : Nat) (hk : k < 8) (n : Nat) (hn : σ (k + 2) 2 = nI n) (h12 : n ≤ 12) : Met l yX0_unknownIn wsX0_unknownIn ({ frames := 1, cells := 0, slots := 0, locals := 20 } : Room) (PW E σ o [.ref (e_a E (k + 2)), .ref (e_a E (k + 18))]) (va_Qi (fun (r : Int32) (σ' : Mem) => r = nI (cz (σ (k + 18)) n) ∧ σ' = σ) (BW E o) (LB (e_B E))) 0 0 (LB (e_B E)) := by
  refine Met.ofW (cc := cX0_unknownIn) (maxL := 4) (ret := (some .int)) (by decide) rfl ?_
  intro p e s m args below meth c s₁ B hml hv
  obtain ⟨rfl, hP, hK⟩ := hv
  have hx := B.exec
  have hb := B.bytes
  have hr := B.returns
  have hts := atoms_spec (ws := wsX0_unknownIn) B.pre
  have hown : s.vm.findClass RX0 = some m.cls := findClass_of_methodNamed B.named
  have hlocks := B.notSynchronized
  have hS : va_S (LB (e_B E)) s.heap s.heap [] := va_S.rf
  have hinX0 : ∀ w ∈ wsX00, w ∈ wsX0_unknownIn := fun w h => by simp only [wsX0_unknownIn, List.mem_cons, List.mem_append, h, or_true, true_or]
  have hf35 := hts (.fieldLink RX0 35 "ParcelChutes$Chute" "count" "I") (by decide +kernel)
  have hl := lv_entry ([.ref (e_a E (k + 2)), .ref (e_a E (k + 18))]) (n := 4) (Nat.le_of_ble_eq_true rfl)
  rw [lg_entry_eq]
  generalize (lg_sl ([.ref (e_a E (k + 2)), .ref (e_a E (k + 18))]) ++ List.replicate (4 - (lg_sl ([.ref (e_a E (k + 2)), .ref (e_a E (k + 18))])).length) Slot.unset).toArray = ls at hl ⊢
  have hl : lv_has ls 4 [(0, .ref (e_a E (k + 2))), (1, .ref (e_a E (k + 18)))] := hl
  refine lv_iconst (v := 0) hx hb dX0_unknownIn_0 (by decide) ?_
  refine lv_istore_n (lv' := [(2, .int (0)), (0, .ref (e_a E (k + 2))), (1, .ref (e_a E (k + 18)))]) hx hb dX0_unknownIn_1 rfl hl (by decide) rfl (fun ls hl => ?_)
  refine lv_iconst (v := 0) hx hb dX0_unknownIn_2 (by decide) ?_
  refine lv_istore_n (lv' := [(3, .int (0)), (2, .int (0)), (0, .ref (e_a E (k + 2))), (1, .ref (e_a E (k + 18)))]) hx hb dX0_unknownIn_3 rfl hl (by decide) rfl (fun ls hl => ?_)
  refine w_loop (E := E) (o := o) (ι := Nat × Int32) (μ := fun (i, x) => 12 - i) (I := fun (i, x) => i ≤ n ∧ x = nI (cz (σ (k + 18)) i)) (mem := fun _ => σ) (lv := fun (i, x) => [(3, .int (nI (i))), (2, .int (x)), (0, .ref (e_a E (k + 2))), (1, .ref (e_a E (k + 18)))]) (nL := 4) (pch := 4) ?_ ((0), (0)) (show (0) ≤ n ∧ (0) = nI (cz (σ (k + 18)) (0)) from ⟨Nat.zero_le _, rfl⟩) hP hS (lv_sub hl [0, 1, 2, 3] rfl)
  rintro ⟨i, x⟩ hI IH H locs ls hP hS hl
  have hP : va_P (e_D E) vwCl (wd E σ o) H := hP
  have hl : lv_has ls 4 [(3, .int (nI (i))), (2, .int (x)), (0, .ref (e_a E (k + 2))), (1, .ref (e_a E (k + 18)))] := hl
  have hI : i ≤ n ∧ x = nI (cz (σ (k + 18)) i) := hI
  refine lv_iload_n hx hb dX0_unknownIn_4 rfl (lv_at hl 0 rfl) ?_
  refine lv_aload_n hx hb dX0_unknownIn_5 rfl (lv_at hl 2 rfl) ?_
  refine q_get (C := RX0) (T := TX0) (N := 8) (ci := 0) (v := .int (σ (k + 2) 2)) hx hb hts hinX0 hown hK hP (at_ch hk) rfl 2 (by decide) hf35 rfl dX0_unknownIn_6 ?_
  refine nb_ge (i := i) (j := n) hx hb rfl hn (by omega) (by omega) dX0_unknownIn_9 (tgt := 35) (by decide) (fun c9 => ?_) (fun c9 => ?_)
  · skip
    refine lv_iload_n hx hb dX0_unknownIn_35 rfl (lv_at hl 1 rfl) ?_
    exact r_i hx hb hr hlocks hP hS dX0_unknownIn_36 ⟨by rw [hI.2, show i = n by omega], rfl⟩
  · skip
    refine lv_iload_n hx hb dX0_unknownIn_12 rfl (lv_at hl 1 rfl) ?_
    refine lv_aload_n hx hb dX0_unknownIn_13 rfl (lv_at hl 3 rfl) ?_
    refine lv_iload_n hx hb dX0_unknownIn_14 rfl (lv_at hl 0 rfl) ?_
    refine q_ld hx hb hK hP (at_gi hk) (i := i) rfl (by omega) (by decide) dX0_unknownIn_15 ?_
    refine lv_if_ne (tgt := 23) hx hb dX0_unknownIn_16 (by decide) (fun c16 => ?_) (fun c16 => ?_)
    · skip
      refine lv_iconst (v := 0) hx hb dX0_unknownIn_23 (by decide) ?_
      refine k_SiN (As := [.int (0)]) (rest := [.int (x)]) ⟨hx, hb, hml, hown, hts⟩ (mtX1_oneIf l 0) ⟨va_cnB 1 hts gX0_unknownIn_X1_oneIf_n46 rfl rfl rfl hK.nX0_46 (hts (.initialized RX1) (by decide +kernel)) (by decide +kernel) ⟨Nat.le_of_ble_eq_true rfl, Nat.le_of_ble_eq_true rfl⟩, hts (.static yX1_oneIf) (by decide +kernel), trivial⟩ rfl hl.1 rfl (Nat.le_of_ble_eq_true rfl) dX0_unknownIn_24 ⟨Nat.le_of_ble_eq_true rfl, Nat.le_of_ble_eq_true rfl⟩ (fun r1 er1 => ?_)
      subst er1
      refine lv_iadd hx hb dX0_unknownIn_27 ?_
      refine lv_istore_n (lv' := [(2, .int (x + (b1 0))), (3, .int (nI (i))), (0, .ref (e_a E (k + 2))), (1, .ref (e_a E (k + 18)))]) hx hb dX0_unknownIn_28 rfl hl (by decide) rfl (fun ls hl => ?_)
      refine lv_iinc (v := nI (i + 1)) (lv' := [(3, .int (nI (i + 1))), (2, .int (x + (b1 0))), (0, .ref (e_a E (k + 2))), (1, .ref (e_a E (k + 18)))]) hx hb dX0_unknownIn_29 hl (k := 1) rfl (by exact nI_add (i) 1) (by decide) rfl (fun ls hl => ?_)
      refine lv_goto (tgt := 4) hx hb dX0_unknownIn_32 (by decide) ?_
      exact IH ((i + 1), (x + (b1 0))) (show (i + 1) ≤ n ∧ (x + (b1 0)) = nI (cz (σ (k + 18)) (i + 1)) from ⟨by omega, cz_s0 hI.2 c16⟩) (by (try dsimp only); omega) _ _ _ hP hS (lv_sub hl [0, 1, 2, 3] rfl)
    · skip
      refine lv_iconst (v := 1) hx hb dX0_unknownIn_19 (by decide) ?_
      refine lv_goto (tgt := 24) hx hb dX0_unknownIn_20 (by decide) ?_
      refine k_SiN (As := [.int (1)]) (rest := [.int (x)]) ⟨hx, hb, hml, hown, hts⟩ (mtX1_oneIf l 1) ⟨va_cnB 1 hts gX0_unknownIn_X1_oneIf_n46 rfl rfl rfl hK.nX0_46 (hts (.initialized RX1) (by decide +kernel)) (by decide +kernel) ⟨Nat.le_of_ble_eq_true rfl, Nat.le_of_ble_eq_true rfl⟩, hts (.static yX1_oneIf) (by decide +kernel), trivial⟩ rfl hl.1 rfl (Nat.le_of_ble_eq_true rfl) dX0_unknownIn_24 ⟨Nat.le_of_ble_eq_true rfl, Nat.le_of_ble_eq_true rfl⟩ (fun r2 er2 => ?_)
      subst er2
      refine lv_iadd hx hb dX0_unknownIn_27 ?_
      refine lv_istore_n (lv' := [(2, .int (x + (b1 1))), (3, .int (nI (i))), (0, .ref (e_a E (k + 2))), (1, .ref (e_a E (k + 18)))]) hx hb dX0_unknownIn_28 rfl hl (by decide) rfl (fun ls hl => ?_)
      refine lv_iinc (v := nI (i + 1)) (lv' := [(3, .int (nI (i + 1))), (2, .int (x + (b1 1))), (0, .ref (e_a E (k + 2))), (1, .ref (e_a E (k + 18)))]) hx hb dX0_unknownIn_29 hl (k := 1) rfl (by exact nI_add (i) 1) (by decide) rfl (fun ls hl => ?_)
      refine lv_goto (tgt := 4) hx hb dX0_unknownIn_32 (by decide) ?_
      exact IH ((i + 1), (x + (b1 1))) (show (i + 1) ≤ n ∧ (x + (b1 1)) = nI (cz (σ (k + 18)) (i + 1)) from ⟨by omega, cz_s1 hI.2 c16⟩) (by (try dsimp only); omega) _ _ _ hP hS (lv_sub hl [0, 1, 2, 3] rfl)
set_option maxHeartbeats 4000000 in
set_option maxRecDepth 100000 in
/-- heaviestKnown -/
theorem mtX0_heaviestKnown (l : Launch) (E : Ev) (hok : e_ok E) (σ : Mem) (o : Nat → Int64) (k : Nat) (hk : k < 8) (n : Nat) (hn : σ (k + 2) 2 = nI n) (h12 : n ≤ 12) : Met l yX0_heaviestKnown wsX0_heaviestKnown ({ frames := 2, cells := 0, slots := 0, locals := 43 } : Room) (PW E σ o [.ref (e_a E (k + 2))]) (va_Qi (fun (r : Int32) (σ' : Mem) => r = hvC (σ (k + 10)) n ∧ σ' = σ) (BW E o) (LB (e_B E))) 0 0 (LB (e_B E)) := by
  refine Met.ofW (cc := cX0_heaviestKnown) (maxL := 2) (ret := (some .int)) (by decide) rfl ?_
  intro p e s m args below meth c s₁ B hml hv
  obtain ⟨rfl, hP, hK⟩ := hv
  have hx := B.exec
  have hb := B.bytes
  have hr := B.returns
  have hts := atoms_spec (ws := wsX0_heaviestKnown) B.pre
  have hown : s.vm.findClass RX0 = some m.cls := findClass_of_methodNamed B.named
  have hlocks := B.notSynchronized
  have hS : va_S (LB (e_B E)) s.heap s.heap [] := va_S.rf
  have hinX0 : ∀ w ∈ wsX00, w ∈ wsX0_heaviestKnown := fun w h => by simp only [wsX0_heaviestKnown, List.mem_cons, List.mem_append, h, or_true, true_or]
  have hf9 := hts (.fieldLink RX0 9 "ParcelChutes$Chute" "weights" "[I") (by decide +kernel)
  have hf35 := hts (.fieldLink RX0 35 "ParcelChutes$Chute" "count" "I") (by decide +kernel)
  have hl := lv_entry ([.ref (e_a E (k + 2))]) (n := 2) (Nat.le_of_ble_eq_true rfl)
  rw [lg_entry_eq]
  generalize (lg_sl ([.ref (e_a E (k + 2))]) ++ List.replicate (2 - (lg_sl ([.ref (e_a E (k + 2))])).length) Slot.unset).toArray = ls at hl ⊢
  have hl : lv_has ls 2 [(0, .ref (e_a E (k + 2)))] := hl
  refine lv_aload_n hx hb dX0_heaviestKnown_0 rfl (lv_at hl 0 rfl) ?_
  refine q_get (C := RX0) (T := TX0) (N := 8) (ci := 0) (v := .int (σ (k + 2) 2)) hx hb hts hinX0 hown hK hP (at_ch hk) rfl 2 (by decide) hf35 rfl dX0_heaviestKnown_1 ?_
  refine lv_aload_n hx hb dX0_heaviestKnown_4 rfl (lv_at hl 0 rfl) ?_
  refine lv_aload_n hx hb dX0_heaviestKnown_5 rfl (lv_at hl 0 rfl) ?_
  refine q_get (C := RX0) (T := TX0) (N := 8) (ci := 0) (v := .ref (e_a E (k + 10))) hx hb hts hinX0 hown hK hP (at_ch hk) rfl 0 (by decide) hf9 rfl dX0_heaviestKnown_6 ?_
  refine k_Vi (As := [.ref (e_a E (k + 10))]) (rest := [.int (σ (k + 2) 2)]) ⟨hx, hb, hml, hown, hts⟩ (mtX0_unknownIn_w l E hok σ o k hk n hn h12) (cwV 1 hts gX0_heaviestKnown_X0_unknownIn rfl rfl rfl (by decide +kernel) ⟨Nat.le_of_ble_eq_true rfl, Nat.le_of_ble_eq_true rfl⟩) (va_recv hK.K hP (ci := 0) (q0 := k + 2) rfl (at_ch hk)) hK hP hS rfl hl.1 rfl (Nat.le_of_ble_eq_true rfl) dX0_heaviestKnown_9 ⟨Nat.le_of_ble_eq_true rfl, Nat.le_of_ble_eq_true rfl⟩ (fun r1 σ_2 H locs hr1 hP hS => ?_)
  obtain ⟨rfl, ehr1⟩ := hr1
  rw [ehr1] at hP
  refine lv_isub hx hb dX0_heaviestKnown_12 ?_
  refine lv_iconst (v := 1) hx hb dX0_heaviestKnown_13 (by decide) ?_
  refine lv_isub hx hb dX0_heaviestKnown_14 ?_
  refine lv_istore_n (lv' := [(1, .int (((σ (k + 2) 2) - (nI (cz (σ (k + 10)) n))) - 1)), (0, .ref (e_a E (k + 2)))]) hx hb dX0_heaviestKnown_15 rfl hl (by decide) rfl (fun ls hl => ?_)
  have hcz := cz_le (σ (k + 10)) n
  rcases Nat.lt_or_ge (cz (σ (k + 10)) n) n with hu | hu
  · skip
    have ep : ((σ (k + 2) 2) - (nI (cz (σ (k + 10)) n))) - 1 = nI (n - cz (σ (k + 10)) n - 1) := hv_sub hn hu
    refine lv_iload_n hx hb dX0_heaviestKnown_16 rfl (lv_at hl 0 rfl) ?_
    refine lv_if_ge (tgt := 24) hx hb dX0_heaviestKnown_17 (by decide) (fun c17 => ?_) (fun c17 => ?_)
    rotate_left
    · exact absurd c17 (fun z => z (by rw [ep]; exact nI_pos' (by omega)))
    refine lv_aload_n hx hb dX0_heaviestKnown_24 rfl (lv_at hl 1 rfl) ?_
    refine q_get (C := RX0) (T := TX0) (N := 8) (ci := 0) (v := .ref (e_a E (k + 10))) hx hb hts hinX0 hown hK hP (at_ch hk) rfl 0 (by decide) hf9 rfl dX0_heaviestKnown_25 ?_
    refine lv_iload_n hx hb dX0_heaviestKnown_28 rfl (lv_at hl 0 rfl) ?_
    refine q_ld hx hb hK hP (at_wt hk) (i := n - cz (σ (k + 10)) n - 1) ep (by omega) (by decide) dX0_heaviestKnown_29 ?_
    exact r_i hx hb hr hlocks hP hS dX0_heaviestKnown_30 ⟨by simp [hvC, hu], rfl⟩
  · skip
    have ep : ¬ 0 ≤ ((σ (k + 2) 2) - (nI (cz (σ (k + 10)) n))) - 1 := hv_neg hn hu (by omega)
    refine lv_iload_n hx hb dX0_heaviestKnown_16 rfl (lv_at hl 0 rfl) ?_
    refine lv_if_ge (tgt := 24) hx hb dX0_heaviestKnown_17 (by decide) (fun c17 => ?_) (fun c17 => ?_)
    · exact absurd c17 ep
    refine lv_iconst (v := 0) hx hb dX0_heaviestKnown_20 (by decide) ?_
    refine lv_goto (tgt := 30) hx hb dX0_heaviestKnown_21 (by decide) ?_
    exact r_i hx hb hr hlocks hP hS dX0_heaviestKnown_30 ⟨by simp [hvC, Nat.not_lt.mpr hu], rfl⟩
set_option maxHeartbeats 4000000 in
set_option maxRecDepth 100000 in
/-- takes a parcel in -/
theorem mtX0_letIn (l : Launch) (E : Ev) (hok : e_ok E) (σ : Mem) (o : Nat → Int64) (k : Nat) (hk : k < 8) (n : Nat) (hn : σ (k + 2) 2 = nI n) (h12 : n ≤ 12) (w g : Int32) : Met l yX0_letIn wsX0_letIn ({ frames := 3, cells := 0, slots := 0, locals := 65 } : Room) (PW E σ o [.ref (e_a E (k + 2)), .int (w), .int (g)]) (va_Qi (fun (r : Int32) (σ' : Mem) => (r = 0 ∧ σ' = σ ∧ (12 ≤ n ∨ fitC (σ (k + 2) 3) (σ (k + 2) 4) (σ (k + 2) 5) (σ (k + 2) 6) w g = 0)) ∨ (r = 1 ∧ n < 12 ∧ fitC (σ (k + 2) 3) (σ (k + 2) 4) (σ (k + 2) 5) (σ (k + 2) 6) w g ≠ 0 ∧ ∃ q : Nat, (q ≤ n ∧ ((w = 0 ∧ q = n) ∨ (w ≠ 0 ∧ (∀ a, a < q → hd (σ (k + 10) a) w 2 ≠ 0) ∧ (q < n → hd (σ (k + 10) q) w 2 = 0)))) ∧ σ' = m_ins σ k q n w g)) (BW E o) (LB (e_B E))) 0 0 (LB (e_B E)) := by
  refine Met.ofW (cc := cX0_letIn) (maxL := 5) (ret := (some .boolean)) (by decide) rfl ?_
  intro p e s m args below meth c s₁ B hml hv
  obtain ⟨rfl, hP, hK⟩ := hv
  have hx := B.exec
  have hb := B.bytes
  have hr := B.returns
  have hts := atoms_spec (ws := wsX0_letIn) B.pre
  have hown : s.vm.findClass RX0 = some m.cls := findClass_of_methodNamed B.named
  have hlocks := B.notSynchronized
  have hS : va_S (LB (e_B E)) s.heap s.heap [] := va_S.rf
  have hinX0 : ∀ w ∈ wsX00, w ∈ wsX0_letIn := fun w h => by simp only [wsX0_letIn, List.mem_cons, List.mem_append, h, or_true, true_or]
  have hf9 := hts (.fieldLink RX0 9 "ParcelChutes$Chute" "weights" "[I") (by decide +kernel)
  have hf15 := hts (.fieldLink RX0 15 "ParcelChutes$Chute" "girths" "[I") (by decide +kernel)
  have hf35 := hts (.fieldLink RX0 35 "ParcelChutes$Chute" "count" "I") (by decide +kernel)
  have hl := lv_entry ([.ref (e_a E (k + 2)), .int (w), .int (g)]) (n := 5) (Nat.le_of_ble_eq_true rfl)
  rw [lg_entry_eq]
  generalize (lg_sl ([.ref (e_a E (k + 2)), .int (w), .int (g)]) ++ List.replicate (5 - (lg_sl ([.ref (e_a E (k + 2)), .int (w), .int (g)])).length) Slot.unset).toArray = ls at hl ⊢
  have hl : lv_has ls 5 [(0, .ref (e_a E (k + 2))), (1, .int (w)), (2, .int (g))] := hl
  refine lv_aload_n hx hb dX0_letIn_0 rfl (lv_at hl 0 rfl) ?_
  refine q_get (C := RX0) (T := TX0) (N := 8) (ci := 0) (v := .int (σ (k + 2) 2)) hx hb hts hinX0 hown hK hP (at_ch hk) rfl 2 (by decide) hf35 rfl dX0_letIn_1 ?_
  refine lv_bipush (v := 12) hx hb dX0_letIn_4 (by decide) ?_
  refine nb_ge (i := n) (j := 12) hx hb hn rfl (by omega) (by omega) dX0_letIn_6 (tgt := 18) (by decide) (fun c6 => ?_) (fun c6 => ?_)
  · skip
    refine lv_iconst (v := 0) hx hb dX0_letIn_18 (by decide) ?_
    exact r_z hx hb hr hlocks rfl hP hS dX0_letIn_19 (Or.inl ⟨rfl, rfl, Or.inl c6⟩)
  · skip
    refine lv_aload_n hx hb dX0_letIn_9 rfl (lv_at hl 0 rfl) ?_
    refine lv_iload_n hx hb dX0_letIn_10 rfl (lv_at hl 1 rfl) ?_
    refine lv_iload_n hx hb dX0_letIn_11 rfl (lv_at hl 2 rfl) ?_
    refine k_Vi (As := [.int (w), .int (g)]) (rest := []) ⟨hx, hb, hml, hown, hts⟩ (mtX0_suits l E hok σ o k hk w g) (cwV 2 hts gX0_letIn_X0_suits rfl rfl rfl (by decide +kernel) ⟨Nat.le_of_ble_eq_true rfl, Nat.le_of_ble_eq_true rfl⟩) (va_recv hK.K hP (ci := 0) (q0 := k + 2) rfl (at_ch hk)) hK hP hS rfl hl.1 rfl (Nat.le_of_ble_eq_true rfl) dX0_letIn_12 ⟨Nat.le_of_ble_eq_true rfl, Nat.le_of_ble_eq_true rfl⟩ (fun r1 σ_2 H locs hr1 hP hS => ?_)
    obtain ⟨rfl, ehr1⟩ := hr1
    rw [ehr1] at hP
    refine lv_if_ne (tgt := 20) hx hb dX0_letIn_15 (by decide) (fun c15 => ?_) (fun c15 => ?_)
    · skip
      refine lv_aload_n hx hb dX0_letIn_20 rfl (lv_at hl 0 rfl) ?_
      refine lv_iload_n hx hb dX0_letIn_21 rfl (lv_at hl 1 rfl) ?_
      refine k_Vi (As := [.int (w)]) (rest := []) ⟨hx, hb, hml, hown, hts⟩ (mtX0_placeFor l E hok σ o k hk n hn h12 w) (cwV 1 hts gX0_letIn_X0_placeFor rfl rfl rfl (by decide +kernel) ⟨Nat.le_of_ble_eq_true rfl, Nat.le_of_ble_eq_true rfl⟩) (va_recv hK.K hP (ci := 0) (q0 := k + 2) rfl (at_ch hk)) hK hP hS rfl hl.1 rfl (Nat.le_of_ble_eq_true rfl) dX0_letIn_22 ⟨Nat.le_of_ble_eq_true rfl, Nat.le_of_ble_eq_true rfl⟩ (fun r3 σ_4 H locs hr3 hP hS => ?_)
      obtain ⟨⟨q, rfl, hq, hqq⟩, ehr3⟩ := hr3
      rw [ehr3] at hP
      refine lv_istore_n (lv' := [(3, .int (nI (q))), (0, .ref (e_a E (k + 2))), (1, .int (w)), (2, .int (g))]) hx hb dX0_letIn_25 rfl hl (by decide) rfl (fun ls hl => ?_)
      refine lv_aload_n hx hb dX0_letIn_26 rfl (lv_at hl 1 rfl) ?_
      refine q_get (C := RX0) (T := TX0) (N := 8) (ci := 0) (v := .int (σ (k + 2) 2)) hx hb hts hinX0 hown hK hP (at_ch hk) rfl 2 (by decide) hf35 rfl dX0_letIn_27 ?_
      rw [hn]
      refine lv_istore (lv' := [(4, .int (nI (n))), (3, .int (nI (q))), (0, .ref (e_a E (k + 2))), (1, .int (w)), (2, .int (g))]) hx hb dX0_letIn_30 hl (by decide) rfl (fun ls hl => ?_)
      have hP : va_P (e_D E) vwCl (wd E (m_sd σ k n n) o) H := by rw [m_sd_0]; exact hP
      refine w_loop (E := E) (o := o) (ι := Nat) (μ := fun p1 => p1) (I := fun p1 => q ≤ p1 ∧ p1 ≤ n) (mem := fun p1 => m_sd σ k p1 n) (lv := fun p1 => [(4, .int (nI (p1))), (3, .int (nI (q))), (0, .ref (e_a E (k + 2))), (1, .int (w)), (2, .int (g))]) (nL := 5) (pch := 32) ?_ (n) (show q ≤ (n) ∧ (n) ≤ n from ⟨hq, Nat.le_refl _⟩) hP hS (lv_sub hl [0, 1, 2, 3, 4] rfl)
      rintro p1 hI IH H locs ls hP hS hl
      have hP : va_P (e_D E) vwCl (wd E (m_sd σ k p1 n) o) H := hP
      have hl : lv_has ls 5 [(4, .int (nI (p1))), (3, .int (nI (q))), (0, .ref (e_a E (k + 2))), (1, .int (w)), (2, .int (g))] := hl
      have hI : q ≤ p1 ∧ p1 ≤ n := hI
      refine lv_iload hx hb dX0_letIn_32 (lv_at hl 0 rfl) ?_
      refine lv_iload_n hx hb dX0_letIn_34 rfl (lv_at hl 1 rfl) ?_
      refine nb_le (i := p1) (j := q) hx hb rfl rfl (by omega) (by omega) dX0_letIn_35 (tgt := 76) (by decide) (fun c35 => ?_) (fun c35 => ?_)
      · skip
        refine lv_aload_n hx hb dX0_letIn_76 rfl (lv_at hl 2 rfl) ?_
        refine q_get (C := RX0) (T := TX0) (N := 8) (ci := 0) (v := .ref (e_a E (k + 10))) hx hb hts hinX0 hown hK hP (at_ch hk) rfl 0 (by decide) hf9 rfl dX0_letIn_77 ?_
        refine lv_iload_n hx hb dX0_letIn_80 rfl (lv_at hl 1 rfl) ?_
        refine lv_iload_n hx hb dX0_letIn_81 rfl (lv_at hl 3 rfl) ?_
        refine q_st hx hb hok hK hP hS (at_wt hk) (fun r => (wc_wt (k := k) hk).symm) (by omega) (i := q) rfl (by omega) (by decide) dX0_letIn_82 (fun H locs hP hS => ?_)
        refine lv_aload_n hx hb dX0_letIn_83 rfl (lv_at hl 2 rfl) ?_
        refine q_get (C := RX0) (T := TX0) (N := 8) (ci := 0) (v := .ref (e_a E (k + 18))) hx hb hts hinX0 hown hK hP (at_ch hk) rfl 1 (by decide) hf15 rfl dX0_letIn_84 ?_
        refine lv_iload_n hx hb dX0_letIn_87 rfl (lv_at hl 1 rfl) ?_
        refine lv_iload_n hx hb dX0_letIn_88 rfl (lv_at hl 4 rfl) ?_
        refine q_st hx hb hok hK hP hS (at_gi hk) (fun r => (wc_gi (k := k) hk).symm) (by omega) (i := q) rfl (by omega) (by decide) dX0_letIn_89 (fun H locs hP hS => ?_)
        refine lv_aload_n hx hb dX0_letIn_90 rfl (lv_at hl 2 rfl) ?_
        refine lv_dup hx hb dX0_letIn_91 rfl ?_
        refine q_get (C := RX0) (T := TX0) (N := 8) (ci := 0) (v := .int ((m_up (m_up (m_sd σ k p1 n) (k + 10) (q) w) (k + 18) (q) g) (k + 2) 2)) hx hb hts hinX0 hown hK hP (at_ch hk) rfl 2 (by decide) hf35 rfl dX0_letIn_92 ?_
        refine lv_iconst (v := 1) hx hb dX0_letIn_95 (by decide) ?_
        refine lv_iadd hx hb dX0_letIn_96 ?_
        refine q_put (C := RX0) (T := TX0) (N := 8) (ci := 0) (ty := .int) (v := ((m_up (m_up (m_sd σ k p1 n) (k + 10) (q) w) (k + 18) (q) g) (k + 2) 2) + 1) hx hb hts hinX0 tyX0 tyX0_ok nmX0 hown hok hK hP hS (at_ch hk) (by omega) rfl 2 (by decide) hf35 rfl (tyX0_ok 2 (by decide)) rfl rfl (Nat.le_of_ble_eq_true rfl) (by rw [wc_ch hk]; rfl) dX0_letIn_97 (fun H locs hP hS => ?_)
        refine lv_iconst (v := 1) hx hb dX0_letIn_100 (by decide) ?_
        exact r_z hx hb hr hlocks rfl hP hS dX0_letIn_101 (Or.inr ⟨rfl, c6, c15, q, ⟨hq, hqq⟩, by
      have hpq : p1 = q := by omega
      subst hpq
      rw [← m_ins_of]
      congr 1
      simp [m_up, m_sd, hn]
      exact nI_1 n⟩)
      · skip
        refine lv_aload_n hx hb dX0_letIn_38 rfl (lv_at hl 2 rfl) ?_
        refine q_get (C := RX0) (T := TX0) (N := 8) (ci := 0) (v := .ref (e_a E (k + 10))) hx hb hts hinX0 hown hK hP (at_ch hk) rfl 0 (by decide) hf9 rfl dX0_letIn_39 ?_
        refine lv_iload hx hb dX0_letIn_42 (lv_at hl 0 rfl) ?_
        refine lv_aload_n hx hb dX0_letIn_44 rfl (lv_at hl 2 rfl) ?_
        refine q_get (C := RX0) (T := TX0) (N := 8) (ci := 0) (v := .ref (e_a E (k + 10))) hx hb hts hinX0 hown hK hP (at_ch hk) rfl 0 (by decide) hf9 rfl dX0_letIn_45 ?_
        refine lv_iload hx hb dX0_letIn_48 (lv_at hl 0 rfl) ?_
        refine lv_iconst (v := 1) hx hb dX0_letIn_50 (by decide) ?_
        refine lv_isub hx hb dX0_letIn_51 ?_
        refine q_ld hx hb hK hP (at_wt hk) (i := p1 - 1) (by first | exact pk_sub (a := p1) (b := 1) (by omega)) (by omega) (by decide) dX0_letIn_52 ?_
        refine q_st hx hb hok hK hP hS (at_wt hk) (fun r => (wc_wt (k := k) hk).symm) (by omega) (i := p1) rfl (by omega) (by decide) dX0_letIn_53 (fun H locs hP hS => ?_)
        refine lv_aload_n hx hb dX0_letIn_54 rfl (lv_at hl 2 rfl) ?_
        refine q_get (C := RX0) (T := TX0) (N := 8) (ci := 0) (v := .ref (e_a E (k + 18))) hx hb hts hinX0 hown hK hP (at_ch hk) rfl 1 (by decide) hf15 rfl dX0_letIn_55 ?_
        refine lv_iload hx hb dX0_letIn_58 (lv_at hl 0 rfl) ?_
        refine lv_aload_n hx hb dX0_letIn_60 rfl (lv_at hl 2 rfl) ?_
        refine q_get (C := RX0) (T := TX0) (N := 8) (ci := 0) (v := .ref (e_a E (k + 18))) hx hb hts hinX0 hown hK hP (at_ch hk) rfl 1 (by decide) hf15 rfl dX0_letIn_61 ?_
        refine lv_iload hx hb dX0_letIn_64 (lv_at hl 0 rfl) ?_
        refine lv_iconst (v := 1) hx hb dX0_letIn_66 (by decide) ?_
        refine lv_isub hx hb dX0_letIn_67 ?_
        refine q_ld hx hb hK hP (at_gi hk) (i := p1 - 1) (by first | exact pk_sub (a := p1) (b := 1) (by omega)) (by omega) (by decide) dX0_letIn_68 ?_
        refine q_st hx hb hok hK hP hS (at_gi hk) (fun r => (wc_gi (k := k) hk).symm) (by omega) (i := p1) rfl (by omega) (by decide) dX0_letIn_69 (fun H locs hP hS => ?_)
        refine lv_iinc (v := nI (p1 - 1)) (lv' := [(4, .int (nI (p1 - 1))), (3, .int (nI (q))), (0, .ref (e_a E (k + 2))), (1, .int (w)), (2, .int (g))]) hx hb dX0_letIn_70 hl (k := 0) rfl (by rw [← sb_m1 (by omega)]; rfl) (by decide) rfl (fun ls hl => ?_)
        refine lv_goto (tgt := 32) hx hb dX0_letIn_73 (by decide) ?_
        rw [m_sd_step σ (by omega) hI.2] at hP
        exact IH (p1 - 1) (show q ≤ (p1 - 1) ∧ (p1 - 1) ≤ n from ⟨by omega, by omega⟩) (by (try dsimp only); omega) _ _ _ hP hS (lv_sub hl [0, 1, 2, 3, 4] rfl)
    · skip
      refine lv_iconst (v := 0) hx hb dX0_letIn_18 (by decide) ?_
      exact r_z hx hb hr hlocks rfl hP hS dX0_letIn_19 (Or.inl ⟨rfl, rfl, Or.inr c15⟩)

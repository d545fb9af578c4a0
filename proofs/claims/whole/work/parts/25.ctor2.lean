/-- the cells 26 to 35, as they are born -/
abbrev fs2 (a b c d f g h i j : Value) : List Value := [.int 0, a, b, c, d, .int 0, f, g, h, i, j, .int 0, .int 0, .int 0, .int 0, .int 0, .int 0, .int 0, .int 0, .int 0]
abbrev z96 : vp_A := (96, .inl (fun _ => 0))
abbrev z8 : vp_A := (8, .inl (fun _ => 0))
def WMd (E : Ev) (r : Nat → Int32) : va_W := (List.range 10).map (fun j => (e_a E (j + 26), w_cell E (if j = 1 then r else fun _ => 0) (fun _ => 0) (j + 26)))
section RW6
variable {p : Program} {l : Launch} {e : Env} {R : Room} {s : State} {m : MethodId} {args : Array Value} {below : List Frame} {meth : Method} {c : Code} {cells slots : Nat} {Q : State → Prop}
theorem loop_home {D : va_G} {A : Nat → Prop} {a pc : Nat} (Wd : (Nat → Int32) → va_W)
    (body : ∀ (k : Nat) (r : Nat → Int32) (H : Heap) (locs : List Loc) (ls : Array Slot), k < 96 → va_P D vwCl (Wd r) H → va_D A (Wd r) → va_S A s.heap H locs → lv_has ls 2 [(1, .int (nI k)), (0, .ref a)] → (∀ (H' : Heap) (locs' : List Loc) (ls' : Array Slot), va_P D vwCl (Wd (upd r k (-1))) H' → va_D A (Wd (upd r k (-1))) → va_S A s.heap H' locs' → lv_has ls' 2 [(1, .int (nI (k + 1))), (0, .ref a)] → W p l e R s m args below meth c H' locs' cells slots Q (F0 m pc ls' [])) → W p l e R s m args below meth c H locs cells slots Q (F0 m pc ls []))
    (fin : ∀ (r : Nat → Int32) (H : Heap) (locs : List Loc) (ls : Array Slot), (∀ j, j < 96 → r j = -1) → va_P D vwCl (Wd r) H → va_D A (Wd r) → va_S A s.heap H locs → lv_has ls 2 [(1, .int (nI 96)), (0, .ref a)] → W p l e R s m args below meth c H locs cells slots Q (F0 m pc ls [])) :
    ∀ (n k : Nat) (r : Nat → Int32) (H : Heap) (locs : List Loc) (ls : Array Slot), k + n = 96 → (∀ j, j < k → r j = -1) → va_P D vwCl (Wd r) H → va_D A (Wd r) → va_S A s.heap H locs → lv_has ls 2 [(1, .int (nI k)), (0, .ref a)] → W p l e R s m args below meth c H locs cells slots Q (F0 m pc ls []) := by
  intro n
  induction n with
  | zero =>
    intro k r H locs ls hk hr hP hD hS hl
    have h9 : k = 96 := by omega
    subst h9
    exact fin r H locs ls hr hP hD hS hl
  | succ n ih =>
    intro k r H locs ls hk hr hP hD hS hl
    refine body k r H locs ls (by omega) hP hD hS hl (fun H' locs' ls' hP' hD' hS' hl' => ih (k + 1) (upd r k (-1)) H' locs' ls' (by omega) (fun j hj => ?_) hP' hD' hS' hl')
    by_cases hjk : j = k
    · subst hjk; rw [upd_s]
    · rw [upd_n _ _ hjk]; exact hr j (by omega)
end RW6
set_option maxHeartbeats 8000000 in
set_option maxRecDepth 100000 in
/-- the model's constructor -/
theorem mtX2_init (l : Launch) (D : va_G) (a sz : Nat) : Met l yX2_init wsX2_init ({ frames := 1, cells := 9, slots := 424, locals := 12 } : Room) (PI D a sz 2 (fs2 .null .null .null .null .null .null .null .null .null )) (va_Qv (fun u : Ev × (Nat → Int32) => e_D u.1 = D ∧ ∀ j, j < 96 → u.2 j = -1) (fun u t => e_a u.1 26 = a ∧ va_P D vwCl (WMd u.1 u.2) t.heap ∧ va_K D vwCl [(e_c u.1 0, .int), (e_c u.1 1, .boolean)] t ∧ va_D (va_A [(a, .inr (2, fs2 .null .null .null .null .null .null .null .null .null ))] sz) (WMd u.1 u.2)) (va_A [(a, .inr (2, fs2 .null .null .null .null .null .null .null .null .null ))] sz)) 9 424 (va_A [(a, .inr (2, fs2 .null .null .null .null .null .null .null .null .null ))] sz) := by
  refine Met.ofW (cc := cX2_init) (maxL := 2) (ret := none) (by decide) rfl ?_
  intro p e s m args below meth c s₁ B hml hv
  obtain ⟨rfl, hsz, hP, hK⟩ := hv
  have hx := B.exec
  have hb := B.bytes
  have hr := B.returns
  have hts := atoms_spec (ws := wsX2_init) B.pre
  have hown : s.vm.findClass RX2 = some m.cls := findClass_of_methodNamed B.named
  have hlocks := B.notSynchronized
  have hin : meth.name = "<init>" := (name_of_methodNamed B.named B.method).1
  subst hsz
  have hD : va_D (va_A [(a, .inr (2, fs2 .null .null .null .null .null .null .null .null .null ))] s.heap.size) [(a, .inr (2, fs2 .null .null .null .null .null .null .null .null .null ))] := va_D1 (Or.inl ⟨0, _, rfl⟩)
  generalize hAe : va_A [(a, .inr (2, fs2 .null .null .null .null .null .null .null .null .null ))] s.heap.size = A at hD ⊢
  have hA : ∀ q : Nat, s.heap.size ≤ q → A q := fun q h => by rw [← hAe]; exact Or.inr h
  have hS : va_S A s.heap s.heap [] := va_S.rf
  have hinX2 : ∀ w ∈ wsX20, w ∈ wsX2_init := fun w h => by simp only [wsX2_init, List.mem_cons, List.mem_append, h, or_true, true_or]
  have hl := lv_entry ([.ref a]) (n := 2) (Nat.le_of_ble_eq_true rfl)
  rw [lg_entry_eq]
  generalize (lg_sl ([.ref a]) ++ List.replicate (2 - (lg_sl ([.ref a])).length) Slot.unset).toArray = ls at hl ⊢
  have hl : lv_has ls 2 [(0, .ref a)] := hl
  refine lv_aload_n hx hb dX2_init_0 rfl (lv_at hl 0 rfl) ?_
  refine W.objInit hx hb hown (hts (.methodLink RX2 1 objectInit) (by decide +kernel)) (hts (.instanceMethod objectInit) (by decide +kernel)) (hts (.code objectInit ⟨#[0xb1]⟩ 1 none) (by decide +kernel)) rfl (by rw [hml]; exact hl.1) rfl dX2_init_1 (Nat.le_of_ble_eq_true rfl) (Nat.le_of_ble_eq_true rfl) ?_
  refine W.eq (g2 := F0 m 4 ls []) rfl ?_
  refine lv_aload_n hx hb dX2_init_4 rfl (lv_at hl 0 rfl) ?_
  refine lv_bipush (v := 96) hx hb dX2_init_5 (by decide) ?_
  refine va_newa (atype := .int) (ty := .int) (N' := 96) (a0 := (96, .inl (fun _ => 0))) hx hb (hts (.arrayClass .int) (by decide +kernel)) rfl hK hP hD hS hA (fun _ => rfl) (by decide) (by decide) (by decide) (Nat.le_of_ble_eq_true rfl) (Nat.le_of_ble_eq_true rfl) dX2_init_7 (fun h0 c0 H hK hP hD hS => ?_)
  have hK : va_K D vwCl [(c0, .int)] s := hK
  have hP : va_P D vwCl [(a, .inr (2, fs2 .null .null .null .null .null .null .null .null .null)), (h0, .inl (c0, z96))] H := hP
  have hD : va_D A [(a, .inr (2, fs2 .null .null .null .null .null .null .null .null .null)), (h0, .inl (c0, z96))] := hD
  refine va_putF (D := D) (ci := 2) (v := .ref h0) (ty := .array .int) (C := RX2) (T := TX2) (N := 20) hx hb hts hinX2 tyX2 tyX2_ok nmX2 hown hK hP hD hS 0 rfl rfl 1 (by decide) (hts (.fieldLink RX2 7 "ParcelChutesModel" "home" "[I") (by decide +kernel)) (fun _ h9 => h9) rfl hin rfl (tyX2_ok 1 (by decide)) rfl rfl (Nat.le_of_ble_eq_true rfl) dX2_init_9 (fun H locs hP hD hS => ?_)
  have hP : va_P D vwCl [(a, .inr (2, fs2 (.ref h0) .null .null .null .null .null .null .null .null)), (h0, .inl (c0, z96))] H := hP
  have hD : va_D A [(a, .inr (2, fs2 (.ref h0) .null .null .null .null .null .null .null .null)), (h0, .inl (c0, z96))] := hD
  refine lv_aload_n hx hb dX2_init_12 rfl (lv_at hl 0 rfl) ?_
  refine lv_bipush (v := 96) hx hb dX2_init_13 (by decide) ?_
  refine va_newa (atype := .int) (ty := .int) (N' := 96) (a0 := (96, .inl (fun _ => 0))) hx hb (hts (.arrayClass .int) (by decide +kernel)) rfl hK hP hD hS hA (fun _ => rfl) (by decide) (by decide) (by decide) (Nat.le_of_ble_eq_true rfl) (Nat.le_of_ble_eq_true rfl) dX2_init_15 (fun h1 c1 H hK hP hD hS => ?_)
  have ec : c0 = c1 := Option.some.inj ((hK.2 0 _ rfl).2.symm.trans (hK.2 1 _ rfl).2)
  subst ec
  have hK := hK.sub (tys' := [(c0, .int)]) [0] rfl
  have hP : va_P D vwCl [(a, .inr (2, fs2 (.ref h0) .null .null .null .null .null .null .null .null)), (h0, .inl (c0, z96)), (h1, .inl (c0, z96))] H := hP
  have hD : va_D A [(a, .inr (2, fs2 (.ref h0) .null .null .null .null .null .null .null .null)), (h0, .inl (c0, z96)), (h1, .inl (c0, z96))] := hD
  refine va_putF (D := D) (ci := 2) (v := .ref h1) (ty := .array .int) (C := RX2) (T := TX2) (N := 20) hx hb hts hinX2 tyX2 tyX2_ok nmX2 hown hK hP hD hS 0 rfl rfl 2 (by decide) (hts (.fieldLink RX2 13 "ParcelChutesModel" "heavy" "[I") (by decide +kernel)) (fun _ h9 => h9) rfl hin rfl (tyX2_ok 2 (by decide)) rfl rfl (Nat.le_of_ble_eq_true rfl) dX2_init_17 (fun H locs hP hD hS => ?_)
  have hP : va_P D vwCl [(a, .inr (2, fs2 (.ref h0) (.ref h1) .null .null .null .null .null .null .null)), (h0, .inl (c0, z96)), (h1, .inl (c0, z96))] H := hP
  have hD : va_D A [(a, .inr (2, fs2 (.ref h0) (.ref h1) .null .null .null .null .null .null .null)), (h0, .inl (c0, z96)), (h1, .inl (c0, z96))] := hD
  refine lv_aload_n hx hb dX2_init_20 rfl (lv_at hl 0 rfl) ?_
  refine lv_bipush (v := 96) hx hb dX2_init_21 (by decide) ?_
  refine va_newa (atype := .int) (ty := .int) (N' := 96) (a0 := (96, .inl (fun _ => 0))) hx hb (hts (.arrayClass .int) (by decide +kernel)) rfl hK hP hD hS hA (fun _ => rfl) (by decide) (by decide) (by decide) (Nat.le_of_ble_eq_true rfl) (Nat.le_of_ble_eq_true rfl) dX2_init_23 (fun h2 c2 H hK hP hD hS => ?_)
  have ec : c0 = c2 := Option.some.inj ((hK.2 0 _ rfl).2.symm.trans (hK.2 1 _ rfl).2)
  subst ec
  have hK := hK.sub (tys' := [(c0, .int)]) [0] rfl
  have hP : va_P D vwCl [(a, .inr (2, fs2 (.ref h0) (.ref h1) .null .null .null .null .null .null .null)), (h0, .inl (c0, z96)), (h1, .inl (c0, z96)), (h2, .inl (c0, z96))] H := hP
  have hD : va_D A [(a, .inr (2, fs2 (.ref h0) (.ref h1) .null .null .null .null .null .null .null)), (h0, .inl (c0, z96)), (h1, .inl (c0, z96)), (h2, .inl (c0, z96))] := hD
  refine va_putF (D := D) (ci := 2) (v := .ref h2) (ty := .array .int) (C := RX2) (T := TX2) (N := 20) hx hb hts hinX2 tyX2 tyX2_ok nmX2 hown hK hP hD hS 0 rfl rfl 3 (by decide) (hts (.fieldLink RX2 16 "ParcelChutesModel" "round" "[I") (by decide +kernel)) (fun _ h9 => h9) rfl hin rfl (tyX2_ok 3 (by decide)) rfl rfl (Nat.le_of_ble_eq_true rfl) dX2_init_25 (fun H locs hP hD hS => ?_)
  have hP : va_P D vwCl [(a, .inr (2, fs2 (.ref h0) (.ref h1) (.ref h2) .null .null .null .null .null .null)), (h0, .inl (c0, z96)), (h1, .inl (c0, z96)), (h2, .inl (c0, z96))] H := hP
  have hD : va_D A [(a, .inr (2, fs2 (.ref h0) (.ref h1) (.ref h2) .null .null .null .null .null .null)), (h0, .inl (c0, z96)), (h1, .inl (c0, z96)), (h2, .inl (c0, z96))] := hD
  refine lv_aload_n hx hb dX2_init_28 rfl (lv_at hl 0 rfl) ?_
  refine lv_bipush (v := 96) hx hb dX2_init_29 (by decide) ?_
  refine va_newa (atype := .int) (ty := .int) (N' := 96) (a0 := (96, .inl (fun _ => 0))) hx hb (hts (.arrayClass .int) (by decide +kernel)) rfl hK hP hD hS hA (fun _ => rfl) (by decide) (by decide) (by decide) (Nat.le_of_ble_eq_true rfl) (Nat.le_of_ble_eq_true rfl) dX2_init_31 (fun h3 c3 H hK hP hD hS => ?_)
  have ec : c0 = c3 := Option.some.inj ((hK.2 0 _ rfl).2.symm.trans (hK.2 1 _ rfl).2)
  subst ec
  have hK := hK.sub (tys' := [(c0, .int)]) [0] rfl
  have hP : va_P D vwCl [(a, .inr (2, fs2 (.ref h0) (.ref h1) (.ref h2) .null .null .null .null .null .null)), (h0, .inl (c0, z96)), (h1, .inl (c0, z96)), (h2, .inl (c0, z96)), (h3, .inl (c0, z96))] H := hP
  have hD : va_D A [(a, .inr (2, fs2 (.ref h0) (.ref h1) (.ref h2) .null .null .null .null .null .null)), (h0, .inl (c0, z96)), (h1, .inl (c0, z96)), (h2, .inl (c0, z96)), (h3, .inl (c0, z96))] := hD
  refine va_putF (D := D) (ci := 2) (v := .ref h3) (ty := .array .int) (C := RX2) (T := TX2) (N := 20) hx hb hts hinX2 tyX2 tyX2_ok nmX2 hown hK hP hD hS 0 rfl rfl 4 (by decide) (hts (.fieldLink RX2 19 "ParcelChutesModel" "came" "[I") (by decide +kernel)) (fun _ h9 => h9) rfl hin rfl (tyX2_ok 4 (by decide)) rfl rfl (Nat.le_of_ble_eq_true rfl) dX2_init_33 (fun H locs hP hD hS => ?_)
  have hP : va_P D vwCl [(a, .inr (2, fs2 (.ref h0) (.ref h1) (.ref h2) (.ref h3) .null .null .null .null .null)), (h0, .inl (c0, z96)), (h1, .inl (c0, z96)), (h2, .inl (c0, z96)), (h3, .inl (c0, z96))] H := hP
  have hD : va_D A [(a, .inr (2, fs2 (.ref h0) (.ref h1) (.ref h2) (.ref h3) .null .null .null .null .null)), (h0, .inl (c0, z96)), (h1, .inl (c0, z96)), (h2, .inl (c0, z96)), (h3, .inl (c0, z96))] := hD
  refine lv_aload_n hx hb dX2_init_36 rfl (lv_at hl 0 rfl) ?_
  refine lv_bipush (v := 8) hx hb dX2_init_37 (by decide) ?_
  refine va_newa (atype := .int) (ty := .int) (N' := 8) (a0 := (8, .inl (fun _ => 0))) hx hb (hts (.arrayClass .int) (by decide +kernel)) rfl hK hP hD hS hA (fun _ => rfl) (by decide) (by decide) (by decide) (Nat.le_of_ble_eq_true rfl) (Nat.le_of_ble_eq_true rfl) dX2_init_39 (fun h4 c4 H hK hP hD hS => ?_)
  have ec : c0 = c4 := Option.some.inj ((hK.2 0 _ rfl).2.symm.trans (hK.2 1 _ rfl).2)
  subst ec
  have hK := hK.sub (tys' := [(c0, .int)]) [0] rfl
  have hP : va_P D vwCl [(a, .inr (2, fs2 (.ref h0) (.ref h1) (.ref h2) (.ref h3) .null .null .null .null .null)), (h0, .inl (c0, z96)), (h1, .inl (c0, z96)), (h2, .inl (c0, z96)), (h3, .inl (c0, z96)), (h4, .inl (c0, z8))] H := hP
  have hD : va_D A [(a, .inr (2, fs2 (.ref h0) (.ref h1) (.ref h2) (.ref h3) .null .null .null .null .null)), (h0, .inl (c0, z96)), (h1, .inl (c0, z96)), (h2, .inl (c0, z96)), (h3, .inl (c0, z96)), (h4, .inl (c0, z8))] := hD
  refine va_putF (D := D) (ci := 2) (v := .ref h4) (ty := .array .int) (C := RX2) (T := TX2) (N := 20) hx hb hts hinX2 tyX2 tyX2_ok nmX2 hown hK hP hD hS 0 rfl rfl 6 (by decide) (hts (.fieldLink RX2 22 "ParcelChutesModel" "kind" "[I") (by decide +kernel)) (fun _ h9 => h9) rfl hin rfl (tyX2_ok 6 (by decide)) rfl rfl (Nat.le_of_ble_eq_true rfl) dX2_init_41 (fun H locs hP hD hS => ?_)
  have hP : va_P D vwCl [(a, .inr (2, fs2 (.ref h0) (.ref h1) (.ref h2) (.ref h3) (.ref h4) .null .null .null .null)), (h0, .inl (c0, z96)), (h1, .inl (c0, z96)), (h2, .inl (c0, z96)), (h3, .inl (c0, z96)), (h4, .inl (c0, z8))] H := hP
  have hD : va_D A [(a, .inr (2, fs2 (.ref h0) (.ref h1) (.ref h2) (.ref h3) (.ref h4) .null .null .null .null)), (h0, .inl (c0, z96)), (h1, .inl (c0, z96)), (h2, .inl (c0, z96)), (h3, .inl (c0, z96)), (h4, .inl (c0, z8))] := hD
  refine lv_aload_n hx hb dX2_init_44 rfl (lv_at hl 0 rfl) ?_
  refine lv_bipush (v := 8) hx hb dX2_init_45 (by decide) ?_
  refine va_newa (atype := .int) (ty := .int) (N' := 8) (a0 := (8, .inl (fun _ => 0))) hx hb (hts (.arrayClass .int) (by decide +kernel)) rfl hK hP hD hS hA (fun _ => rfl) (by decide) (by decide) (by decide) (Nat.le_of_ble_eq_true rfl) (Nat.le_of_ble_eq_true rfl) dX2_init_47 (fun h5 c5 H hK hP hD hS => ?_)
  have ec : c0 = c5 := Option.some.inj ((hK.2 0 _ rfl).2.symm.trans (hK.2 1 _ rfl).2)
  subst ec
  have hK := hK.sub (tys' := [(c0, .int)]) [0] rfl
  have hP : va_P D vwCl [(a, .inr (2, fs2 (.ref h0) (.ref h1) (.ref h2) (.ref h3) (.ref h4) .null .null .null .null)), (h0, .inl (c0, z96)), (h1, .inl (c0, z96)), (h2, .inl (c0, z96)), (h3, .inl (c0, z96)), (h4, .inl (c0, z8)), (h5, .inl (c0, z8))] H := hP
  have hD : va_D A [(a, .inr (2, fs2 (.ref h0) (.ref h1) (.ref h2) (.ref h3) (.ref h4) .null .null .null .null)), (h0, .inl (c0, z96)), (h1, .inl (c0, z96)), (h2, .inl (c0, z96)), (h3, .inl (c0, z96)), (h4, .inl (c0, z8)), (h5, .inl (c0, z8))] := hD
  refine va_putF (D := D) (ci := 2) (v := .ref h5) (ty := .array .int) (C := RX2) (T := TX2) (N := 20) hx hb hts hinX2 tyX2 tyX2_ok nmX2 hown hK hP hD hS 0 rfl rfl 7 (by decide) (hts (.fieldLink RX2 25 "ParcelChutesModel" "low" "[I") (by decide +kernel)) (fun _ h9 => h9) rfl hin rfl (tyX2_ok 7 (by decide)) rfl rfl (Nat.le_of_ble_eq_true rfl) dX2_init_49 (fun H locs hP hD hS => ?_)
  have hP : va_P D vwCl [(a, .inr (2, fs2 (.ref h0) (.ref h1) (.ref h2) (.ref h3) (.ref h4) (.ref h5) .null .null .null)), (h0, .inl (c0, z96)), (h1, .inl (c0, z96)), (h2, .inl (c0, z96)), (h3, .inl (c0, z96)), (h4, .inl (c0, z8)), (h5, .inl (c0, z8))] H := hP
  have hD : va_D A [(a, .inr (2, fs2 (.ref h0) (.ref h1) (.ref h2) (.ref h3) (.ref h4) (.ref h5) .null .null .null)), (h0, .inl (c0, z96)), (h1, .inl (c0, z96)), (h2, .inl (c0, z96)), (h3, .inl (c0, z96)), (h4, .inl (c0, z8)), (h5, .inl (c0, z8))] := hD
  refine lv_aload_n hx hb dX2_init_52 rfl (lv_at hl 0 rfl) ?_
  refine lv_bipush (v := 8) hx hb dX2_init_53 (by decide) ?_
  refine va_newa (atype := .int) (ty := .int) (N' := 8) (a0 := (8, .inl (fun _ => 0))) hx hb (hts (.arrayClass .int) (by decide +kernel)) rfl hK hP hD hS hA (fun _ => rfl) (by decide) (by decide) (by decide) (Nat.le_of_ble_eq_true rfl) (Nat.le_of_ble_eq_true rfl) dX2_init_55 (fun h6 c6 H hK hP hD hS => ?_)
  have ec : c0 = c6 := Option.some.inj ((hK.2 0 _ rfl).2.symm.trans (hK.2 1 _ rfl).2)
  subst ec
  have hK := hK.sub (tys' := [(c0, .int)]) [0] rfl
  have hP : va_P D vwCl [(a, .inr (2, fs2 (.ref h0) (.ref h1) (.ref h2) (.ref h3) (.ref h4) (.ref h5) .null .null .null)), (h0, .inl (c0, z96)), (h1, .inl (c0, z96)), (h2, .inl (c0, z96)), (h3, .inl (c0, z96)), (h4, .inl (c0, z8)), (h5, .inl (c0, z8)), (h6, .inl (c0, z8))] H := hP
  have hD : va_D A [(a, .inr (2, fs2 (.ref h0) (.ref h1) (.ref h2) (.ref h3) (.ref h4) (.ref h5) .null .null .null)), (h0, .inl (c0, z96)), (h1, .inl (c0, z96)), (h2, .inl (c0, z96)), (h3, .inl (c0, z96)), (h4, .inl (c0, z8)), (h5, .inl (c0, z8)), (h6, .inl (c0, z8))] := hD
  refine va_putF (D := D) (ci := 2) (v := .ref h6) (ty := .array .int) (C := RX2) (T := TX2) (N := 20) hx hb hts hinX2 tyX2 tyX2_ok nmX2 hown hK hP hD hS 0 rfl rfl 8 (by decide) (hts (.fieldLink RX2 28 "ParcelChutesModel" "high" "[I") (by decide +kernel)) (fun _ h9 => h9) rfl hin rfl (tyX2_ok 8 (by decide)) rfl rfl (Nat.le_of_ble_eq_true rfl) dX2_init_57 (fun H locs hP hD hS => ?_)
  have hP : va_P D vwCl [(a, .inr (2, fs2 (.ref h0) (.ref h1) (.ref h2) (.ref h3) (.ref h4) (.ref h5) (.ref h6) .null .null)), (h0, .inl (c0, z96)), (h1, .inl (c0, z96)), (h2, .inl (c0, z96)), (h3, .inl (c0, z96)), (h4, .inl (c0, z8)), (h5, .inl (c0, z8)), (h6, .inl (c0, z8))] H := hP
  have hD : va_D A [(a, .inr (2, fs2 (.ref h0) (.ref h1) (.ref h2) (.ref h3) (.ref h4) (.ref h5) (.ref h6) .null .null)), (h0, .inl (c0, z96)), (h1, .inl (c0, z96)), (h2, .inl (c0, z96)), (h3, .inl (c0, z96)), (h4, .inl (c0, z8)), (h5, .inl (c0, z8)), (h6, .inl (c0, z8))] := hD
  refine lv_aload_n hx hb dX2_init_60 rfl (lv_at hl 0 rfl) ?_
  refine lv_bipush (v := 8) hx hb dX2_init_61 (by decide) ?_
  refine va_newa (atype := .int) (ty := .int) (N' := 8) (a0 := (8, .inl (fun _ => 0))) hx hb (hts (.arrayClass .int) (by decide +kernel)) rfl hK hP hD hS hA (fun _ => rfl) (by decide) (by decide) (by decide) (Nat.le_of_ble_eq_true rfl) (Nat.le_of_ble_eq_true rfl) dX2_init_63 (fun h7 c7 H hK hP hD hS => ?_)
  have ec : c0 = c7 := Option.some.inj ((hK.2 0 _ rfl).2.symm.trans (hK.2 1 _ rfl).2)
  subst ec
  have hK := hK.sub (tys' := [(c0, .int)]) [0] rfl
  have hP : va_P D vwCl [(a, .inr (2, fs2 (.ref h0) (.ref h1) (.ref h2) (.ref h3) (.ref h4) (.ref h5) (.ref h6) .null .null)), (h0, .inl (c0, z96)), (h1, .inl (c0, z96)), (h2, .inl (c0, z96)), (h3, .inl (c0, z96)), (h4, .inl (c0, z8)), (h5, .inl (c0, z8)), (h6, .inl (c0, z8)), (h7, .inl (c0, z8))] H := hP
  have hD : va_D A [(a, .inr (2, fs2 (.ref h0) (.ref h1) (.ref h2) (.ref h3) (.ref h4) (.ref h5) (.ref h6) .null .null)), (h0, .inl (c0, z96)), (h1, .inl (c0, z96)), (h2, .inl (c0, z96)), (h3, .inl (c0, z96)), (h4, .inl (c0, z8)), (h5, .inl (c0, z8)), (h6, .inl (c0, z8)), (h7, .inl (c0, z8))] := hD
  refine va_putF (D := D) (ci := 2) (v := .ref h7) (ty := .array .int) (C := RX2) (T := TX2) (N := 20) hx hb hts hinX2 tyX2 tyX2_ok nmX2 hown hK hP hD hS 0 rfl rfl 9 (by decide) (hts (.fieldLink RX2 31 "ParcelChutesModel" "wide" "[I") (by decide +kernel)) (fun _ h9 => h9) rfl hin rfl (tyX2_ok 9 (by decide)) rfl rfl (Nat.le_of_ble_eq_true rfl) dX2_init_65 (fun H locs hP hD hS => ?_)
  have hP : va_P D vwCl [(a, .inr (2, fs2 (.ref h0) (.ref h1) (.ref h2) (.ref h3) (.ref h4) (.ref h5) (.ref h6) (.ref h7) .null)), (h0, .inl (c0, z96)), (h1, .inl (c0, z96)), (h2, .inl (c0, z96)), (h3, .inl (c0, z96)), (h4, .inl (c0, z8)), (h5, .inl (c0, z8)), (h6, .inl (c0, z8)), (h7, .inl (c0, z8))] H := hP
  have hD : va_D A [(a, .inr (2, fs2 (.ref h0) (.ref h1) (.ref h2) (.ref h3) (.ref h4) (.ref h5) (.ref h6) (.ref h7) .null)), (h0, .inl (c0, z96)), (h1, .inl (c0, z96)), (h2, .inl (c0, z96)), (h3, .inl (c0, z96)), (h4, .inl (c0, z8)), (h5, .inl (c0, z8)), (h6, .inl (c0, z8)), (h7, .inl (c0, z8))] := hD
  refine lv_aload_n hx hb dX2_init_68 rfl (lv_at hl 0 rfl) ?_
  refine lv_bipush (v := 8) hx hb dX2_init_69 (by decide) ?_
  refine va_newa (atype := .boolean) (ty := .boolean) (N' := 8) (a0 := (8, .inl (fun _ => 0))) hx hb (hts (.arrayClass .boolean) (by decide +kernel)) rfl hK hP hD hS hA (fun _ => rfl) (by decide) (by decide) (by decide) (Nat.le_of_ble_eq_true rfl) (Nat.le_of_ble_eq_true rfl) dX2_init_71 (fun h8 c8 H hK hP hD hS => ?_)
  have hK : va_K D vwCl [(c0, .int), (c8, .boolean)] s := hK
  have hP : va_P D vwCl [(a, .inr (2, fs2 (.ref h0) (.ref h1) (.ref h2) (.ref h3) (.ref h4) (.ref h5) (.ref h6) (.ref h7) .null)), (h0, .inl (c0, z96)), (h1, .inl (c0, z96)), (h2, .inl (c0, z96)), (h3, .inl (c0, z96)), (h4, .inl (c0, z8)), (h5, .inl (c0, z8)), (h6, .inl (c0, z8)), (h7, .inl (c0, z8)), (h8, .inl (c8, z8))] H := hP
  have hD : va_D A [(a, .inr (2, fs2 (.ref h0) (.ref h1) (.ref h2) (.ref h3) (.ref h4) (.ref h5) (.ref h6) (.ref h7) .null)), (h0, .inl (c0, z96)), (h1, .inl (c0, z96)), (h2, .inl (c0, z96)), (h3, .inl (c0, z96)), (h4, .inl (c0, z8)), (h5, .inl (c0, z8)), (h6, .inl (c0, z8)), (h7, .inl (c0, z8)), (h8, .inl (c8, z8))] := hD
  refine va_putF (D := D) (ci := 2) (v := .ref h8) (ty := .array .boolean) (C := RX2) (T := TX2) (N := 20) hx hb hts hinX2 tyX2 tyX2_ok nmX2 hown hK hP hD hS 0 rfl rfl 10 (by decide) (hts (.fieldLink RX2 34 "ParcelChutesModel" "closed" "[Z") (by decide +kernel)) (fun _ h9 => h9) rfl hin rfl (tyX2_ok 10 (by decide)) rfl rfl (Nat.le_of_ble_eq_true rfl) dX2_init_73 (fun H locs hP hD hS => ?_)
  have hP : va_P D vwCl [(a, .inr (2, fs2 (.ref h0) (.ref h1) (.ref h2) (.ref h3) (.ref h4) (.ref h5) (.ref h6) (.ref h7) (.ref h8))), (h0, .inl (c0, z96)), (h1, .inl (c0, z96)), (h2, .inl (c0, z96)), (h3, .inl (c0, z96)), (h4, .inl (c0, z8)), (h5, .inl (c0, z8)), (h6, .inl (c0, z8)), (h7, .inl (c0, z8)), (h8, .inl (c8, z8))] H := hP
  have hD : va_D A [(a, .inr (2, fs2 (.ref h0) (.ref h1) (.ref h2) (.ref h3) (.ref h4) (.ref h5) (.ref h6) (.ref h7) (.ref h8))), (h0, .inl (c0, z96)), (h1, .inl (c0, z96)), (h2, .inl (c0, z96)), (h3, .inl (c0, z96)), (h4, .inl (c0, z8)), (h5, .inl (c0, z8)), (h6, .inl (c0, z8)), (h7, .inl (c0, z8)), (h8, .inl (c8, z8))] := hD
  refine lv_iconst (v := 0) hx hb dX2_init_76 (by decide) ?_
  refine lv_istore_n (lv' := [(1, .int 0), (0, .ref a)]) hx hb dX2_init_77 rfl hl (by decide) rfl (fun ls hl => ?_)
  refine W.widen (k := 9) (n := 424) (Nat.le_of_ble_eq_true rfl) (Nat.le_of_ble_eq_true rfl) ?_
  refine loop_home (D := D) (A := A) (a := a) (fun r => [(a, .inr (2, fs2 (.ref h0) (.ref h1) (.ref h2) (.ref h3) (.ref h4) (.ref h5) (.ref h6) (.ref h7) (.ref h8))), (h0, .inl (c0, 96, .inl r)), (h1, .inl (c0, z96)), (h2, .inl (c0, z96)), (h3, .inl (c0, z96)), (h4, .inl (c0, z8)), (h5, .inl (c0, z8)), (h6, .inl (c0, z8)), (h7, .inl (c0, z8)), (h8, .inl (c8, z8))]) (fun k r H locs ls hk hP hD hS hl J => ?_) (fun r H locs ls hr9 hP hD hS hl => ?_) 96 0 (fun _ => 0) H locs ls rfl (fun j hj => absurd hj (Nat.not_lt_zero _)) hP hD hS hl
  · refine lv_iload_n hx hb dX2_init_78 rfl (lv_at hl 0 rfl) ?_
    refine lv_bipush (v := 96) hx hb dX2_init_79 (by decide) ?_
    refine nb_ge (tgt := 97) (i := k) (j := 96) hx hb rfl rfl (by omega) (by decide) dX2_init_81 (by decide) (fun c9 => absurd c9 (by omega)) (fun _ => ?_)
    refine lv_aload_n hx hb dX2_init_84 rfl (lv_at hl 1 rfl) ?_
    refine va_get (C := RX2) (T := TX2) (N := 20) (ci := 2) (v := .ref h0) hx hb hts hinX2 hown hK hP 0 rfl rfl 1 (by decide) (hts (.fieldLink RX2 7 "ParcelChutesModel" "home" "[I") (by decide +kernel)) (fun _ h9 => h9) rfl dX2_init_85 ?_
    refine lv_iload_n hx hb dX2_init_88 rfl (lv_at hl 0 rfl) ?_
    refine lv_iconst (v := -1) hx hb dX2_init_89 (by decide) ?_
    refine va_iast hx hb hK hP hD hS 1 0 rfl rfl (vp_in_nI hk (by decide)) dX2_init_90 (fun H1 locs1 hP1 hD1 hS1 => ?_)
    rw [nI_clamp (by omega)] at hP1 hD1
    refine lv_iinc (lv' := [(1, .int (nI (k + 1))), (0, .ref a)]) (v := nI (k + 1)) (k := 0) hx hb dX2_init_91 hl rfl (nI_1 k) (by decide) rfl (fun ls hl => ?_)
    refine lv_goto (tgt := 78) hx hb dX2_init_94 (by decide) ?_
    exact J H1 locs1 ls hP1 hD1 hS1 hl
  · refine lv_iload_n hx hb dX2_init_78 rfl (lv_at hl 0 rfl) ?_
    refine lv_bipush (v := 96) hx hb dX2_init_79 (by decide) ?_
    refine nb_ge (tgt := 97) (i := 96) (j := 96) hx hb rfl rfl (by decide) (by decide) dX2_init_81 (by decide) (fun c9 => ?_) (fun c9 => absurd c9 (by decide))
    generalize hadv : (fun j => ([a, h0, h1, h2, h3, h4, h5, h6, h7, h8] : List Nat).getD (j - 26) 0) = ad
    have hP := hP.sub (ws' := WMd (D, 0, ad, fun j => if j = 1 then c8 else c0, fun _ => 0) r) [0, 1, 2, 3, 4, 5, 6, 7, 8, 9] (by subst hadv; rfl)
    have hD := hD.sub (ws' := WMd (D, 0, ad, fun j => if j = 1 then c8 else c0, fun _ => 0) r) [0, 1, 2, 3, 4, 5, 6, 7, 8, 9] (by decide) (by subst hadv; rfl)
    exact W.vret hx hb hr (fun t ht hW => ⟨⟨((D, 0, ad, fun j => if j = 1 then c8 else c0, fun _ => 0), r), rfl, ⟨rfl, hr9⟩, by subst hadv; rfl, by rw [ht]; exact hP, va_K.moved hW.alike hK, hD⟩, hS.F ht⟩) hS.2.2 dX2_init_97

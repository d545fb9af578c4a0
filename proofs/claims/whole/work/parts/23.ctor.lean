/-! THE CONSTRUCTORS -/
abbrev fs0 (x y : Value) : List Value := [x, y, .int 0, .int 0, .int 0, .int 0, .int 0, .int 0]
abbrev fs1 (x : Value) : List Value := [x, .int 0, .int 0, .int 0, .int 0, .int 0, .int 0, .int 0, .int 0, .int 0]
abbrev z12 : vp_A := (12, .inl (fun _ => 0))
abbrev w0 (a : Nat) (u : Nat × Nat × ClassId) : va_W := [(a, .inr (0, fs0 (.ref u.1) (.ref u.2.1))), (u.1, .inl (u.2.2, z12)), (u.2.1, .inl (u.2.2, z12))]
theorem va_P_q {D : va_G} {cl : List vw_C} {ws : va_W} {H : Heap} {k a n : Nat} {cA : ClassId} {f f' : Nat → Option Nat} (h : va_P D cl ws H) (ha : ws[k]? = some (a, .inl (cA, n, .inr (.inr (.inr (.inr f)))))) (hf : ∀ j, j < n → f j = f' j) : va_P D cl (ws.set k (a, .inl (cA, n, .inr (.inr (.inr (.inr f')))))) H := by
  have he : vp_cell cA (n, .inr (.inr (.inr (.inr f)))) = vp_cell cA (n, .inr (.inr (.inr (.inr f')))) := by
    rw [vp_cell_q, vp_cell_q]
    unfold arrV
    congr 2
    funext j
    show va_rf (f j.val) = va_rf (f' j.val)
    rw [hf j.val j.isLt]
  intro i q hq
  rw [List.getElem?_set] at hq
  by_cases hi : k = i
  · subst hi
    rw [if_pos rfl, if_pos (List.getElem?_eq_some_iff.mp ha).1] at hq
    cases hq
    have h9 : H[a]? = some (vp_cell cA (n, .inr (.inr (.inr (.inr f))))) := h k _ ha
    show H[a]? = some (vp_cell cA (n, .inr (.inr (.inr (.inr f')))))
    rw [← he]
    exact h9
  · rw [if_neg hi] at hq
    exact h i q hq
def PI (D : va_G) (a sz ci : Nat) (fs : List Value) : Array Value → State → Prop := va_Pc [.ref a] (fun U => U.heap.size = sz ∧ va_P D vwCl [(a, .inr (ci, fs))] U.heap ∧ va_K D vwCl [] U)
theorem PI_blind {D : va_G} {a sz ci : Nat} {fs : List Value} : FrameBlind (PI D a sz ci fs) := fun a U g mk q => by
  obtain ⟨q0, q1, qP, qK⟩ := q
  exact ⟨q0, q1, qP, va_K.moved (u := U) (U := U.calling g mk a) (Vm.Alike.refl U.vm) qK⟩
theorem va_D1 {A : Nat → Prop} {a : Nat} {e : va_E} (h : A a) : va_D A [(a, e)] := by
  refine ⟨fun i j p q hi hj _ => ?_, fun k q hk => ?_⟩
  · have h1 : i < 1 := (List.getElem?_eq_some_iff.mp hi).1
    have h2 : j < 1 := (List.getElem?_eq_some_iff.mp hj).1
    omega
  · have h1 : k < 1 := (List.getElem?_eq_some_iff.mp hk).1
    have h2 : k = 0 := by omega
    subst h2
    cases hk
    exact h
set_option maxHeartbeats 8000000 in
set_option maxRecDepth 100000 in
/-- Chute() -/
theorem mtX0_init (l : Launch) (D : va_G) (a sz : Nat) : Met l yX0_init wsX0_init ({ frames := 1, cells := 2, slots := 24, locals := 12 } : Room) (PI D a sz 0 (fs0 .null .null)) (va_Qv (fun _ : Nat × Nat × ClassId => True) (fun u t => va_P D vwCl (w0 a u) t.heap ∧ va_K D vwCl [(u.2.2, .int)] t ∧ va_D (va_A [(a, .inr (0, fs0 .null .null))] sz) (w0 a u)) (va_A [(a, .inr (0, fs0 .null .null))] sz)) 2 24 (va_A [(a, .inr (0, fs0 .null .null))] sz) := by
  refine Met.ofW (cc := cX0_init) (maxL := 1) (ret := none) (by decide) rfl ?_
  intro p e s m args below meth c s₁ B hml hv
  obtain ⟨rfl, hsz, hP, hK⟩ := hv
  have hx := B.exec
  have hb := B.bytes
  have hr := B.returns
  have hts := atoms_spec (ws := wsX0_init) B.pre
  have hown : s.vm.findClass RX0 = some m.cls := findClass_of_methodNamed B.named
  have hlocks := B.notSynchronized
  have hin : meth.name = "<init>" := (name_of_methodNamed B.named B.method).1
  subst hsz
  have hD : va_D (va_A [(a, .inr (0, fs0 .null .null))] s.heap.size) [(a, .inr (0, fs0 .null .null))] := va_D1 (Or.inl ⟨0, _, rfl⟩)
  generalize hAe : va_A [(a, .inr (0, fs0 .null .null))] s.heap.size = A at hD ⊢
  have hA : ∀ q : Nat, s.heap.size ≤ q → A q := fun q h => by rw [← hAe]; exact Or.inr h
  have hS : va_S A s.heap s.heap [] := va_S.rf
  have hinX0 : ∀ w ∈ wsX00, w ∈ wsX0_init := fun w h => by simp only [wsX0_init, List.mem_cons, List.mem_append, h, or_true, true_or]
  have hl := lv_entry ([.ref a]) (n := 1) (Nat.le_of_ble_eq_true rfl)
  rw [lg_entry_eq]
  generalize (lg_sl ([.ref a]) ++ List.replicate (1 - (lg_sl ([.ref a])).length) Slot.unset).toArray = ls at hl ⊢
  have hl : lv_has ls 1 [(0, .ref a)] := hl
  refine lv_aload_n hx hb dX0_init_0 rfl (lv_at hl 0 rfl) ?_
  refine W.objInit hx hb hown (hts (.methodLink RX0 3 objectInit) (by decide +kernel)) (hts (.instanceMethod objectInit) (by decide +kernel)) (hts (.code objectInit ⟨#[0xb1]⟩ 1 none) (by decide +kernel)) rfl (by rw [hml]; exact hl.1) rfl dX0_init_1 (Nat.le_of_ble_eq_true rfl) (Nat.le_of_ble_eq_true rfl) ?_
  refine W.eq (g2 := F0 m 4 ls []) rfl ?_
  refine lv_aload_n hx hb dX0_init_4 rfl (lv_at hl 0 rfl) ?_
  refine lv_bipush (v := 12) hx hb dX0_init_5 (by decide) ?_
  refine va_newa (atype := .int) (ty := .int) (N' := 12) (a0 := (12, .inl (fun _ => 0))) hx hb (hts (.arrayClass .int) (by decide +kernel)) rfl hK hP hD hS hA (fun _ => rfl) (by decide) (by decide) (by decide) (Nat.le_of_ble_eq_true rfl) (Nat.le_of_ble_eq_true rfl) dX0_init_7 (fun q1 c1 H hK hP hD hS => ?_)
  have hP : va_P D vwCl [(a, .inr (0, fs0 .null .null)), (q1, .inl (c1, z12))] H := hP
  have hD : va_D A [(a, .inr (0, fs0 .null .null)), (q1, .inl (c1, z12))] := hD
  refine va_putF (D := D) (ci := 0) (v := .ref q1) (ty := .array .int) (C := RX0) (T := TX0) (N := 8) hx hb hts hinX0 tyX0 tyX0_ok nmX0 hown hK hP hD hS 0 rfl rfl 0 (by decide) (hts (.fieldLink RX0 9 "ParcelChutes$Chute" "weights" "[I") (by decide +kernel)) (fun _ h9 => h9) rfl hin rfl (tyX0_ok 0 (by decide)) rfl rfl (Nat.le_of_ble_eq_true rfl) dX0_init_9 (fun H locs hP hD hS => ?_)
  have hP : va_P D vwCl [(a, .inr (0, fs0 (.ref q1) .null)), (q1, .inl (c1, z12))] H := hP
  have hD : va_D A [(a, .inr (0, fs0 (.ref q1) .null)), (q1, .inl (c1, z12))] := hD
  refine lv_aload_n hx hb dX0_init_12 rfl (lv_at hl 0 rfl) ?_
  refine lv_bipush (v := 12) hx hb dX0_init_13 (by decide) ?_
  refine va_newa (atype := .int) (ty := .int) (N' := 12) (a0 := (12, .inl (fun _ => 0))) hx hb (hts (.arrayClass .int) (by decide +kernel)) rfl hK hP hD hS hA (fun _ => rfl) (by decide) (by decide) (by decide) (Nat.le_of_ble_eq_true rfl) (Nat.le_of_ble_eq_true rfl) dX0_init_15 (fun q2 c2 H hK hP hD hS => ?_)
  have ec : c2 = c1 := Option.some.inj ((hK.2 1 _ rfl).2.symm.trans (hK.2 0 _ rfl).2)
  subst ec
  have hK := hK.sub (tys' := [(c2, .int)]) [0] rfl
  have hP : va_P D vwCl [(a, .inr (0, fs0 (.ref q1) .null)), (q1, .inl (c2, z12)), (q2, .inl (c2, z12))] H := hP
  have hD : va_D A [(a, .inr (0, fs0 (.ref q1) .null)), (q1, .inl (c2, z12)), (q2, .inl (c2, z12))] := hD
  refine va_putF (D := D) (ci := 0) (v := .ref q2) (ty := .array .int) (C := RX0) (T := TX0) (N := 8) hx hb hts hinX0 tyX0 tyX0_ok nmX0 hown hK hP hD hS 0 rfl rfl 1 (by decide) (hts (.fieldLink RX0 15 "ParcelChutes$Chute" "girths" "[I") (by decide +kernel)) (fun _ h9 => h9) rfl hin rfl (tyX0_ok 1 (by decide)) rfl rfl (Nat.le_of_ble_eq_true rfl) dX0_init_17 (fun H locs hP hD hS => ?_)
  have hP : va_P D vwCl (w0 a (q1, q2, c2)) H := hP
  have hD : va_D A (w0 a (q1, q2, c2)) := hD
  refine W.widen (k := 2) (n := 24) (Nat.le_of_ble_eq_true rfl) (Nat.le_of_ble_eq_true rfl) ?_
  exact W.vret hx hb hr (fun t ht hW => ⟨⟨(q1, q2, c2), rfl, trivial, by rw [ht]; exact hP, va_K.moved hW.alike hK, hD⟩, hS.F ht⟩) hS.2.2 dX0_init_20

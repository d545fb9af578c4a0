def PW (E : Ev) (σ : Mem) (o : Nat → Int64) (av : List Value) : Array Value → State → Prop := va_Pc av (fun U => va_P (e_D E) vwCl (wd E σ o) U.heap ∧ KN E U)
def BW (E : Ev) (o : Nat → Int64) : Mem → State → Prop := fun σ t => va_P (e_D E) vwCl (wd E σ o) t.heap
/-- thrown: a class that px allows, nothing changed -/
def XW (E : Ev) (σ : Mem) (o : Nat → Int64) (px : String → Prop) : String → State → State → Prop := vx_X px (fun X u t => X = u ∧ va_P (e_D E) vwCl (wd E σ o) t.heap) (LB (e_B E))
theorem PW_blind {E : Ev} {σ : Mem} {o : Nat → Int64} {av : List Value} : FrameBlind (PW E σ o av) := fun a U g mk q => by
  obtain ⟨h1, h2, h3⟩ := q
  exact ⟨h1, h2, KN.mv (s := U) (U := U.calling g mk a) (State.WarmedH.refl U) (fun _ _ _ => rfl) h3⟩
theorem PW_pre {E : Ev} {σ : Mem} {o : Nat → Int64} {av : List Value} {s : State} {H : Heap} {locs : List Loc} (hP : va_P (e_D E) vwCl (wd E σ o) H) (hK : KN E s) (hS : va_S (LB (e_B E)) s.heap H locs) : ∀ U : State, U.heap = H → s.WarmedH U.vm → PW E σ o av av.toArray U := fun U hU hW =>
  ⟨rfl, by rw [hU]; exact hP, KN.mv hW (by rw [hU]; exact hS.2.1) hK⟩
theorem PT_blind {av : List Value} : FrameBlind (va_Pc av (fun _ => True)) := fun _ _ _ _ q => q
section RW3
variable {p : Program} {l : Launch} {e : Env} {R : Room} {s : State} {m : MethodId} {args : Array Value} {below : List Frame} {meth : Method} {c : Code} {H : Heap} {locs : List Loc} {cells slots : Nat} {Q : State → Prop} {cc : ByteArray} {pc : Nat} {ls : Array Slot} {rest st0 As : List Value}
variable {y : MethodName} {bytes : ByteArray} {maxL nL mc ms n index : Nat} {ret : Option FieldType} {ws Ts : List Cond} {rm : Room} {own C : String} {b : Addr} {E : Ev} {σ : Mem} {o : Nat → Int64} {off : Int} {tgt : Nat}
-- branches over numbers that are naturals
theorem nb_eq (hexec : p.tables.exec = Jvm.exec) (hb : c.code = cc) {x y : Int32} {i j : Nat} (hx : x = nI i) (hy : y = nI j) (hi : i < 2 ^ 31) (hj : j < 2 ^ 31) (hdg : decode cc pc = .ok (.if_icmp .eq off, 3)) (ht : (pc : Int) + off = (tgt : Int)) (kt : i = j → W p l e R s m args below meth c H locs cells slots Q (F0 m tgt ls rest)) (kf : i ≠ j → W p l e R s m args below meth c H locs cells slots Q (F0 m (pc + 3) ls rest)) : W p l e R s m args below meth c H locs cells slots Q (F0 m pc ls (.int y :: .int x :: rest)) := by
  subst hx; subst hy
  exact lv_icmp_eq hexec hb hdg ht (fun h => kt ((nI_eq hi hj).mp h)) (fun h => kf (fun z => h ((nI_eq hi hj).mpr z)))
theorem nb_ne (hexec : p.tables.exec = Jvm.exec) (hb : c.code = cc) {x y : Int32} {i j : Nat} (hx : x = nI i) (hy : y = nI j) (hi : i < 2 ^ 31) (hj : j < 2 ^ 31) (hdg : decode cc pc = .ok (.if_icmp .ne off, 3)) (ht : (pc : Int) + off = (tgt : Int)) (kt : i ≠ j → W p l e R s m args below meth c H locs cells slots Q (F0 m tgt ls rest)) (kf : i = j → W p l e R s m args below meth c H locs cells slots Q (F0 m (pc + 3) ls rest)) : W p l e R s m args below meth c H locs cells slots Q (F0 m pc ls (.int y :: .int x :: rest)) := by
  subst hx; subst hy
  exact lv_icmp_ne hexec hb hdg ht (fun h => kt (fun z => h ((nI_eq hi hj).mpr z))) (fun h => kf ((nI_eq hi hj).mp h))
theorem nb_ge (hexec : p.tables.exec = Jvm.exec) (hb : c.code = cc) {x y : Int32} {i j : Nat} (hx : x = nI i) (hy : y = nI j) (hi : i < 2 ^ 31) (hj : j < 2 ^ 31) (hdg : decode cc pc = .ok (.if_icmp .ge off, 3)) (ht : (pc : Int) + off = (tgt : Int)) (kt : j ≤ i → W p l e R s m args below meth c H locs cells slots Q (F0 m tgt ls rest)) (kf : i < j → W p l e R s m args below meth c H locs cells slots Q (F0 m (pc + 3) ls rest)) : W p l e R s m args below meth c H locs cells slots Q (F0 m pc ls (.int y :: .int x :: rest)) := by
  subst hx; subst hy
  exact lv_icmp_ge hexec hb hdg ht (fun h => kt ((nI_leI hj hi).mp h)) (fun h => kf (Nat.not_le.mp (fun z => h ((nI_leI hj hi).mpr z))))
theorem nb_lt (hexec : p.tables.exec = Jvm.exec) (hb : c.code = cc) {x y : Int32} {i j : Nat} (hx : x = nI i) (hy : y = nI j) (hi : i < 2 ^ 31) (hj : j < 2 ^ 31) (hdg : decode cc pc = .ok (.if_icmp .lt off, 3)) (ht : (pc : Int) + off = (tgt : Int)) (kt : i < j → W p l e R s m args below meth c H locs cells slots Q (F0 m tgt ls rest)) (kf : j ≤ i → W p l e R s m args below meth c H locs cells slots Q (F0 m (pc + 3) ls rest)) : W p l e R s m args below meth c H locs cells slots Q (F0 m pc ls (.int y :: .int x :: rest)) := by
  subst hx; subst hy
  exact lv_icmp_lt hexec hb hdg ht (fun h => kt ((nI_ltI hi hj).mp h)) (fun h => kf (Nat.not_lt.mp (fun z => h ((nI_ltI hi hj).mpr z))))
theorem nb_gt (hexec : p.tables.exec = Jvm.exec) (hb : c.code = cc) {x y : Int32} {i j : Nat} (hx : x = nI i) (hy : y = nI j) (hi : i < 2 ^ 31) (hj : j < 2 ^ 31) (hdg : decode cc pc = .ok (.if_icmp .gt off, 3)) (ht : (pc : Int) + off = (tgt : Int)) (kt : j < i → W p l e R s m args below meth c H locs cells slots Q (F0 m tgt ls rest)) (kf : i ≤ j → W p l e R s m args below meth c H locs cells slots Q (F0 m (pc + 3) ls rest)) : W p l e R s m args below meth c H locs cells slots Q (F0 m pc ls (.int y :: .int x :: rest)) := by
  subst hx; subst hy
  exact lv_icmp_gt hexec hb hdg ht (fun h => kt ((nI_ltI hj hi).mp h)) (fun h => kf (Nat.not_lt.mp (fun z => h ((nI_ltI hj hi).mpr z))))
theorem nb_le (hexec : p.tables.exec = Jvm.exec) (hb : c.code = cc) {x y : Int32} {i j : Nat} (hx : x = nI i) (hy : y = nI j) (hi : i < 2 ^ 31) (hj : j < 2 ^ 31) (hdg : decode cc pc = .ok (.if_icmp .le off, 3)) (ht : (pc : Int) + off = (tgt : Int)) (kt : i ≤ j → W p l e R s m args below meth c H locs cells slots Q (F0 m tgt ls rest)) (kf : j < i → W p l e R s m args below meth c H locs cells slots Q (F0 m (pc + 3) ls rest)) : W p l e R s m args below meth c H locs cells slots Q (F0 m pc ls (.int y :: .int x :: rest)) := by
  subst hx; subst hy
  exact lv_icmp_le hexec hb hdg ht (fun h => kt ((nI_leI hi hj).mp h)) (fun h => kf (Nat.not_le.mp (fun z => h ((nI_leI hi hj).mpr z))))
-- arrays
theorem q_ld (hexec : p.tables.exec = Jvm.exec) (hb : c.code = cc) (hK : KN E s) (hP : va_P (e_D E) vwCl (wd E σ o) H) {j N : Nat} (ha : (wd E σ o)[j]? = some (e_a E j, .inl (e_c E 0, N, .inl (σ j)))) {x : Int32} {i : Nat} (hx : x = nI i) (hi : i < N) (hN : N < 2 ^ 31) (hdg : decode cc pc = .ok (.iaload, 1)) (kk : W p l e R s m args below meth c H locs cells slots Q (F0 m (pc + 1) ls (.int (σ j i) :: rest))) : W p l e R s m args below meth c H locs cells slots Q (F0 m pc ls (.int x :: .ref (e_a E j) :: rest)) := by
  subst hx
  refine va_iald hexec hb hK.K hP j 0 ha rfl (vp_in_nI hi hN) hdg ?_
  rw [nI_clamp (by omega)]
  exact kk
theorem q_zld (hexec : p.tables.exec = Jvm.exec) (hb : c.code = cc) (hK : KN E s) (hP : va_P (e_D E) vwCl (wd E σ o) H) {x : Int32} {i : Nat} (hx : x = nI i) (hi : i < 8) (hdg : decode cc pc = .ok (.baload, 1)) (kk : W p l e R s m args below meth c H locs cells slots Q (F0 m (pc + 1) ls (.int (σ 35 i) :: rest))) : W p l e R s m args below meth c H locs cells slots Q (F0 m pc ls (.int x :: .ref (e_a E 35) :: rest)) := by
  subst hx
  refine va_zald hexec hb hK.K hP 35 1 at_35 rfl (vp_in_nI hi (by decide)) hdg ?_
  rw [nI_clamp (by omega)]
  exact kk
theorem q_chld (hexec : p.tables.exec = Jvm.exec) (hb : c.code = cc) (hK : KN E s) (hP : va_P (e_D E) vwCl (wd E σ o) H) {x : Int32} {i : Nat} (hx : x = nI i) (hi : i < 8) (hdg : decode cc pc = .ok (.aaload, 1)) (kk : W p l e R s m args below meth c H locs cells slots Q (F0 m (pc + 1) ls (.ref (e_a E (i + 2)) :: rest))) : W p l e R s m args below meth c H locs cells slots Q (F0 m pc ls (.int x :: .ref (e_a E 1) :: rest)) := by
  subst hx
  refine va_aldq (C := "ParcelChutes$Chute") hexec hb hK.K hP 1 3 at_1 rfl (vp_in_nI hi (by decide)) hdg ?_
  rw [nI_clamp (by omega)]
  exact kk
theorem q_st (hexec : p.tables.exec = Jvm.exec) (hb : c.code = cc) (hok : e_ok E) (hK : KN E s) (hP : va_P (e_D E) vwCl (wd E σ o) H) (hS : va_S (LB (e_B E)) s.heap H locs) {j N : Nat} (ha : (wd E σ o)[j]? = some (e_a E j, .inl (e_c E 0, N, .inl (σ j)))) (hc : ∀ r : Nat → Int32, (.inl (e_c E 0, N, .inl r) : va_E) = w_cell E r o j) (hj : j < 37) {x v : Int32} {i : Nat} (hx : x = nI i) (hi : i < N) (hN : N < 2 ^ 31) (hdg : decode cc pc = .ok (.iastore, 1)) (kk : ∀ (H1 : Heap) (locs1 : List Loc), va_P (e_D E) vwCl (wd E (m_up σ j i v) o) H1 → va_S (LB (e_B E)) s.heap H1 locs1 → W p l e R s m args below meth c H1 locs1 cells slots Q (F0 m (pc + 1) ls rest)) : W p l e R s m args below meth c H locs cells slots Q (F0 m pc ls (.int v :: .int x :: .ref (e_a E j) :: rest)) := by
  subst hx
  refine va_iast hexec hb hK.K hP (wd_D hok σ o) hS j 0 ha rfl (vp_in_nI hi hN) hdg (fun H1 locs1 hP1 _ hS1 => ?_)
  rw [nI_clamp (by omega), wd_put (E := E) (σ := σ) (o := o) (i := i) (v := v) hj (hc _)] at hP1
  exact kk H1 locs1 hP1 hS1
theorem q_zst (hexec : p.tables.exec = Jvm.exec) (hb : c.code = cc) (hok : e_ok E) (hK : KN E s) (hP : va_P (e_D E) vwCl (wd E σ o) H) (hS : va_S (LB (e_B E)) s.heap H locs) {x v : Int32} {i : Nat} (hx : x = nI i) (hi : i < 8) (hv : vp_nar .boolean v = v) (hdg : decode cc pc = .ok (.bastore, 1)) (kk : ∀ (H1 : Heap) (locs1 : List Loc), va_P (e_D E) vwCl (wd E (m_up σ 35 i v) o) H1 → va_S (LB (e_B E)) s.heap H1 locs1 → W p l e R s m args below meth c H1 locs1 cells slots Q (F0 m (pc + 1) ls rest)) : W p l e R s m args below meth c H locs cells slots Q (F0 m pc ls (.int v :: .int x :: .ref (e_a E 35) :: rest)) := by
  subst hx
  refine va_zast hexec hb hK.K hP (wd_D hok σ o) hS 35 1 at_35 rfl (vp_in_nI hi (by decide)) hdg (fun H1 locs1 hP1 _ hS1 => ?_)
  rw [nI_clamp (by omega), hv, wd_put (E := E) (σ := σ) (o := o) (j := 35) (i := i) (v := v) (e := .inl (e_c E 1, 8, .inl (upd (σ 35) i v))) (by decide) rfl] at hP1
  exact kk H1 locs1 hP1 hS1
-- fields
theorem q_get {T : u_T} {N ci : Nat} (hexec : p.tables.exec = Jvm.exec) (hb : c.code = cc) (hts : ∀ w ∈ Ts, w.before args s = true) (hin : ∀ w ∈ u_ws C T N, w ∈ Ts) (hown : s.vm.findClass own = some m.cls) (hK : KN E s) (hP : va_P (e_D E) vwCl (wd E σ o) H) {j : Nat} {fs : List Value} (he : (wd E σ o)[j]? = some (e_a E j, .inr (ci, fs))) (hc : vwCl[ci]? = some (C, T, N)) (k : Nat) (hk : k < N) (hlink : (Cond.fieldLink own index (T k).1 (T k).2.1 (T k).2.2.1).before args s = true) {v : Value} (hv : fs[k]? = some v) (hdg : decode cc pc = .ok (.getfield index, 3)) (kk : W p l e R s m args below meth c H locs cells slots Q (F0 m (pc + 3) ls (v :: rest))) : W p l e R s m args below meth c H locs cells slots Q (F0 m pc ls (.ref (e_a E j) :: rest)) :=
  va_get hexec hb hts hin hown hK.K hP j he hc k hk hlink (fun _ h9 => h9) hv hdg kk
theorem q_put {T : u_T} {N ci : Nat} (hexec : p.tables.exec = Jvm.exec) (hb : c.code = cc) (hts : ∀ w ∈ Ts, w.before args s = true) (hin : ∀ w ∈ u_ws C T N, w ∈ Ts) (ty0 : Nat → FieldType) (hty : ∀ k, k < N → parseFieldDescriptor (T k).2.2.1 = some (ty0 k)) (hnm : ∀ a, a < N → ∀ b, b < N → a ≠ b → (T a).2.1 ≠ (T b).2.1) (hown : s.vm.findClass own = some m.cls) (hok : e_ok E) (hK : KN E s) (hP : va_P (e_D E) vwCl (wd E σ o) H) (hS : va_S (LB (e_B E)) s.heap H locs) {j : Nat} {fs : List Value} (he : (wd E σ o)[j]? = some (e_a E j, .inr (ci, fs))) (hj : j < 37) (hc : vwCl[ci]? = some (C, T, N)) (k : Nat) (hk : k < N) (hlink : (Cond.fieldLink own index (T k).1 (T k).2.1 (T k).2.2.1).before args s = true) (hfin : (T k).2.2.2 = false) {ty : FieldType} {v : Int32} (hd : parseFieldDescriptor (T k).2.2.1 = some ty) (hn : narrow ty (.int v) = .int v) (hfit : fits ty (.int v) = true) (hl : k < fs.length) (hset : (.inr (ci, fs.set k (.int v)) : va_E) = w_cell E (upd (σ j) k v) o j) (hdg : decode cc pc = .ok (.putfield index, 3)) (kk : ∀ (H1 : Heap) (locs1 : List Loc), va_P (e_D E) vwCl (wd E (m_up σ j k v) o) H1 → va_S (LB (e_B E)) s.heap H1 locs1 → W p l e R s m args below meth c H1 locs1 cells slots Q (F0 m (pc + 3) ls rest)) : W p l e R s m args below meth c H locs cells slots Q (F0 m pc ls (.int v :: .ref (e_a E j) :: rest)) :=
  va_put hexec hb hts hin ty0 hty hnm hown hK.K hP (wd_D hok σ o) hS j he hc k hk hlink (fun _ h9 => h9) hfin hd hn hfit hl hdg (fun H1 locs1 hP1 _ hS1 => kk H1 locs1 (by rw [wd_put (E := E) (σ := σ) (o := o) (i := k) (v := v) hj hset] at hP1; exact hP1) hS1)
-- calls that neither write nor throw, over numbers alone
theorem k_Si {post : Int32 → Prop} (S : CallFix p m c cc nL s args Ts own) (hM : Met l y ws rm (va_Pc As (fun _ => True)) (vp_Si post) 0 0 (fun _ => False)) (cw : CallB R s args own index y bytes maxL ret ws rm 0 0 n ∧ (Cond.static y).before args s = true) (hn : As.length = n) (hsize : ls.size = nL) (hst : st0 = As.reverse ++ rest) (hW : (rest.map fun v => v.category).sum ≤ 8) (hdg : decode cc pc = .ok (.invokestatic index, 3)) (hf : cells ≤ R.cells ∧ slots ≤ R.slots) (kk : ∀ r : Int32, post r → W p l e R s m args below meth c H locs cells slots Q (F0 m (pc + 3) ls (.int r :: rest))) : W p l e R s m args below meth c H locs cells slots Q (F0 m pc ls st0) :=
  vp_callSi (W.runS S hM cw ⟨PT_blind, fun _ _ _ => ⟨rfl, trivial⟩⟩ rfl hn hsize hst (lv_room hW) hdg hf) kk
theorem k_run {mc ms : Nat} {g : JFrame} {Qa : State → Outcome → State → Prop} {free : Addr → Prop} (h : va_Run p l e R s m args below meth c H locs cells slots mc ms g rest Qa free) : CallRun p l e R s m args below meth c H locs cells slots mc ms g rest Qa free := fun T hT X => by
  obtain ⟨v, st₀, t, T', L, h0, X', hL, e1, e2, hq, st⟩ := h T hT X
  exact ⟨v, st₀, t, T', L, h0, X', hL, e1, hq, st⟩
theorem k_SiN {post : Int32 → Prop} {host : String} (S : CallFix p m c cc nL s args Ts own) (hM : Met l y ws rm (va_Pc As (fun _ => True)) (vp_Si post) 0 0 (fun _ => False)) (cw : va_CN R s args own index y host bytes maxL ret ws rm 0 0 n ∧ (Cond.static y).before args s = true ∧ True) (hn : As.length = n) (hsize : ls.size = nL) (hst : st0 = As.reverse ++ rest) (hW : (rest.map fun v => v.category).sum ≤ 8) (hdg : decode cc pc = .ok (.invokestatic index, 3)) (hf : cells ≤ R.cells ∧ slots ≤ R.slots) (kk : ∀ r : Int32, post r → W p l e R s m args below meth c H locs cells slots Q (F0 m (pc + 3) ls (.int r :: rest))) : W p l e R s m args below meth c H locs cells slots Q (F0 m pc ls st0) :=
  vp_callSi (k_run (va_runSN S hM cw ⟨PT_blind, fun _ _ _ => ⟨rfl, trivial⟩⟩ rfl hn hsize hst (lv_room hW) hdg hf)) kk
-- calls over the memory, that don't throw
theorem k_Vi {post : Int32 → Mem → Prop} (S : CallFix p m c cc nL s args Ts own) (hM : Met l y ws rm (PW E σ o (.ref b :: As)) (va_Qi post (BW E o) (LB (e_B E))) 0 0 (LB (e_B E))) (cw : CallW R s args own C index y bytes maxL ret ws rm 0 0 n) (hrec : ∃ cellB : Cell, H[b]? = some cellB ∧ cellB.vm.isStatics = false ∧ s.vm.findClass C = some cellB.cls) (hK : KN E s) (hP : va_P (e_D E) vwCl (wd E σ o) H) (hS : va_S (LB (e_B E)) s.heap H locs) (hn : As.length = n) (hsize : ls.size = nL) (hst : st0 = As.reverse ++ .ref b :: rest) (hW : (rest.map fun v => v.category).sum ≤ 8) (hdg : decode cc pc = .ok (.invokevirtual index, 3)) (hf : cells ≤ R.cells ∧ slots ≤ R.slots) (kk : ∀ (r : Int32) (σ' : Mem) (H1 : Heap) (locs1 : List Loc), post r σ' → va_P (e_D E) vwCl (wd E σ' o) H1 → va_S (LB (e_B E)) s.heap H1 locs1 → W p l e R s m args below meth c H1 locs1 cells slots Q (F0 m (pc + 3) ls (.int r :: rest))) : W p l e R s m args below meth c H locs cells slots Q (F0 m pc ls st0) :=
  va_calli (va_runV S hM cw ⟨PW_blind, hrec, PW_pre hP hK hS⟩ rfl hn hsize hst (lv_room hW) hdg hf) hS (fun _ _ h => h) (fun _ h => h) (fun r u t H1 locs1 ht _ hw hB _ _ hS1 => kk r u H1 locs1 hw (by rw [← ht]; exact hB) hS1)
theorem k_Vv {post : Mem → Prop} (S : CallFix p m c cc nL s args Ts own) (hM : Met l y ws rm (PW E σ o (.ref b :: As)) (va_Qv post (BW E o) (LB (e_B E))) 0 0 (LB (e_B E))) (cw : CallW R s args own C index y bytes maxL ret ws rm 0 0 n) (hrec : ∃ cellB : Cell, H[b]? = some cellB ∧ cellB.vm.isStatics = false ∧ s.vm.findClass C = some cellB.cls) (hK : KN E s) (hP : va_P (e_D E) vwCl (wd E σ o) H) (hS : va_S (LB (e_B E)) s.heap H locs) (hn : As.length = n) (hsize : ls.size = nL) (hst : st0 = As.reverse ++ .ref b :: rest) (hW : (rest.map fun v => v.category).sum ≤ 8) (hdg : decode cc pc = .ok (.invokevirtual index, 3)) (hf : cells ≤ R.cells ∧ slots ≤ R.slots) (kk : ∀ (σ' : Mem) (H1 : Heap) (locs1 : List Loc), post σ' → va_P (e_D E) vwCl (wd E σ' o) H1 → va_S (LB (e_B E)) s.heap H1 locs1 → W p l e R s m args below meth c H1 locs1 cells slots Q (F0 m (pc + 3) ls rest)) : W p l e R s m args below meth c H locs cells slots Q (F0 m pc ls st0) :=
  va_callv (va_runV S hM cw ⟨PW_blind, hrec, PW_pre hP hK hS⟩ rfl hn hsize hst (lv_room hW) hdg hf) hS (fun _ _ h => h) (fun _ h => h) (fun u t H1 locs1 ht _ hw hB _ _ hS1 => kk u H1 locs1 hw (by rw [← ht]; exact hB) hS1)
-- ends
theorem r_i {post : Int32 → Mem → Prop} {v : Int32} (hexec : p.tables.exec = Jvm.exec) (hb : c.code = cc) (hr : meth.sig.returnType = some .int) (hlocks : meth.locks = false) (hP : va_P (e_D E) vwCl (wd E σ o) H) (hS : va_S (LB (e_B E)) s.heap H locs) (hd : decode cc pc = .ok (.ireturn, 1)) (hpost : post v σ) : W p l e R s m args below meth c H locs cells slots (MQ below (va_Qi post (BW E o) (LB (e_B E))) args s cells slots (LB (e_B E))) (F0 m pc ls [.int v]) :=
  W.iret hexec hb hr (fun t ht _ => ⟨⟨v, σ, rfl, hpost, by show va_P _ _ _ t.heap; rw [ht]; exact hP⟩, hS.F ht⟩) hS.2.2 hd hlocks
theorem r_z {post : Int32 → Mem → Prop} {v : Int32} (hexec : p.tables.exec = Jvm.exec) (hb : c.code = cc) (hr : meth.sig.returnType = some .boolean) (hlocks : meth.locks = false) (hn : narrow .boolean (.int v) = .int v) (hP : va_P (e_D E) vwCl (wd E σ o) H) (hS : va_S (LB (e_B E)) s.heap H locs) (hd : decode cc pc = .ok (.ireturn, 1)) (hpost : post v σ) : W p l e R s m args below meth c H locs cells slots (MQ below (va_Qi post (BW E o) (LB (e_B E))) args s cells slots (LB (e_B E))) (F0 m pc ls [.int v]) :=
  W.zret hexec hb hr hn (fun t ht _ => ⟨⟨v, σ, rfl, hpost, by show va_P _ _ _ t.heap; rw [ht]; exact hP⟩, hS.F ht⟩) hS.2.2 hd hlocks
theorem r_v {post : Mem → Prop} (hexec : p.tables.exec = Jvm.exec) (hb : c.code = cc) (hr : meth.sig.returnType = none) (hlocks : meth.locks = false) (hP : va_P (e_D E) vwCl (wd E σ o) H) (hS : va_S (LB (e_B E)) s.heap H locs) (hd : decode cc pc = .ok (.return_, 1)) (hpost : post σ) : W p l e R s m args below meth c H locs cells slots (MQ below (va_Qv post (BW E o) (LB (e_B E))) args s cells slots (LB (e_B E))) (F0 m pc ls []) :=
  W.vret hexec hb hr (fun t ht _ => ⟨⟨σ, rfl, hpost, by show va_P _ _ _ t.heap; rw [ht]; exact hP⟩, hS.F ht⟩) hS.2.2 hd hlocks
/-- an end over numbers alone -/
theorem s_i {post : Int32 → Prop} {v : Int32} (hexec : p.tables.exec = Jvm.exec) (hb : c.code = cc) (hr : meth.sig.returnType = some .int) (hlocks : meth.locks = false) (hd : decode cc pc = .ok (.ireturn, 1)) (hpost : post v) : W p l e R s m args below meth c s.heap [] cells slots (MQ below (vp_Si post) args s cells slots (fun _ => False)) (F0 m pc ls [.int v]) :=
  W.iret hexec hb hr (fun t ht _ => ⟨v, rfl, hpost, ht⟩) (fun q h => nomatch h) hd hlocks
theorem s_z {post : Int32 → Prop} {v : Int32} (hexec : p.tables.exec = Jvm.exec) (hb : c.code = cc) (hr : meth.sig.returnType = some .boolean) (hlocks : meth.locks = false) (hn : narrow .boolean (.int v) = .int v) (hd : decode cc pc = .ok (.ireturn, 1)) (hpost : post v) : W p l e R s m args below meth c s.heap [] cells slots (MQ below (vp_Si post) args s cells slots (fun _ => False)) (F0 m pc ls [.int v]) :=
  W.zret hexec hb hr hn (fun t ht _ => ⟨v, rfl, hpost, ht⟩) (fun q h => nomatch h) hd hlocks
-- what may throw
variable {Qc : Array Value → State → Outcome → State → Prop} {px px0 : String → Prop} {MC MS : Nat}
theorem x_run {S : Type} {q9 : Addr} {ce : Cell} {X : String} (hno : ∀ x ∈ c.exceptionTable.toList, False) (hlocks : meth.locks = false) {u : String} {t : State} (ht : t.heap = H) (hu : px0 u) (hB : X = u ∧ va_P (e_D E) vwCl (wd E σ o) t.heap) (hS : va_S (LB (e_B E)) s.heap H locs) (hcell : H[q9]? = some ce) (hv : ce.vm = .none) (hcl : s.vm.findClass X = some ce.cls) (hc : cells ≤ MC) (hs : slots ≤ MS) : vx_W p l e R s m args below meth c H locs cells slots (vx_MQ below Qc (XW E σ o px0) args s MC MS (LB (e_B E))) (F0 m pc ls rest) q9 :=
  vx_out (fun x hx => (hno x hx).elim) hlocks hcell hv hcl (fun t' ht' _ => ⟨u, hu, ⟨hB.1, by rw [ht', ← ht]; exact hB.2⟩, hS.F ht'⟩) hS.2.2 hc hs
theorem x_Sv {post : Mem → Prop} (S : CallFix p m c cc nL s args Ts own) (hM : vx_Met l y ws rm (PW E σ o As) (va_Qv post (BW E o) (LB (e_B E))) (XW E σ o px) mc ms (LB (e_B E))) (cw : CallB R s args own index y bytes maxL ret ws rm mc ms n ∧ (Cond.static y).before args s = true) (hno : ∀ x ∈ c.exceptionTable.toList, False) (hlocks : meth.locks = false) (hK : KN E s) (hP : va_P (e_D E) vwCl (wd E σ o) H) (hS : va_S (LB (e_B E)) s.heap H locs) (hn : As.length = n) (hsize : ls.size = nL) (hst : st0 = As.reverse ++ rest) (hW : (rest.map fun v => v.category).sum ≤ 8) (hdg : decode cc pc = .ok (.invokestatic index, 3)) (hf : cells + mc ≤ R.cells ∧ slots + ms ≤ R.slots) (hpx : ∀ u, px u → px0 u) (hc : cells + mc ≤ MC ∧ slots + ms ≤ MS) (kk : ∀ (σ' : Mem) (H1 : Heap) (locs1 : List Loc), post σ' → va_P (e_D E) vwCl (wd E σ' o) H1 → va_S (LB (e_B E)) s.heap H1 locs1 → W p l e R s m args below meth c H1 locs1 (cells + mc) (slots + ms) (vx_MQ below Qc (XW E σ o px0) args s MC MS (LB (e_B E))) (F0 m (pc + 3) ls rest)) : W p l e R s m args below meth c H locs cells slots (vx_MQ below Qc (XW E σ o px0) args s MC MS (LB (e_B E))) (F0 m pc ls st0) :=
  vx_callv (vx_runS S hM cw ⟨PW_blind, PW_pre hP hK hS⟩ rfl hn hsize hst (lv_room hW) hdg hf) hS (fun _ _ h => h) (fun _ h => h) (fun _ _ h => h)
    (fun X ce q9 u t H1 locs1 ht _ hu hB _ _ hS1 hcell hv hcl => x_run (S := Nat) hno hlocks ht (hpx u hu) hB hS1 hcell hv hcl hc.1 hc.2)
    (fun u t H1 locs1 ht _ hw hB _ _ hS1 => kk u H1 locs1 hw (by rw [← ht]; exact hB) hS1)
/-- a call that answers a reference, or throws -/
theorem vx_callr {S SX : Type} {free A0 A1 : Nat → Prop} {H0 : Heap} {a : Array Value} {post : S → Prop} {px : SX → Prop} {B : S → Nat → State → Prop} {BX : String → SX → State → Prop} {AX : Nat → Prop} (hr : vx_Run p l e R s m args below meth c H locs cells slots mc ms (F0 m pc ls st0) rest (va_Qr post B A1 a) (vx_X px BX AX) free) (hS : va_S A0 H0 H locs) (hA : ∀ q, q < H.size → A1 q → A0 q) (hf : ∀ q, free q → A0 q) (hAX : ∀ q, q < H.size → AX q → A0 q)
    (kx : ∀ (E : String) (ce : Cell) (q9 : Addr) (u : SX) (t : State) (H1 : Heap) (locs1 : List Loc), t.heap = H1 → s.vm.Alike t.vm → px u → BX E u t → H.size ≤ H1.size → (∀ q : Nat, q < H.size → ¬ AX q → H1[q]? = H[q]?) → va_S A0 H0 H1 locs1 → H1[q9]? = some ce → ce.vm = .none → s.vm.findClass E = some ce.cls → vx_W p l e R s m args below meth c H1 locs1 (cells + mc) (slots + ms) Q (F0 m pc ls rest) q9)
    (kk : ∀ (u : S) (ra : Nat) (t : State) (H1 : Heap) (locs1 : List Loc), t.heap = H1 → s.vm.Alike t.vm → post u → B u ra t → H.size ≤ H1.size → (∀ q : Nat, q < H.size → ¬ A1 q → H1[q]? = H[q]?) → va_S A0 H0 H1 locs1 → W p l e R s m args below meth c H1 locs1 (cells + mc) (slots + ms) Q (F0 m (pc + 3) ls (.ref ra :: rest))) : W p l e R s m args below meth c H locs cells slots Q (F0 m pc ls st0) := by
  intro T hT X
  rcases hr T hT X with ⟨v, st₀, t, T', L, h0, X', hL, e1, e2, ⟨⟨u, ra, hv, hp, hb⟩, hF⟩, st⟩ | ⟨q, st₀, t, T', L, E, ce, h0, X', hL, e1, e2, ⟨u, hp, hb, hF⟩, hce, hcv, hcl, st⟩
  · cases hv
    obtain ⟨k1, k2, k3⟩ := vx_keep h0 e1 hS hA hf hL hF
    obtain ⟨t2, a1, b1⟩ := kk u ra t T'.heap (locs ++ L) e1.symm (by rw [← e2]; exact X'.warmed.alike) hp hb k1 k2 k3 T' rfl X'
    exact ⟨t2, st t2 a1, b1⟩
  · obtain ⟨k1, k2, k3⟩ := vx_keep h0 e1 hS hAX hf hL hF
    obtain ⟨t2, a1, b1⟩ := kx E ce q u t T'.heap (locs ++ L) e1.symm (by rw [← e2]; exact X'.warmed.alike) hp hb k1 k2 k3 (by rw [e1]; exact hce) hcv hcl T' rfl X'
    exact ⟨t2, st.trans a1, b1⟩
/-- the chute's place among the cells -/
def BC (E : Ev) (σ : Mem) (o : Nat → Int64) : Nat → Nat → State → Prop := fun k a t => a = e_a E (k + 2) ∧ va_P (e_D E) vwCl (wd E σ o) t.heap
theorem x_Vc {post : Nat → Prop} (S : CallFix p m c cc nL s args Ts own) (hM : vx_Met l y ws rm (PW E σ o (.ref b :: As)) (va_Qr post (BC E σ o) (LB (e_B E))) (XW E σ o px) mc ms (LB (e_B E))) (cw : CallW R s args own C index y bytes maxL ret ws rm mc ms n) (hrec : ∃ cellB : Cell, H[b]? = some cellB ∧ cellB.vm.isStatics = false ∧ s.vm.findClass C = some cellB.cls) (hno : ∀ x ∈ c.exceptionTable.toList, False) (hlocks : meth.locks = false) (hK : KN E s) (hP : va_P (e_D E) vwCl (wd E σ o) H) (hS : va_S (LB (e_B E)) s.heap H locs) (hn : As.length = n) (hsize : ls.size = nL) (hst : st0 = As.reverse ++ .ref b :: rest) (hW : (rest.map fun v => v.category).sum ≤ 8) (hdg : decode cc pc = .ok (.invokevirtual index, 3)) (hf : cells + mc ≤ R.cells ∧ slots + ms ≤ R.slots) (hpx : ∀ u, px u → px0 u) (hc : cells + mc ≤ MC ∧ slots + ms ≤ MS) (kk : ∀ (k : Nat) (H1 : Heap) (locs1 : List Loc), post k → va_P (e_D E) vwCl (wd E σ o) H1 → va_S (LB (e_B E)) s.heap H1 locs1 → W p l e R s m args below meth c H1 locs1 (cells + mc) (slots + ms) (vx_MQ below Qc (XW E σ o px0) args s MC MS (LB (e_B E))) (F0 m (pc + 3) ls (.ref (e_a E (k + 2)) :: rest))) : W p l e R s m args below meth c H locs cells slots (vx_MQ below Qc (XW E σ o px0) args s MC MS (LB (e_B E))) (F0 m pc ls st0) :=
  vx_callr (vx_runV S hM cw ⟨PW_blind, hrec, PW_pre hP hK hS⟩ rfl hn hsize hst (lv_room hW) hdg hf) hS (fun _ _ h => h) (fun _ h => h) (fun _ _ h => h)
    (fun X ce q9 u t H1 locs1 ht _ hu hB _ _ hS1 hcell hv hcl => x_run (S := Nat) hno hlocks ht (hpx u hu) hB hS1 hcell hv hcl hc.1 hc.2)
    (fun u ra t H1 locs1 ht _ hw hB _ _ hS1 => by obtain ⟨rfl, hB2⟩ := hB; exact kk u H1 locs1 hw (by rw [← ht]; exact hB2) hS1)
/-- throw new E("text") -/
theorem x_throw (hexec : p.tables.exec = Jvm.exec) (hb : c.code = cc) (hl : l.stackTraces = false) {cls text : String} {ik is ic sa : Nat} (hown : s.vm.findClass RX1 = some m.cls) (hcls : Bundle.fit cls = true) (hk : (Cond.classLink RX1 ik cls).before args s = true) (hini : (Cond.initialized cls).before args s = true) (hstr : vk_R RX1 is text sa s) (hat : ∀ w ∈ vx_atS RX1 ic cls ["java/lang/RuntimeException", "java/lang/Exception"], w.before args s = true) (hgood : ∀ w ∈ Cond.classLink RX1 ik cls :: Cond.initialized cls :: vx_atS RX1 ic cls ["java/lang/RuntimeException", "java/lang/Exception"], vx_ot w = true) (hK : KN E s) (hP : va_P (e_D E) vwCl (wd E σ o) H) (hS : va_S (LB (e_B E)) s.heap H locs) (hsize : ls.size = nL) (hml : c.maxLocals = nL) (d0 : decode cc pc = .ok (.new ik, 3)) (d3 : decode cc (pc + 3) = .ok (.dup, 1)) (d4 : decode cc (pc + 4) = .ok (.ldc is, 2)) (d6 : decode cc (pc + 6) = .ok (.invokespecial ic, 3)) (d9 : decode cc (pc + 9) = .ok (.athrow, 1)) (hno : ∀ x ∈ c.exceptionTable.toList, False) (hRf : 5 < R.frames) (hRl : (rest.map fun v => v.category).sum + 82 ≤ R.locals) (hRc : cells + 1 ≤ R.cells) (hRs : slots + 6 ≤ R.slots) (hlocks : meth.locks = false) (hpx : px0 cls) (hc : cells + 1 ≤ MC) (hs : slots + 6 ≤ MS) : W p l e R s m args below meth c H locs cells slots (vx_MQ below Qc (XW E σ o px0) args s MC MS (LB (e_B E))) (F0 m pc ls rest) :=
  vx_throwS hexec hb hl hown hcls (by decide +kernel) hk hini hstr hat hgood hK.zU hK.zN hS (by rw [hml]; exact hsize) d0 d3 d4 d6 d9 (fun x hx => (hno x hx).elim) hRf hRl hRc hRs hlocks
    (fun t _ hz hq => ⟨cls, hpx, ⟨rfl, fun k q h => (hP k q h).kept (hq _ (hP k q h).lt)⟩, Nat.le_trans hS.1 hz, fun q h1 h2 => by rw [hq q (Nat.lt_of_lt_of_le h1 hS.1)]; exact hS.2.1 q h1 h2⟩) hS.2.2 hc hs
end RW3
section RW4
variable {p : Program} {l : Launch} {e : Env} {R : Room} {s : State} {m : MethodId} {args : Array Value} {below : List Frame} {meth : Method} {c : Code} {H : Heap} {locs : List Loc} {cells slots : Nat} {Q : State → Prop} {cc : ByteArray} {pc : Nat} {ls : Array Slot} {rest : List Value} {nL : Nat} {E : Ev} {σ : Mem} {o : Nat → Int64} {g : JFrame}
/-- a place where roads meet, with a number on the stack -/
theorem cut_i {P : Int32 → Prop} {pcj : Nat} (k : ∀ v : Int32, P v → W p l e R s m args below meth c H locs cells slots Q (F0 m pcj ls (.int v :: rest))) (h : (∀ v : Int32, P v → W p l e R s m args below meth c H locs cells slots Q (F0 m pcj ls (.int v :: rest))) → W p l e R s m args below meth c H locs cells slots Q g) : W p l e R s m args below meth c H locs cells slots Q g := h k
/-- a place where roads meet, with a memory -/
theorem cut_m {P : Mem → Prop} {pcj : Nat} (k : ∀ (σ' : Mem) (H' : Heap) (locs' : List Loc), P σ' → va_P (e_D E) vwCl (wd E σ' o) H' → va_S (LB (e_B E)) s.heap H' locs' → W p l e R s m args below meth c H' locs' cells slots Q (F0 m pcj ls rest)) (h : (∀ (σ' : Mem) (H' : Heap) (locs' : List Loc), P σ' → va_P (e_D E) vwCl (wd E σ' o) H' → va_S (LB (e_B E)) s.heap H' locs' → W p l e R s m args below meth c H' locs' cells slots Q (F0 m pcj ls rest)) → W p l e R s m args below meth c H locs cells slots Q g) : W p l e R s m args below meth c H locs cells slots Q g := h k
theorem w_loop {ι : Type} (μ : ι → Nat) (I : ι → Prop) (mem : ι → Mem) (lv : ι → List (Nat × Value)) {pch : Nat}
    (body : ∀ i, I i → (∀ i', I i' → μ i' < μ i → ∀ (H' : Heap) (locs' : List Loc) (ls' : Array Slot), va_P (e_D E) vwCl (wd E (mem i') o) H' → va_S (LB (e_B E)) s.heap H' locs' → lv_has ls' nL (lv i') → W p l e R s m args below meth c H' locs' cells slots Q (F0 m pch ls' [])) → ∀ (H' : Heap) (locs' : List Loc) (ls' : Array Slot), va_P (e_D E) vwCl (wd E (mem i) o) H' → va_S (LB (e_B E)) s.heap H' locs' → lv_has ls' nL (lv i) → W p l e R s m args below meth c H' locs' cells slots Q (F0 m pch ls' []))
    (i0 : ι) (h0 : I i0) (hP : va_P (e_D E) vwCl (wd E (mem i0) o) H) (hS : va_S (LB (e_B E)) s.heap H locs) (hl : lv_has ls nL (lv i0)) : W p l e R s m args below meth c H locs cells slots Q (F0 m pch ls []) := by
  have key : ∀ n i, μ i < n → I i → ∀ (H' : Heap) (locs' : List Loc) (ls' : Array Slot), va_P (e_D E) vwCl (wd E (mem i) o) H' → va_S (LB (e_B E)) s.heap H' locs' → lv_has ls' nL (lv i) → W p l e R s m args below meth c H' locs' cells slots Q (F0 m pch ls' []) := by
    intro n
    induction n with
    | zero => intro i h; exact absurd h (Nat.not_lt_zero _)
    | succ n ih => intro i hi hI; exact body i hI (fun i' hI' hlt => ih i' (by omega) hI')
  exact key (μ i0 + 1) i0 (Nat.lt_succ_self _) h0 H locs ls hP hS hl
theorem r_c {post : Nat → Prop} {k : Nat} {X : String} (hexec : p.tables.exec = Jvm.exec) (hb : c.code = cc) (hr : meth.sig.returnType = some (.object X)) (hlocks : meth.locks = false) (hk : post k) (hP : va_P (e_D E) vwCl (wd E σ o) H) (hS : va_S (LB (e_B E)) s.heap H locs) (hd : decode cc pc = .ok (.areturn, 1)) : W p l e R s m args below meth c H locs cells slots (MQ below (va_Qr post (BC E σ o) (LB (e_B E))) args s cells slots (LB (e_B E))) (F0 m pc ls [.ref (e_a E (k + 2))]) :=
  W.aret hexec hb hr (Or.inl ⟨X, rfl⟩) (Or.inr ⟨_, rfl⟩) (fun t ht _ => ⟨⟨k, _, rfl, hk, rfl, by rw [ht]; exact hP⟩, hS.F ht⟩) hS.2.2 hd hlocks
end RW4
theorem wc_ch {E : Ev} {o : Nat → Int64} {k : Nat} (hk : k < 8) {r : Nat → Int32} : w_cell E r o (k + 2) = .inr (0, [.ref (e_a E (k + 10)), .ref (e_a E (k + 18)), .int (r 2), .int (r 3), .int (r 4), .int (r 5), .int (r 6), .int (r 7)]) := by
  have h3 : k + 2 < 10 := by omega
  simp [w_cell, h3]
theorem wc_wt {E : Ev} {o : Nat → Int64} {k : Nat} (hk : k < 8) {r : Nat → Int32} : w_cell E r o (k + 10) = .inl (e_c E 0, 12, .inl r) := by
  have h4 : k + 10 < 26 := by omega
  simp [w_cell, h4]
theorem wc_gi {E : Ev} {o : Nat → Int64} {k : Nat} (hk : k < 8) {r : Nat → Int32} : w_cell E r o (k + 18) = .inl (e_c E 0, 12, .inl r) := by
  have h3 : ¬ k + 18 < 10 := by omega
  have h4 : k + 18 < 26 := by omega
  simp [w_cell, h3, h4]
theorem tb_key {x : Int32} {n : Nat} (hn : n < 2 ^ 31) (h : x.toInt = (n : Int)) : x = nI n := Int32.toInt_inj.mp (by rw [h, nI_toInt hn])
theorem tb_out2 (x : Int32) (h0 : ¬ x = 0) (h1 : ¬ x = 1) (h2 : ¬ x = 2) : x.toInt < 0 ∨ 2 < x.toInt := by
  rcases Int.lt_or_le x.toInt 0 with a | a
  · exact Or.inl a
  · rcases Int.lt_or_le 2 x.toInt with b | b
    · exact Or.inr b
    · exfalso
      have hc : x.toInt = 0 ∨ x.toInt = 1 ∨ x.toInt = 2 := by omega
      rcases hc with q | q | q
      · exact h0 (tb_key (n := 0) (by decide) q)
      · exact h1 (tb_key (n := 1) (by decide) q)
      · exact h2 (tb_key (n := 2) (by decide) q)
theorem tb_out3 (x : Int32) (h0 : ¬ x = 0) (h1 : ¬ x = 1) (h2 : ¬ x = 2) (h3 : ¬ x = 3) : x.toInt < 0 ∨ 3 < x.toInt := by
  rcases tb_out2 x h0 h1 h2 with q | q
  · exact Or.inl q
  · rcases Int.lt_or_le 3 x.toInt with b | b
    · exact Or.inr b
    · exact absurd (tb_key (n := 3) (by decide) (by omega)) h3
theorem tb_out5 (x : Int32) (h0 : ¬ x = 0) (h1 : ¬ x = 1) (h2 : ¬ x = 2) (h3 : ¬ x = 3) (h4 : ¬ x = 4) (h5 : ¬ x = 5) : x.toInt < 0 ∨ 5 < x.toInt := by
  rcases tb_out3 x h0 h1 h2 h3 with q | q
  · exact Or.inl q
  · rcases Int.lt_or_le 5 x.toInt with b | b
    · exact Or.inr b
    · rcases (show x.toInt = 4 ∨ x.toInt = 5 by omega) with q | q
      · exact absurd (tb_key (n := 4) (by decide) q) h4
      · exact absurd (tb_key (n := 5) (by decide) q) h5
theorem tb_out7 (x : Int32) (h0 : ¬ x = 0) (h1 : ¬ x = 1) (h2 : ¬ x = 2) (h3 : ¬ x = 3) (h4 : ¬ x = 4) (h5 : ¬ x = 5) (h6 : ¬ x = 6) (h7 : ¬ x = 7) : x.toInt < 0 ∨ 7 < x.toInt := by
  rcases tb_out5 x h0 h1 h2 h3 h4 h5 with q | q
  · exact Or.inl q
  · rcases Int.lt_or_le 7 x.toInt with b | b
    · exact Or.inr b
    · rcases (show x.toInt = 6 ∨ x.toInt = 7 by omega) with q | q
      · exact absurd (tb_key (n := 6) (by decide) q) h6
      · exact absurd (tb_key (n := 7) (by decide) q) h7

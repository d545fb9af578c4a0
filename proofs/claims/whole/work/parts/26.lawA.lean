/-! THE LAW'S CASES -/
abbrev lvL (E : Ev) (b i : Nat) : List (Nat × Value) := [(4, .int (nI i)), (0, .ref b), (1, .ref (e_a E 0)), (2, .ref (e_a E 26)), (3, .ref (e_a E 36))]
def LF (p : Program) (s : State) (m : MethodId) (c : Code) (b L : Nat) (xs : Nat → Int32) : Prop := p.tables.exec = Jvm.exec ∧ c.code = cL_law ∧ c.maxLocals = 7 ∧ s.vm.findClass RL = some m.cls ∧ (∀ w ∈ wsL_law, w.before #[Value.ref b] s = true) ∧ va_X b L xs s s.heap ∧ b < s.heap.size
def LK (p : Program) (l : Launch) (e : Env) (s : State) (m : MethodId) (below : List Frame) (meth : Method) (c : Code) (b : Nat) (Q : State → Prop) (E : Ev) (T i cells slots : Nat) : Prop := ∀ (σ' : Mem) (o' : Nat → Int64) (H' : Heap) (locs' : List Loc) (ls' : Array Slot), Inv σ' σ' (T + 1) → va_P (e_D E) vwCl (wd E σ' o') H' → va_S (LB (e_B E)) s.heap H' locs' → lv_has ls' 7 (lvL E b i) → W p l e room_1 s m #[Value.ref b] below meth c H' locs' (cells + 5) (slots + 30) Q (F0 m 1239 ls' [])
def bz (v : Int32) : Int32 := if v = 0 then 0 else 1
theorem bz_01 (v : Int32) : bz v = 0 ∨ bz v = 1 := by
  unfold bz
  by_cases h : v = 0
  · rw [if_pos h]; exact Or.inl rfl
  · rw [if_neg h]; exact Or.inr rfl
section RW7
variable {p : Program} {l : Launch} {e : Env} {R : Room} {s : State} {m : MethodId} {args : Array Value} {below : List Frame} {meth : Method} {c : Code} {H : Heap} {locs : List Loc} {cells slots : Nat} {Q : State → Prop} {cc : ByteArray} {pc : Nat} {ls : Array Slot} {rest : List Value} {E : Ev} {b L i : Nat} {xs : Nat → Int32}
theorem la_arg (k : Nat) {kz : Int} (hexec : p.tables.exec = Jvm.exec) (hb : c.code = cc) (hX : va_X b L xs s s.heap) (hbl : b < s.heap.size) (hB : e_B E = s.heap.size) (hS : va_S (LB (e_B E)) s.heap H locs) (h0 : ls[0]? = some (.val (.ref b))) (h4 : ls[4]? = some (.val (.int (nI i)))) (hk : i + k < L) (hL : L ≤ 2560) (hkn : Int32.ofInt kz = nI k) (d0 : decode cc pc = .ok (.aload_n 0, 1)) (d1 : decode cc (pc + 1) = .ok (.iload 4, 2)) (d3 : decode cc (pc + 3) = .ok (.iconst kz, 1)) (d4 : decode cc (pc + 4) = .ok (.iadd, 1)) (d5 : decode cc (pc + 5) = .ok (.iaload, 1)) (kk : W p l e R s m args below meth c H locs cells slots Q (F0 m (pc + 6) ls (.int (xs (i + k)) :: rest))) : W p l e R s m args below meth c H locs cells slots Q (F0 m pc ls rest) := by
  refine lv_aload_n hexec hb d0 rfl h0 ?_
  refine lv_iload hexec hb d1 h4 ?_
  refine lv_iconst hexec hb d3 hkn ?_
  refine lv_iadd hexec hb d4 ?_
  rw [nI_add]
  refine va_sld hexec hb hX hbl (by rw [hB]; exact Nat.not_le.mpr hbl) hS (vp_in_nI hk (by omega)) d5 ?_
  rw [nI_clamp (by omega)]
  exact kk
theorem la_bool {v : Int32} (hexec : p.tables.exec = Jvm.exec) (hb : c.code = cc) (d0 : decode cc pc = .ok (.ifCond .eq 7, 3)) (d3 : decode cc (pc + 3) = .ok (.iconst 1, 1)) (d4 : decode cc (pc + 4) = .ok (.goto 4, 3)) (d7 : decode cc (pc + 7) = .ok (.iconst 0, 1)) (kk : W p l e R s m args below meth c H locs cells slots Q (F0 m (pc + 8) ls (.int (bz v) :: rest))) : W p l e R s m args below meth c H locs cells slots Q (F0 m pc ls (.int v :: rest)) := by
  refine lv_if_eq (tgt := pc + 7) hexec hb d0 (by omega) (fun h => ?_) (fun h => ?_)
  · refine lv_iconst (v := 0) hexec hb d7 (by decide) ?_
    have e9 : bz v = 0 := by unfold bz; rw [if_pos h]
    rw [e9] at kk
    exact kk
  · refine lv_iconst (v := 1) hexec hb d3 (by decide) ?_
    refine lv_goto (tgt := pc + 8) hexec hb d4 (by omega) ?_
    have e9 : bz v = 1 := by unfold bz; rw [if_neg h]
    rw [e9] at kk
    exact kk
theorem lb_bool {v : Int32} (hexec : p.tables.exec = Jvm.exec) (hb : c.code = cc) (d0 : decode cc pc = .ok (.ifCond .eq 7, 3)) (d3 : decode cc (pc + 3) = .ok (.lconst 1, 1)) (d4 : decode cc (pc + 4) = .ok (.goto 4, 3)) (d7 : decode cc (pc + 7) = .ok (.lconst 0, 1)) (kk : W p l e R s m args below meth c H locs cells slots Q (F0 m (pc + 8) ls (.long (zL v) :: rest))) : W p l e R s m args below meth c H locs cells slots Q (F0 m pc ls (.int v :: rest)) := by
  refine lv_if_eq (tgt := pc + 7) hexec hb d0 (by omega) (fun h => ?_) (fun h => ?_)
  · refine lv_lconst (v := 0) hexec hb d7 (by decide) ?_
    have e9 : zL v = 0 := by unfold zL; rw [if_pos h]
    rw [e9] at kk
    exact kk
  · refine lv_lconst (v := 1) hexec hb d3 (by decide) ?_
    refine lv_goto (tgt := pc + 8) hexec hb d4 (by omega) ?_
    have e9 : zL v = 1 := by unfold zL; rw [if_neg h]
    rw [e9] at kk
    exact kk
end RW7
theorem ph_send {σ : Mem} {w g r : Int32} {N : Nat → Nat} {σ1 : Mem} (h1 : PX_send σ w g N r σ1) : ∀ j, 26 ≤ j → σ1 j = σ j := fun j hj => by
  obtain ⟨-, h1⟩ := h1
  rcases h1 with ⟨i, hi, -, -, -, q, -, rfl⟩ | ⟨-, -, rfl⟩
  · rw [ins_o _ _ _ hi (Or.inl hj), rgC_ne _ _ _ (by omega)]
  · rw [asC_ne _ _ _ (by omega), rgC_ne _ _ _ (by omega)]
theorem ph_shut {σ : Mem} {x v r : Int32} {σ1 : Mem} (h1 : PX_shut σ x v r σ1) : ∀ j, 26 ≤ j → σ1 j = σ j := fun j hj => by
  obtain ⟨k, hk, -, -, rfl⟩ := h1
  rw [m_up_ne _ _ _ (by omega)]
theorem ph_pour {σ : Mem} {x y r : Int32} {N : Nat → Nat} {σ1 : Mem} (h1 : PX_pour σ x y N r σ1) : ∀ j, 26 ≤ j → σ1 j = σ j := fun j hj => by
  obtain ⟨a, ha, -, b, hb, -, -, N', p', -, -, -, hps⟩ := h1
  exact psteps_hi ha hb _ hps j (Or.inl hj)
theorem ph_sweep {σ : Mem} {x r : Int32} {N : Nat → Nat} {σ1 : Mem} (h1 : PX_sweep σ x N r σ1) : ∀ j, 26 ≤ j → σ1 j = σ j := fun j hj => by
  obtain ⟨a, ha, -, N', p', -, -, -, hps⟩ := h1
  exact ssteps_hi ha _ hps j hj
set_option maxHeartbeats 4000000 in
set_option maxRecDepth 100000 in
/-- sort -/
theorem law_sort {p : Program} {l : Launch} {e : Env} {s : State} {m : MethodId} {below : List Frame} {meth : Method} {c : Code} {b L : Nat} {xs : Nat → Int32} {Q : State → Prop} (F : LF p s m c b L xs) (hl0 : l.stackTraces = false) {E : Ev} (hok : e_ok E) (hB : e_B E = s.heap.size) (hK : KN E s) {σ : Mem} {o : Nat → Int64} {T i cells slots : Nat} (hT : T ≤ 512) (hi : i + 5 ≤ L) (hL : L ≤ 2560) (I : Inv σ σ T) {H : Heap} {locs : List Loc} {ls : Array Slot} (hP : va_P (e_D E) vwCl (wd E σ o) H) (hS : va_S (LB (e_B E)) s.heap H locs) (hl : lv_has ls 7 (lvL E b i)) (hc : cells + 5 ≤ 633918) (hs : slots + 30 ≤ 7194350) (kk : LK p l e s m below meth c b Q E T i cells slots) : W p l e room_1 s m #[Value.ref b] below meth c H locs cells slots Q (F0 m 116 ls []) := by
  obtain ⟨hx, hb, hml, hown, hts, hX, hbl⟩ := F
  have I0 := I
  obtain ⟨U, N, C, M, hC, hCT, hCR, hGR, hcl⟩ := I
  have hN := CR_okN M hCR
  refine lv_aload_n hx hb dL_law_116 rfl (lv_at hl 2 rfl) ?_
  refine la_arg 1 hx hb hX hbl hB hS (lv_at hl 1 rfl) (lv_at hl 0 rfl) (by omega) hL rfl dL_law_117 dL_law_118 dL_law_120 dL_law_121 dL_law_122 ?_
  refine la_arg 2 hx hb hX hbl hB hS (lv_at hl 1 rfl) (lv_at hl 0 rfl) (by omega) hL rfl dL_law_123 dL_law_124 dL_law_126 dL_law_127 dL_law_128 ?_
  refine lv_aload_n hx hb dL_law_129 rfl (lv_at hl 4 rfl) ?_
  refine va_calli (S := Mem × (Nat → Int64)) (vx_runSW (As := [.ref (e_a E 0), .int (xs (i + 1)), .int (xs (i + 2)), .ref (e_a E 36)]) (rest := []) ⟨hx, hb, hml, hown, hts⟩ (mtL_sort l hl0 E hok σ o (xs (i + 1)) (xs (i + 2))) (vx_cwSW 4 hts gL_law_L_sort rfl rfl rfl (by decide +kernel) ⟨Nat.le_of_ble_eq_true rfl, Nat.le_of_ble_eq_true rfl⟩) ⟨PW_blind, PW_pre hP hK hS⟩ rfl rfl hl.1 rfl (lv_room (Nat.le_of_ble_eq_true rfl)) dL_law_130 ⟨show cells + 3 ≤ 633918 by omega, show slots + 18 ≤ 7194350 by omega⟩) hS (fun _ _ h => h) (fun _ h => h) (fun k z t H1 locs1 ht _ hw hB1 _ _ hS => ?_)
  obtain ⟨σ1, o1⟩ := z
  have hP : va_P (e_D E) vwCl (wd E σ1 o1) H1 := by rw [← ht]; exact hB1
  refine W.widen (k := cells + 5) (n := slots + 30) (by omega) (by omega) ?_
  refine lv_istore (lv' := [(5, .int k), (4, .int (nI i)), (0, .ref b), (1, .ref (e_a E 0)), (2, .ref (e_a E 26)), (3, .ref (e_a E 36))]) hx hb dL_law_133 hl (by decide) rfl (fun ls hl => ?_)
  refine lv_aload_n hx hb dL_law_135 rfl (lv_at hl 4 rfl) ?_
  refine la_arg 1 hx hb hX hbl hB hS (lv_at hl 2 rfl) (lv_at hl 1 rfl) (by omega) hL rfl dL_law_136 dL_law_137 dL_law_139 dL_law_140 dL_law_141 ?_
  refine la_arg 2 hx hb hX hbl hB hS (lv_at hl 2 rfl) (lv_at hl 1 rfl) (by omega) hL rfl dL_law_142 dL_law_143 dL_law_145 dL_law_146 dL_law_147 ?_
  refine k_Vi (E := E) (σ := σ1) (o := o1) (As := [.int (xs (i + 1)), .int (xs (i + 2))]) (rest := []) ⟨hx, hb, hml, hown, hts⟩ (mtX2_sort l E hok σ1 o1 (xs (i + 1)) (xs (i + 2))) (cwV 2 hts gL_law_X2_sort rfl rfl rfl (by decide +kernel) ⟨Nat.le_of_ble_eq_true rfl, Nat.le_of_ble_eq_true rfl⟩) (va_recv hK.K hP (ci := 2) (q0 := 26) rfl at_26) hK hP hS rfl hl.1 rfl (Nat.le_of_ble_eq_true rfl) dL_law_148 ⟨hc, hs⟩ (fun r2 σ2 H2 locs2 h2 hP hS => ?_)
  have fin : σ2 26 0 = k ∧ (k = 0 → o1 0 = Int32.toInt64 r2) ∧ Inv σ2 σ2 (T + 1) := by
    rcases hw with ⟨rfl, r, h1, hz⟩ | ⟨u, hu, rfl, hz⟩
    · obtain ⟨s1, rfl, s3⟩ := sm_sort I0 h1 h2
      exact ⟨s1, fun _ => by rw [show o1 = _ from hz]; rfl, s3⟩
    · cases hz
      obtain ⟨s1, s2, s3⟩ := sx_sort I0 hu h2
      exact ⟨s1, fun z => absurd z s2, s3⟩
  obtain ⟨f1, f2, f3⟩ := fin
  refine lv_istore (lv' := [(6, .int r2), (5, .int k), (4, .int (nI i)), (0, .ref b), (1, .ref (e_a E 0)), (2, .ref (e_a E 26)), (3, .ref (e_a E 36))]) hx hb dL_law_151 hl (by decide) rfl (fun ls hl => ?_)
  refine lv_aload_n hx hb dL_law_153 rfl (lv_at hl 5 rfl) ?_
  refine k_Vi (E := E) (σ := σ2) (o := o1) (As := []) (rest := []) ⟨hx, hb, hml, hown, hts⟩ (mtX2_thrown l E hok σ2 o1) (cwV 0 hts gL_law_X2_thrown rfl rfl rfl (by decide +kernel) ⟨Nat.le_of_ble_eq_true rfl, Nat.le_of_ble_eq_true rfl⟩) (va_recv hK.K hP (ci := 2) (q0 := 26) rfl at_26) hK hP hS rfl hl.1 rfl (Nat.le_of_ble_eq_true rfl) dL_law_154 ⟨hc, hs⟩ (fun r3 σ3 H3 locs3 h3 hP hS => ?_)
  obtain ⟨h3, e3⟩ := h3
  rw [f1] at h3
  subst h3
  rw [e3] at hP
  refine lv_iload hx hb dL_law_157 (lv_at hl 1 rfl) ?_
  refine lv_icmp_eq (tgt := 164) hx hb dL_law_159 (by decide) (fun _ => ?_) (fun z => absurd rfl z)
  refine lv_iload hx hb dL_law_164 (lv_at hl 1 rfl) ?_
  have fin : ∀ (ls : Array Slot), lv_has ls 7 [(6, .int r2), (5, .int r3), (4, .int (nI i)), (0, .ref b), (1, .ref (e_a E 0)), (2, .ref (e_a E 26)), (3, .ref (e_a E 36))] → W p l e room_1 s m #[Value.ref b] below meth c H3 locs3 (cells + 5) (slots + 30) Q (F0 m 181 ls []) := fun ls hl => by
    refine lv_goto (tgt := 1239) hx hb dL_law_181 (by decide) ?_
    exact kk σ2 o1 H3 locs3 ls f3 hP hS (lv_sub hl [2, 3, 4, 5, 6] rfl)
  refine lv_if_ne (tgt := 181) hx hb dL_law_166 (by decide) (fun _ => fin ls hl) (fun z => ?_)
  have z0 := f2 z
  refine lv_aload_n hx hb dL_law_169 rfl (lv_at hl 6 rfl) ?_
  refine lv_iconst (v := 0) hx hb dL_law_170 (by decide) ?_
  refine q_lld hx hb hK hP dL_law_171 ?_
  refine lv_iload hx hb dL_law_172 (lv_at hl 0 rfl) ?_
  refine lv_i2l (v := r2.toInt64) hx hb dL_law_174 rfl ?_
  refine W.lcmp hx hb dL_law_175 ?_
  exact lv_if_eq (tgt := 181) hx hb dL_law_176 (by decide) (fun _ => fin ls hl) (fun z => absurd ((lg_cmp_eq _ _).mpr z0) z)

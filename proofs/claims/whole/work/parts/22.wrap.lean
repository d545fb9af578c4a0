/-! THE LAW'S WRAPPERS -/
def BZ (E : Ev) : Mem × (Nat → Int64) → State → Prop := fun z t => va_P (e_D E) vwCl (wd E z.1 z.2) t.heap
def zL (r : Int32) : Int64 := if r = 0 then 0 else 1
/-- returned: 0 and the answer stored; thrown: its number, nothing changed -/
def WL (PX : Int32 → Mem → Prop) (XX : String → Prop) (cd : String → Int32) (cv : Int32 → Int64) (σ : Mem) (o : Nat → Int64) : Int32 → Mem × (Nat → Int64) → Prop := fun r z => (r = 0 ∧ ∃ r', PX r' z.1 ∧ z.2 = vp_updL o 0 (cv r')) ∨ ∃ u, XX u ∧ r = cd u ∧ z = (σ, o)
section RW5
variable {p : Program} {l : Launch} {e : Env} {R : Room} {s : State} {m : MethodId} {args : Array Value} {below : List Frame} {meth : Method} {c : Code} {H : Heap} {locs : List Loc} {cells slots : Nat} {Q : State → Prop} {cc : ByteArray} {pc : Nat} {ls : Array Slot} {rest : List Value} {nL : Nat} {E : Ev} {σ : Mem} {o : Nat → Int64}
theorem wd_out (E : Ev) (σ : Mem) (o o' : Nat → Int64) : (wd E σ o).set 36 (e_a E 36, .inl (e_c E 2, 1, .inr (.inl o'))) = wd E σ o' :=
  wd_set (by decide) rfl (fun i hi hi2 => by
    unfold w_cell
    by_cases h35 : i = 35
    · subst h35; rfl
    · have h3 : i < 35 := by omega
      by_cases a0 : i = 0
      · rw [if_pos a0, if_pos a0]
      · rw [if_neg a0, if_neg a0]
        by_cases a1 : i = 1
        · rw [if_pos a1, if_pos a1]
        · rw [if_neg a1, if_neg a1]
          by_cases a2 : i < 10
          · rw [if_pos a2, if_pos a2]
          · rw [if_neg a2, if_neg a2]
            by_cases a3 : i < 26
            · rw [if_pos a3, if_pos a3]
            · rw [if_neg a3, if_neg a3]
              by_cases a4 : i = 26
              · rw [if_pos a4, if_pos a4]
              · rw [if_neg a4, if_neg a4]
                by_cases a5 : i < 31
                · rw [if_pos a5, if_pos a5]
                · rw [if_neg a5, if_neg a5, if_pos h3, if_pos h3])
theorem q_lst (hexec : p.tables.exec = Jvm.exec) (hb : c.code = cc) (hok : e_ok E) (hK : KN E s) (hP : va_P (e_D E) vwCl (wd E σ o) H) (hS : va_S (LB (e_B E)) s.heap H locs) {v : Int64} (hdg : decode cc pc = .ok (.lastore, 1)) (kk : ∀ (H1 : Heap) (locs1 : List Loc), va_P (e_D E) vwCl (wd E σ (vp_updL o 0 v)) H1 → va_S (LB (e_B E)) s.heap H1 locs1 → W p l e R s m args below meth c H1 locs1 cells slots Q (F0 m (pc + 1) ls rest)) : W p l e R s m args below meth c H locs cells slots Q (F0 m pc ls (.long v :: .int 0 :: .ref (e_a E 36) :: rest)) := by
  refine va_last hexec hb hK.K hP (wd_D hok σ o) hS 36 2 at_36 rfl (vp_in_nI (n := 0) (N := 1) (by decide) (by decide)) hdg (fun H1 locs1 hP1 _ hS1 => ?_)
  rw [show (0 : Int32).toNatClampNeg = 0 from rfl, wd_out] at hP1
  exact kk H1 locs1 hP1 hS1
theorem q_lld (hexec : p.tables.exec = Jvm.exec) (hb : c.code = cc) (hK : KN E s) (hP : va_P (e_D E) vwCl (wd E σ o) H) (hdg : decode cc pc = .ok (.laload, 1)) (kk : W p l e R s m args below meth c H locs cells slots Q (F0 m (pc + 1) ls (.long (o 0) :: rest))) : W p l e R s m args below meth c H locs cells slots Q (F0 m pc ls (.int 0 :: .ref (e_a E 36) :: rest)) := by
  refine va_lald hexec hb hK.K hP 36 2 at_36 rfl (vp_in_nI (n := 0) (N := 1) (by decide) (by decide)) hdg ?_
  exact kk
theorem r_b {post : Int32 → Mem × (Nat → Int64) → Prop} {z : Mem × (Nat → Int64)} {v : Int32} (hexec : p.tables.exec = Jvm.exec) (hb : c.code = cc) (hr : meth.sig.returnType = some .int) (hlocks : meth.locks = false) (hP : va_P (e_D E) vwCl (wd E z.1 z.2) H) (hS : va_S (LB (e_B E)) s.heap H locs) (hd : decode cc pc = .ok (.ireturn, 1)) (hpost : post v z) : W p l e R s m args below meth c H locs cells slots (MQ below (va_Qi post (BZ E) (LB (e_B E))) args s cells slots (LB (e_B E))) (F0 m pc ls [.int v]) :=
  W.iret hexec hb hr (fun t ht _ => ⟨⟨v, z, rfl, hpost, by show va_P _ _ _ t.heap; rw [ht]; exact hP⟩, hS.F ht⟩) hS.2.2 hd hlocks
end RW5
set_option maxHeartbeats 4000000 in
set_option maxRecDepth 100000 in
/-- sort -/
theorem mtL_sort (l : Launch) (hl0 : l.stackTraces = false) (E : Ev) (hok : e_ok E) (σ : Mem) (o : Nat → Int64) (x v : Int32) : Met l yL_sort wsL_sort ({ frames := 8, cells := 3, slots := 18, locals := 140 } : Room) (PW E σ o [.ref (e_a E 0), .int x, .int v, .ref (e_a E 36)]) (va_Qi (WL (PX_sort σ x v) (XX_sort σ x v) cdA Int32.toInt64 σ o) (BZ E) (LB (e_B E))) 3 18 (LB (e_B E)) := by
  refine va_MetW (cc := cL_sort) (maxL := 5) (ret := (some .int)) (by decide) rfl ?_
  intro p e s m args below meth c s₁ B hml hPP
  obtain ⟨rfl, hP, hK⟩ := hPP
  have hx := B.exec
  have hb := B.bytes
  have hr := B.returns
  have hts := atoms_spec (ws := wsL_sort) B.pre
  have hown : s.vm.findClass RL = some m.cls := findClass_of_methodNamed B.named
  have hlocks := B.notSynchronized
  have hS : va_S (LB (e_B E)) s.heap s.heap [] := va_S.rf
  have htab := vx_table (x := yL_sort) B (hts (.codeWith yL_sort cL_sort 5 (some .int) [(0, 10, 13, 13), (0, 10, 17, 15), (0, 10, 21, 17)]) List.mem_cons_self)
  have hl := lv_entry ([.ref (e_a E 0), .int x, .int v, .ref (e_a E 36)]) (n := 5) (Nat.le_of_ble_eq_true rfl)
  rw [lg_entry_eq]
  generalize (lg_sl ([.ref (e_a E 0), .int x, .int v, .ref (e_a E 36)]) ++ List.replicate (5 - (lg_sl ([.ref (e_a E 0), .int x, .int v, .ref (e_a E 36)])).length) Slot.unset).toArray = ls at hl ⊢
  have hl : lv_has ls 5 [(0, .ref (e_a E 0)), (1, .int x), (2, .int v), (3, .ref (e_a E 36))] := hl
  refine lv_aload_n hx hb dL_sort_0 rfl (lv_at hl 3 rfl) ?_
  refine lv_iconst (v := 0) hx hb dL_sort_1 (by decide) ?_
  refine lv_aload_n hx hb dL_sort_2 rfl (lv_at hl 0 rfl) ?_
  refine lv_iload_n hx hb dL_sort_3 rfl (lv_at hl 1 rfl) ?_
  refine lv_iload_n hx hb dL_sort_4 rfl (lv_at hl 2 rfl) ?_
  refine vx_calli (S := Mem) (SX := String) (vx_runV (As := [.int x, .int v]) (rest := [.int 0, .ref (e_a E 36)]) ⟨hx, hb, hml, hown, hts⟩ (mtX1_sort l hl0 E hok σ o x v) (cwV 2 hts gL_sort_X1_sort rfl rfl rfl (by decide +kernel) ⟨Nat.le_of_ble_eq_true rfl, Nat.le_of_ble_eq_true rfl⟩) ⟨PW_blind, va_recv hK.K hP (ci := 1) (q0 := 0) rfl at_0, PW_pre hP hK hS⟩ rfl rfl hl.1 rfl (lv_room (Nat.le_of_ble_eq_true rfl)) dL_sort_5 ⟨Nat.le_of_ble_eq_true rfl, Nat.le_of_ble_eq_true rfl⟩) hS (fun _ _ h => h) (fun _ h => h) (fun _ _ h => h) (fun X ce q9 u t H1 locs1 ht _ hu hB _ _ hS1 hcell hv9 hcl9 => ?_) (fun r σ1 t H1 locs1 ht _ hw hB _ _ hS1 => ?_)
  · obtain ⟨e9, hP1⟩ := hB
    subst e9
    rw [ht] at hP1
    have hu9 := hu
    rcases hu9 with ⟨rfl, -⟩ | ⟨rfl, -⟩ | ⟨rfl, -⟩
    · refine vx_catch (own := RL) (name := xIO) hown [] ⟨0, 10, 13, 13⟩ [⟨0, 10, 17, 15⟩, ⟨0, 10, 21, 17⟩] htab (fun z hz => nomatch hz) rfl (by decide) (hts (.classLink RL 13 xIO) (by decide +kernel)) (hK.c (by decide)) hcell hv9 hcl9 ?_
      refine lv_astore (lv' := [(4, .ref q9), (0, .ref (e_a E 0)), (1, .int x), (2, .int v), (3, .ref (e_a E 36))]) hx hb dL_sort_13 hl (by decide) rfl (fun ls hl => ?_)
      refine lv_iconst (v := 1) hx hb dL_sort_15 (by decide) ?_
      refine W.widen (k := 3) (n := 18) (Nat.le_of_ble_eq_true rfl) (Nat.le_of_ble_eq_true rfl) ?_
      exact r_b (z := (σ, o)) hx hb hr hlocks hP1 hS1 dL_sort_16 (Or.inr ⟨_, hu, (by decide), rfl⟩)
    · refine vx_catch (own := RL) (name := xIA) hown [⟨0, 10, 13, 13⟩] ⟨0, 10, 17, 15⟩ [⟨0, 10, 21, 17⟩] htab (fun z hz => by
        cases List.mem_singleton.mp hz
        exact Or.inr ⟨by decide, xIO, hts (.classLink RL 13 xIO) (by decide +kernel), hK.nc (by decide) (by decide) (by decide)⟩) rfl (by decide) (hts (.classLink RL 15 xIA) (by decide +kernel)) (hK.c (by decide)) hcell hv9 hcl9 ?_
      refine lv_astore (lv' := [(4, .ref q9), (0, .ref (e_a E 0)), (1, .int x), (2, .int v), (3, .ref (e_a E 36))]) hx hb dL_sort_17 hl (by decide) rfl (fun ls hl => ?_)
      refine lv_iconst (v := 2) hx hb dL_sort_19 (by decide) ?_
      refine W.widen (k := 3) (n := 18) (Nat.le_of_ble_eq_true rfl) (Nat.le_of_ble_eq_true rfl) ?_
      exact r_b (z := (σ, o)) hx hb hr hlocks hP1 hS1 dL_sort_20 (Or.inr ⟨_, hu, (by decide), rfl⟩)
    · refine vx_catch (own := RL) (name := xIS) hown [⟨0, 10, 13, 13⟩, ⟨0, 10, 17, 15⟩] ⟨0, 10, 21, 17⟩ [] htab (fun z hz => by
        rcases List.mem_cons.mp hz with rfl | hz
        · exact Or.inr ⟨by decide, xIO, hts (.classLink RL 13 xIO) (by decide +kernel), hK.nc (by decide) (by decide) (by decide)⟩
        cases List.mem_singleton.mp hz
        exact Or.inr ⟨by decide, xIA, hts (.classLink RL 15 xIA) (by decide +kernel), hK.nc (by decide) (by decide) (by decide)⟩) rfl (by decide) (hts (.classLink RL 17 xIS) (by decide +kernel)) (hK.c (by decide)) hcell hv9 hcl9 ?_
      refine lv_astore (lv' := [(4, .ref q9), (0, .ref (e_a E 0)), (1, .int x), (2, .int v), (3, .ref (e_a E 36))]) hx hb dL_sort_21 hl (by decide) rfl (fun ls hl => ?_)
      refine lv_iconst (v := 3) hx hb dL_sort_23 (by decide) ?_
      refine W.widen (k := 3) (n := 18) (Nat.le_of_ble_eq_true rfl) (Nat.le_of_ble_eq_true rfl) ?_
      exact r_b (z := (σ, o)) hx hb hr hlocks hP1 hS1 dL_sort_24 (Or.inr ⟨_, hu, (by decide), rfl⟩)
  · have hP1 : va_P (e_D E) vwCl (wd E σ1 o) H1 := by rw [← ht]; exact hB
    refine lv_i2l (v := r.toInt64) hx hb dL_sort_8 rfl ?_
    refine q_lst hx hb hok hK hP1 hS1 dL_sort_9 (fun H2 locs2 hP2 hS2 => ?_)
    refine lv_goto (tgt := 25) hx hb dL_sort_10 (by decide) ?_
    refine lv_iconst (v := 0) hx hb dL_sort_25 (by decide) ?_
    refine W.widen (k := 3) (n := 18) (Nat.le_of_ble_eq_true rfl) (Nat.le_of_ble_eq_true rfl) ?_
    exact r_b (z := (σ1, vp_updL o 0 r.toInt64)) hx hb hr hlocks hP2 hS2 dL_sort_26 (Or.inl ⟨rfl, r, hw, rfl⟩)
set_option maxHeartbeats 4000000 in
set_option maxRecDepth 100000 in
/-- limits -/
theorem mtL_limits (l : Launch) (hl0 : l.stackTraces = false) (E : Ev) (hok : e_ok E) (σ : Mem) (o : Nat → Int64) (x a b d : Int32) : Met l yL_limits wsL_limits ({ frames := 8, cells := 5, slots := 30, locals := 140 } : Room) (PW E σ o [.ref (e_a E 0), .int x, .int a, .int b, .int d, .ref (e_a E 36)]) (va_Qi (WL (PX_limits σ x a b d) (XX_limits σ x a b d) cdA Int32.toInt64 σ o) (BZ E) (LB (e_B E))) 5 30 (LB (e_B E)) := by
  refine va_MetW (cc := cL_limits) (maxL := 7) (ret := (some .int)) (by decide) rfl ?_
  intro p e s m args below meth c s₁ B hml hPP
  obtain ⟨rfl, hP, hK⟩ := hPP
  have hx := B.exec
  have hb := B.bytes
  have hr := B.returns
  have hts := atoms_spec (ws := wsL_limits) B.pre
  have hown : s.vm.findClass RL = some m.cls := findClass_of_methodNamed B.named
  have hlocks := B.notSynchronized
  have hS : va_S (LB (e_B E)) s.heap s.heap [] := va_S.rf
  have htab := vx_table (x := yL_limits) B (hts (.codeWith yL_limits cL_limits 7 (some .int) [(0, 14, 17, 13), (0, 14, 21, 15), (0, 14, 25, 17)]) List.mem_cons_self)
  have hl := lv_entry ([.ref (e_a E 0), .int x, .int a, .int b, .int d, .ref (e_a E 36)]) (n := 7) (Nat.le_of_ble_eq_true rfl)
  rw [lg_entry_eq]
  generalize (lg_sl ([.ref (e_a E 0), .int x, .int a, .int b, .int d, .ref (e_a E 36)]) ++ List.replicate (7 - (lg_sl ([.ref (e_a E 0), .int x, .int a, .int b, .int d, .ref (e_a E 36)])).length) Slot.unset).toArray = ls at hl ⊢
  have hl : lv_has ls 7 [(0, .ref (e_a E 0)), (1, .int x), (2, .int a), (3, .int b), (4, .int d), (5, .ref (e_a E 36))] := hl
  refine lv_aload hx hb dL_limits_0 (lv_at hl 5 rfl) ?_
  refine lv_iconst (v := 0) hx hb dL_limits_2 (by decide) ?_
  refine lv_aload_n hx hb dL_limits_3 rfl (lv_at hl 0 rfl) ?_
  refine lv_iload_n hx hb dL_limits_4 rfl (lv_at hl 1 rfl) ?_
  refine lv_iload_n hx hb dL_limits_5 rfl (lv_at hl 2 rfl) ?_
  refine lv_iload_n hx hb dL_limits_6 rfl (lv_at hl 3 rfl) ?_
  refine lv_iload hx hb dL_limits_7 (lv_at hl 4 rfl) ?_
  refine vx_calli (S := Mem) (SX := String) (vx_runV (As := [.int x, .int a, .int b, .int d]) (rest := [.int 0, .ref (e_a E 36)]) ⟨hx, hb, hml, hown, hts⟩ (mtX1_limits l hl0 E hok σ o x a b d) (cwV 4 hts gL_limits_X1_limits rfl rfl rfl (by decide +kernel) ⟨Nat.le_of_ble_eq_true rfl, Nat.le_of_ble_eq_true rfl⟩) ⟨PW_blind, va_recv hK.K hP (ci := 1) (q0 := 0) rfl at_0, PW_pre hP hK hS⟩ rfl rfl hl.1 rfl (lv_room (Nat.le_of_ble_eq_true rfl)) dL_limits_9 ⟨Nat.le_of_ble_eq_true rfl, Nat.le_of_ble_eq_true rfl⟩) hS (fun _ _ h => h) (fun _ h => h) (fun _ _ h => h) (fun X ce q9 u t H1 locs1 ht _ hu hB _ _ hS1 hcell hv9 hcl9 => ?_) (fun r σ1 t H1 locs1 ht _ hw hB _ _ hS1 => ?_)
  · obtain ⟨e9, hP1⟩ := hB
    subst e9
    rw [ht] at hP1
    have hu9 := hu
    rcases hu9 with ⟨rfl, -⟩ | ⟨rfl, -⟩ | ⟨rfl, -⟩
    · refine vx_catch (own := RL) (name := xIO) hown [] ⟨0, 14, 17, 13⟩ [⟨0, 14, 21, 15⟩, ⟨0, 14, 25, 17⟩] htab (fun z hz => nomatch hz) rfl (by decide) (hts (.classLink RL 13 xIO) (by decide +kernel)) (hK.c (by decide)) hcell hv9 hcl9 ?_
      refine lv_astore (lv' := [(6, .ref q9), (0, .ref (e_a E 0)), (1, .int x), (2, .int a), (3, .int b), (4, .int d), (5, .ref (e_a E 36))]) hx hb dL_limits_17 hl (by decide) rfl (fun ls hl => ?_)
      refine lv_iconst (v := 1) hx hb dL_limits_19 (by decide) ?_
      refine W.widen (k := 5) (n := 30) (Nat.le_of_ble_eq_true rfl) (Nat.le_of_ble_eq_true rfl) ?_
      exact r_b (z := (σ, o)) hx hb hr hlocks hP1 hS1 dL_limits_20 (Or.inr ⟨_, hu, (by decide), rfl⟩)
    · refine vx_catch (own := RL) (name := xIA) hown [⟨0, 14, 17, 13⟩] ⟨0, 14, 21, 15⟩ [⟨0, 14, 25, 17⟩] htab (fun z hz => by
        cases List.mem_singleton.mp hz
        exact Or.inr ⟨by decide, xIO, hts (.classLink RL 13 xIO) (by decide +kernel), hK.nc (by decide) (by decide) (by decide)⟩) rfl (by decide) (hts (.classLink RL 15 xIA) (by decide +kernel)) (hK.c (by decide)) hcell hv9 hcl9 ?_
      refine lv_astore (lv' := [(6, .ref q9), (0, .ref (e_a E 0)), (1, .int x), (2, .int a), (3, .int b), (4, .int d), (5, .ref (e_a E 36))]) hx hb dL_limits_21 hl (by decide) rfl (fun ls hl => ?_)
      refine lv_iconst (v := 2) hx hb dL_limits_23 (by decide) ?_
      refine W.widen (k := 5) (n := 30) (Nat.le_of_ble_eq_true rfl) (Nat.le_of_ble_eq_true rfl) ?_
      exact r_b (z := (σ, o)) hx hb hr hlocks hP1 hS1 dL_limits_24 (Or.inr ⟨_, hu, (by decide), rfl⟩)
    · refine vx_catch (own := RL) (name := xIS) hown [⟨0, 14, 17, 13⟩, ⟨0, 14, 21, 15⟩] ⟨0, 14, 25, 17⟩ [] htab (fun z hz => by
        rcases List.mem_cons.mp hz with rfl | hz
        · exact Or.inr ⟨by decide, xIO, hts (.classLink RL 13 xIO) (by decide +kernel), hK.nc (by decide) (by decide) (by decide)⟩
        cases List.mem_singleton.mp hz
        exact Or.inr ⟨by decide, xIA, hts (.classLink RL 15 xIA) (by decide +kernel), hK.nc (by decide) (by decide) (by decide)⟩) rfl (by decide) (hts (.classLink RL 17 xIS) (by decide +kernel)) (hK.c (by decide)) hcell hv9 hcl9 ?_
      refine lv_astore (lv' := [(6, .ref q9), (0, .ref (e_a E 0)), (1, .int x), (2, .int a), (3, .int b), (4, .int d), (5, .ref (e_a E 36))]) hx hb dL_limits_25 hl (by decide) rfl (fun ls hl => ?_)
      refine lv_iconst (v := 3) hx hb dL_limits_27 (by decide) ?_
      refine W.widen (k := 5) (n := 30) (Nat.le_of_ble_eq_true rfl) (Nat.le_of_ble_eq_true rfl) ?_
      exact r_b (z := (σ, o)) hx hb hr hlocks hP1 hS1 dL_limits_28 (Or.inr ⟨_, hu, (by decide), rfl⟩)
  · have hP1 : va_P (e_D E) vwCl (wd E σ1 o) H1 := by rw [← ht]; exact hB
    refine lv_i2l (v := r.toInt64) hx hb dL_limits_12 rfl ?_
    refine q_lst hx hb hok hK hP1 hS1 dL_limits_13 (fun H2 locs2 hP2 hS2 => ?_)
    refine lv_goto (tgt := 29) hx hb dL_limits_14 (by decide) ?_
    refine lv_iconst (v := 0) hx hb dL_limits_29 (by decide) ?_
    refine W.widen (k := 5) (n := 30) (Nat.le_of_ble_eq_true rfl) (Nat.le_of_ble_eq_true rfl) ?_
    exact r_b (z := (σ1, vp_updL o 0 r.toInt64)) hx hb hr hlocks hP2 hS2 dL_limits_30 (Or.inl ⟨rfl, r, hw, rfl⟩)
set_option maxHeartbeats 4000000 in
set_option maxRecDepth 100000 in
/-- shut -/
theorem mtL_shut (l : Launch) (hl0 : l.stackTraces = false) (E : Ev) (hok : e_ok E) (σ : Mem) (o : Nat → Int64) (x v : Int32) (hv : v = 0 ∨ v = 1) (hcl : ∀ k, k < 8 → σ (k + 2) 7 = 0 ∨ σ (k + 2) 7 = 1) : Met l yL_shut wsL_shut ({ frames := 8, cells := 1, slots := 6, locals := 140 } : Room) (PW E σ o [.ref (e_a E 0), .int x, .int v, .ref (e_a E 36)]) (va_Qi (WL (PX_shut σ x v) (XX_shut σ x v) cd1 zL σ o) (BZ E) (LB (e_B E))) 1 6 (LB (e_B E)) := by
  refine va_MetW (cc := cL_shut) (maxL := 5) (ret := (some .int)) (by decide) rfl ?_
  intro p e s m args below meth c s₁ B hml hPP
  obtain ⟨rfl, hP, hK⟩ := hPP
  have hx := B.exec
  have hb := B.bytes
  have hr := B.returns
  have hts := atoms_spec (ws := wsL_shut) B.pre
  have hown : s.vm.findClass RL = some m.cls := findClass_of_methodNamed B.named
  have hlocks := B.notSynchronized
  have hS : va_S (LB (e_B E)) s.heap s.heap [] := va_S.rf
  have htab := vx_table (x := yL_shut) B (hts (.codeWith yL_shut cL_shut 5 (some .int) [(0, 17, 20, 13)]) List.mem_cons_self)
  have hl := lv_entry ([.ref (e_a E 0), .int x, .int v, .ref (e_a E 36)]) (n := 5) (Nat.le_of_ble_eq_true rfl)
  rw [lg_entry_eq]
  generalize (lg_sl ([.ref (e_a E 0), .int x, .int v, .ref (e_a E 36)]) ++ List.replicate (5 - (lg_sl ([.ref (e_a E 0), .int x, .int v, .ref (e_a E 36)])).length) Slot.unset).toArray = ls at hl ⊢
  have hl : lv_has ls 5 [(0, .ref (e_a E 0)), (1, .int x), (2, .int v), (3, .ref (e_a E 36))] := hl
  refine lv_aload_n hx hb dL_shut_0 rfl (lv_at hl 3 rfl) ?_
  refine lv_iconst (v := 0) hx hb dL_shut_1 (by decide) ?_
  refine lv_aload_n hx hb dL_shut_2 rfl (lv_at hl 0 rfl) ?_
  refine lv_iload_n hx hb dL_shut_3 rfl (lv_at hl 1 rfl) ?_
  refine lv_iload_n hx hb dL_shut_4 rfl (lv_at hl 2 rfl) ?_
  refine vx_calli (S := Mem) (SX := String) (vx_runV (As := [.int x, .int v]) (rest := [.int 0, .ref (e_a E 36)]) ⟨hx, hb, hml, hown, hts⟩ (mtX1_shut l hl0 E hok σ o x v hv hcl) (cwV 2 hts gL_shut_X1_shut rfl rfl rfl (by decide +kernel) ⟨Nat.le_of_ble_eq_true rfl, Nat.le_of_ble_eq_true rfl⟩) ⟨PW_blind, va_recv hK.K hP (ci := 1) (q0 := 0) rfl at_0, PW_pre hP hK hS⟩ rfl rfl hl.1 rfl (lv_room (Nat.le_of_ble_eq_true rfl)) dL_shut_5 ⟨Nat.le_of_ble_eq_true rfl, Nat.le_of_ble_eq_true rfl⟩) hS (fun _ _ h => h) (fun _ h => h) (fun _ _ h => h) (fun X ce q9 u t H1 locs1 ht _ hu hB _ _ hS1 hcell hv9 hcl9 => ?_) (fun r σ1 t H1 locs1 ht _ hw hB _ _ hS1 => ?_)
  · obtain ⟨e9, hP1⟩ := hB
    subst e9
    rw [ht] at hP1
    have hu9 := hu
    rcases hu9 with ⟨rfl, -⟩
    · refine vx_catch (own := RL) (name := xIO) hown [] ⟨0, 17, 20, 13⟩ [] htab (fun z hz => nomatch hz) rfl (by decide) (hts (.classLink RL 13 xIO) (by decide +kernel)) (hK.c (by decide)) hcell hv9 hcl9 ?_
      refine lv_astore (lv' := [(4, .ref q9), (0, .ref (e_a E 0)), (1, .int x), (2, .int v), (3, .ref (e_a E 36))]) hx hb dL_shut_20 hl (by decide) rfl (fun ls hl => ?_)
      refine lv_iconst (v := 1) hx hb dL_shut_22 (by decide) ?_
      refine W.widen (k := 1) (n := 6) (Nat.le_of_ble_eq_true rfl) (Nat.le_of_ble_eq_true rfl) ?_
      exact r_b (z := (σ, o)) hx hb hr hlocks hP1 hS1 dL_shut_23 (Or.inr ⟨_, hu, (by decide), rfl⟩)
  · have hP1 : va_P (e_D E) vwCl (wd E σ1 o) H1 := by rw [← ht]; exact hB
    refine lv_if_eq (tgt := 15) hx hb dL_shut_8 (by decide) (fun h0 => ?_) (fun h0 => ?_)
    · refine lv_lconst (v := 0) hx hb dL_shut_15 (by decide) ?_
      refine q_lst hx hb hok hK hP1 hS1 dL_shut_16 (fun H2 locs2 hP2 hS2 => ?_)
      refine lv_goto (tgt := 24) hx hb dL_shut_17 (by decide) ?_
      refine lv_iconst (v := 0) hx hb dL_shut_24 (by decide) ?_
      refine W.widen (k := 1) (n := 6) (Nat.le_of_ble_eq_true rfl) (Nat.le_of_ble_eq_true rfl) ?_
      exact r_b (z := (σ1, vp_updL o 0 0)) hx hb hr hlocks hP2 hS2 dL_shut_25 (Or.inl ⟨rfl, r, hw, by rw [zL, if_pos h0]⟩)
    · refine lv_lconst (v := 1) hx hb dL_shut_11 (by decide) ?_
      refine lv_goto (tgt := 16) hx hb dL_shut_12 (by decide) ?_
      refine q_lst hx hb hok hK hP1 hS1 dL_shut_16 (fun H2 locs2 hP2 hS2 => ?_)
      refine lv_goto (tgt := 24) hx hb dL_shut_17 (by decide) ?_
      refine lv_iconst (v := 0) hx hb dL_shut_24 (by decide) ?_
      refine W.widen (k := 1) (n := 6) (Nat.le_of_ble_eq_true rfl) (Nat.le_of_ble_eq_true rfl) ?_
      exact r_b (z := (σ1, vp_updL o 0 1)) hx hb hr hlocks hP2 hS2 dL_shut_25 (Or.inl ⟨rfl, r, hw, by rw [zL, if_neg h0]⟩)
set_option maxHeartbeats 4000000 in
set_option maxRecDepth 100000 in
/-- send -/
theorem mtL_send (l : Launch) (hl0 : l.stackTraces = false) (E : Ev) (hok : e_ok E) (σ : Mem) (o : Nat → Int64) (w g : Int32) (N : Nat → Nat) (hN : okN σ N) : Met l yL_send wsL_send ({ frames := 8, cells := 2, slots := 12, locals := 140 } : Room) (PW E σ o [.ref (e_a E 0), .int w, .int g, .ref (e_a E 36)]) (va_Qi (WL (PX_send σ w g N) (XX_send σ w g N) cd1 Int32.toInt64 σ o) (BZ E) (LB (e_B E))) 2 12 (LB (e_B E)) := by
  refine va_MetW (cc := cL_send) (maxL := 5) (ret := (some .int)) (by decide) rfl ?_
  intro p e s m args below meth c s₁ B hml hPP
  obtain ⟨rfl, hP, hK⟩ := hPP
  have hx := B.exec
  have hb := B.bytes
  have hr := B.returns
  have hts := atoms_spec (ws := wsL_send) B.pre
  have hown : s.vm.findClass RL = some m.cls := findClass_of_methodNamed B.named
  have hlocks := B.notSynchronized
  have hS : va_S (LB (e_B E)) s.heap s.heap [] := va_S.rf
  have htab := vx_table (x := yL_send) B (hts (.codeWith yL_send cL_send 5 (some .int) [(0, 10, 13, 15)]) List.mem_cons_self)
  have hl := lv_entry ([.ref (e_a E 0), .int w, .int g, .ref (e_a E 36)]) (n := 5) (Nat.le_of_ble_eq_true rfl)
  rw [lg_entry_eq]
  generalize (lg_sl ([.ref (e_a E 0), .int w, .int g, .ref (e_a E 36)]) ++ List.replicate (5 - (lg_sl ([.ref (e_a E 0), .int w, .int g, .ref (e_a E 36)])).length) Slot.unset).toArray = ls at hl ⊢
  have hl : lv_has ls 5 [(0, .ref (e_a E 0)), (1, .int w), (2, .int g), (3, .ref (e_a E 36))] := hl
  refine lv_aload_n hx hb dL_send_0 rfl (lv_at hl 3 rfl) ?_
  refine lv_iconst (v := 0) hx hb dL_send_1 (by decide) ?_
  refine lv_aload_n hx hb dL_send_2 rfl (lv_at hl 0 rfl) ?_
  refine lv_iload_n hx hb dL_send_3 rfl (lv_at hl 1 rfl) ?_
  refine lv_iload_n hx hb dL_send_4 rfl (lv_at hl 2 rfl) ?_
  refine vx_calli (S := Mem) (SX := String) (vx_runV (As := [.int w, .int g]) (rest := [.int 0, .ref (e_a E 36)]) ⟨hx, hb, hml, hown, hts⟩ (mtX1_send l hl0 E hok σ o w g N hN) (cwV 2 hts gL_send_X1_send rfl rfl rfl (by decide +kernel) ⟨Nat.le_of_ble_eq_true rfl, Nat.le_of_ble_eq_true rfl⟩) ⟨PW_blind, va_recv hK.K hP (ci := 1) (q0 := 0) rfl at_0, PW_pre hP hK hS⟩ rfl rfl hl.1 rfl (lv_room (Nat.le_of_ble_eq_true rfl)) dL_send_5 ⟨Nat.le_of_ble_eq_true rfl, Nat.le_of_ble_eq_true rfl⟩) hS (fun _ _ h => h) (fun _ h => h) (fun _ _ h => h) (fun X ce q9 u t H1 locs1 ht _ hu hB _ _ hS1 hcell hv9 hcl9 => ?_) (fun r σ1 t H1 locs1 ht _ hw hB _ _ hS1 => ?_)
  · obtain ⟨e9, hP1⟩ := hB
    subst e9
    rw [ht] at hP1
    have hu9 := hu
    rcases hu9 with ⟨rfl, -⟩
    · refine vx_catch (own := RL) (name := xIA) hown [] ⟨0, 10, 13, 15⟩ [] htab (fun z hz => nomatch hz) rfl (by decide) (hts (.classLink RL 15 xIA) (by decide +kernel)) (hK.c (by decide)) hcell hv9 hcl9 ?_
      refine lv_astore (lv' := [(4, .ref q9), (0, .ref (e_a E 0)), (1, .int w), (2, .int g), (3, .ref (e_a E 36))]) hx hb dL_send_13 hl (by decide) rfl (fun ls hl => ?_)
      refine lv_iconst (v := 1) hx hb dL_send_15 (by decide) ?_
      refine W.widen (k := 2) (n := 12) (Nat.le_of_ble_eq_true rfl) (Nat.le_of_ble_eq_true rfl) ?_
      exact r_b (z := (σ, o)) hx hb hr hlocks hP1 hS1 dL_send_16 (Or.inr ⟨_, hu, (by decide), rfl⟩)
  · have hP1 : va_P (e_D E) vwCl (wd E σ1 o) H1 := by rw [← ht]; exact hB
    refine lv_i2l (v := r.toInt64) hx hb dL_send_8 rfl ?_
    refine q_lst hx hb hok hK hP1 hS1 dL_send_9 (fun H2 locs2 hP2 hS2 => ?_)
    refine lv_goto (tgt := 17) hx hb dL_send_10 (by decide) ?_
    refine lv_iconst (v := 0) hx hb dL_send_17 (by decide) ?_
    refine W.widen (k := 2) (n := 12) (Nat.le_of_ble_eq_true rfl) (Nat.le_of_ble_eq_true rfl) ?_
    exact r_b (z := (σ1, vp_updL o 0 r.toInt64)) hx hb hr hlocks hP2 hS2 dL_send_18 (Or.inl ⟨rfl, r, hw, rfl⟩)
set_option maxHeartbeats 4000000 in
set_option maxRecDepth 100000 in
/-- fits -/
theorem mtL_fits (l : Launch) (hl0 : l.stackTraces = false) (E : Ev) (hok : e_ok E) (σ : Mem) (o : Nat → Int64) (w g : Int32) : Met l yL_fits wsL_fits ({ frames := 8, cells := 2, slots := 12, locals := 140 } : Room) (PW E σ o [.ref (e_a E 0), .int w, .int g, .ref (e_a E 36)]) (va_Qi (WL (PX_fits σ w g) (XX_fits σ w g) cd1 Int32.toInt64 σ o) (BZ E) (LB (e_B E))) 2 12 (LB (e_B E)) := by
  refine va_MetW (cc := cL_fits) (maxL := 5) (ret := (some .int)) (by decide) rfl ?_
  intro p e s m args below meth c s₁ B hml hPP
  obtain ⟨rfl, hP, hK⟩ := hPP
  have hx := B.exec
  have hb := B.bytes
  have hr := B.returns
  have hts := atoms_spec (ws := wsL_fits) B.pre
  have hown : s.vm.findClass RL = some m.cls := findClass_of_methodNamed B.named
  have hlocks := B.notSynchronized
  have hS : va_S (LB (e_B E)) s.heap s.heap [] := va_S.rf
  have htab := vx_table (x := yL_fits) B (hts (.codeWith yL_fits cL_fits 5 (some .int) [(0, 10, 13, 15)]) List.mem_cons_self)
  have hl := lv_entry ([.ref (e_a E 0), .int w, .int g, .ref (e_a E 36)]) (n := 5) (Nat.le_of_ble_eq_true rfl)
  rw [lg_entry_eq]
  generalize (lg_sl ([.ref (e_a E 0), .int w, .int g, .ref (e_a E 36)]) ++ List.replicate (5 - (lg_sl ([.ref (e_a E 0), .int w, .int g, .ref (e_a E 36)])).length) Slot.unset).toArray = ls at hl ⊢
  have hl : lv_has ls 5 [(0, .ref (e_a E 0)), (1, .int w), (2, .int g), (3, .ref (e_a E 36))] := hl
  refine lv_aload_n hx hb dL_fits_0 rfl (lv_at hl 3 rfl) ?_
  refine lv_iconst (v := 0) hx hb dL_fits_1 (by decide) ?_
  refine lv_aload_n hx hb dL_fits_2 rfl (lv_at hl 0 rfl) ?_
  refine lv_iload_n hx hb dL_fits_3 rfl (lv_at hl 1 rfl) ?_
  refine lv_iload_n hx hb dL_fits_4 rfl (lv_at hl 2 rfl) ?_
  refine vx_calli (S := Mem) (SX := String) (vx_runV (As := [.int w, .int g]) (rest := [.int 0, .ref (e_a E 36)]) ⟨hx, hb, hml, hown, hts⟩ (mtX1_fits l hl0 E hok σ o w g) (cwV 2 hts gL_fits_X1_fits rfl rfl rfl (by decide +kernel) ⟨Nat.le_of_ble_eq_true rfl, Nat.le_of_ble_eq_true rfl⟩) ⟨PW_blind, va_recv hK.K hP (ci := 1) (q0 := 0) rfl at_0, PW_pre hP hK hS⟩ rfl rfl hl.1 rfl (lv_room (Nat.le_of_ble_eq_true rfl)) dL_fits_5 ⟨Nat.le_of_ble_eq_true rfl, Nat.le_of_ble_eq_true rfl⟩) hS (fun _ _ h => h) (fun _ h => h) (fun _ _ h => h) (fun X ce q9 u t H1 locs1 ht _ hu hB _ _ hS1 hcell hv9 hcl9 => ?_) (fun r σ1 t H1 locs1 ht _ hw hB _ _ hS1 => ?_)
  · obtain ⟨e9, hP1⟩ := hB
    subst e9
    rw [ht] at hP1
    have hu9 := hu
    rcases hu9 with ⟨rfl, -⟩
    · refine vx_catch (own := RL) (name := xIA) hown [] ⟨0, 10, 13, 15⟩ [] htab (fun z hz => nomatch hz) rfl (by decide) (hts (.classLink RL 15 xIA) (by decide +kernel)) (hK.c (by decide)) hcell hv9 hcl9 ?_
      refine lv_astore (lv' := [(4, .ref q9), (0, .ref (e_a E 0)), (1, .int w), (2, .int g), (3, .ref (e_a E 36))]) hx hb dL_fits_13 hl (by decide) rfl (fun ls hl => ?_)
      refine lv_iconst (v := 1) hx hb dL_fits_15 (by decide) ?_
      refine W.widen (k := 2) (n := 12) (Nat.le_of_ble_eq_true rfl) (Nat.le_of_ble_eq_true rfl) ?_
      exact r_b (z := (σ, o)) hx hb hr hlocks hP1 hS1 dL_fits_16 (Or.inr ⟨_, hu, (by decide), rfl⟩)
  · have hP1 : va_P (e_D E) vwCl (wd E σ1 o) H1 := by rw [← ht]; exact hB
    refine lv_i2l (v := r.toInt64) hx hb dL_fits_8 rfl ?_
    refine q_lst hx hb hok hK hP1 hS1 dL_fits_9 (fun H2 locs2 hP2 hS2 => ?_)
    refine lv_goto (tgt := 17) hx hb dL_fits_10 (by decide) ?_
    refine lv_iconst (v := 0) hx hb dL_fits_17 (by decide) ?_
    refine W.widen (k := 2) (n := 12) (Nat.le_of_ble_eq_true rfl) (Nat.le_of_ble_eq_true rfl) ?_
    exact r_b (z := (σ1, vp_updL o 0 r.toInt64)) hx hb hr hlocks hP2 hS2 dL_fits_18 (Or.inl ⟨rfl, r, hw, rfl⟩)
set_option maxHeartbeats 4000000 in
set_option maxRecDepth 100000 in
/-- signs -/
theorem mtL_signs (l : Launch) (hl0 : l.stackTraces = false) (E : Ev) (hok : e_ok E) (σ : Mem) (o : Nat → Int64) (x v z : Int32) : Met l yL_signs wsL_signs ({ frames := 8, cells := 2, slots := 12, locals := 140 } : Room) (PW E σ o [.ref (e_a E 0), .int x, .int v, .int z, .ref (e_a E 36)]) (va_Qi (WL (PX_signs σ x v z) (XX_signs σ x v z) cdN Int32.toInt64 σ o) (BZ E) (LB (e_B E))) 2 12 (LB (e_B E)) := by
  refine va_MetW (cc := cL_signs) (maxL := 6) (ret := (some .int)) (by decide) rfl ?_
  intro p e s m args below meth c s₁ B hml hPP
  obtain ⟨rfl, hP, hK⟩ := hPP
  have hx := B.exec
  have hb := B.bytes
  have hr := B.returns
  have hts := atoms_spec (ws := wsL_signs) B.pre
  have hown : s.vm.findClass RL = some m.cls := findClass_of_methodNamed B.named
  have hlocks := B.notSynchronized
  have hS : va_S (LB (e_B E)) s.heap s.heap [] := va_S.rf
  have htab := vx_table (x := yL_signs) B (hts (.codeWith yL_signs cL_signs 6 (some .int) [(0, 12, 15, 13), (0, 12, 19, 15)]) List.mem_cons_self)
  have hl := lv_entry ([.ref (e_a E 0), .int x, .int v, .int z, .ref (e_a E 36)]) (n := 6) (Nat.le_of_ble_eq_true rfl)
  rw [lg_entry_eq]
  generalize (lg_sl ([.ref (e_a E 0), .int x, .int v, .int z, .ref (e_a E 36)]) ++ List.replicate (6 - (lg_sl ([.ref (e_a E 0), .int x, .int v, .int z, .ref (e_a E 36)])).length) Slot.unset).toArray = ls at hl ⊢
  have hl : lv_has ls 6 [(0, .ref (e_a E 0)), (1, .int x), (2, .int v), (3, .int z), (4, .ref (e_a E 36))] := hl
  refine lv_aload hx hb dL_signs_0 (lv_at hl 4 rfl) ?_
  refine lv_iconst (v := 0) hx hb dL_signs_2 (by decide) ?_
  refine lv_aload_n hx hb dL_signs_3 rfl (lv_at hl 0 rfl) ?_
  refine lv_iload_n hx hb dL_signs_4 rfl (lv_at hl 1 rfl) ?_
  refine lv_iload_n hx hb dL_signs_5 rfl (lv_at hl 2 rfl) ?_
  refine lv_iload_n hx hb dL_signs_6 rfl (lv_at hl 3 rfl) ?_
  refine vx_calli (S := Mem) (SX := String) (vx_runV (As := [.int x, .int v, .int z]) (rest := [.int 0, .ref (e_a E 36)]) ⟨hx, hb, hml, hown, hts⟩ (mtX1_signs l hl0 E hok σ o x v z) (cwV 3 hts gL_signs_X1_signs rfl rfl rfl (by decide +kernel) ⟨Nat.le_of_ble_eq_true rfl, Nat.le_of_ble_eq_true rfl⟩) ⟨PW_blind, va_recv hK.K hP (ci := 1) (q0 := 0) rfl at_0, PW_pre hP hK hS⟩ rfl rfl hl.1 rfl (lv_room (Nat.le_of_ble_eq_true rfl)) dL_signs_7 ⟨Nat.le_of_ble_eq_true rfl, Nat.le_of_ble_eq_true rfl⟩) hS (fun _ _ h => h) (fun _ h => h) (fun _ _ h => h) (fun X ce q9 u t H1 locs1 ht _ hu hB _ _ hS1 hcell hv9 hcl9 => ?_) (fun r σ1 t H1 locs1 ht _ hw hB _ _ hS1 => ?_)
  · obtain ⟨e9, hP1⟩ := hB
    subst e9
    rw [ht] at hP1
    have hu9 := hu
    rcases hu9 with ⟨rfl, -⟩ | ⟨rfl, -⟩
    · refine vx_catch (own := RL) (name := xIO) hown [] ⟨0, 12, 15, 13⟩ [⟨0, 12, 19, 15⟩] htab (fun z hz => nomatch hz) rfl (by decide) (hts (.classLink RL 13 xIO) (by decide +kernel)) (hK.c (by decide)) hcell hv9 hcl9 ?_
      refine lv_astore (lv' := [(5, .ref q9), (0, .ref (e_a E 0)), (1, .int x), (2, .int v), (3, .int z), (4, .ref (e_a E 36))]) hx hb dL_signs_15 hl (by decide) rfl (fun ls hl => ?_)
      refine lv_iconst (v := 1) hx hb dL_signs_17 (by decide) ?_
      refine W.widen (k := 2) (n := 12) (Nat.le_of_ble_eq_true rfl) (Nat.le_of_ble_eq_true rfl) ?_
      exact r_b (z := (σ, o)) hx hb hr hlocks hP1 hS1 dL_signs_18 (Or.inr ⟨_, hu, (by decide), rfl⟩)
    · refine vx_catch (own := RL) (name := xIA) hown [⟨0, 12, 15, 13⟩] ⟨0, 12, 19, 15⟩ [] htab (fun z hz => by
        cases List.mem_singleton.mp hz
        exact Or.inr ⟨by decide, xIO, hts (.classLink RL 13 xIO) (by decide +kernel), hK.nc (by decide) (by decide) (by decide)⟩) rfl (by decide) (hts (.classLink RL 15 xIA) (by decide +kernel)) (hK.c (by decide)) hcell hv9 hcl9 ?_
      refine lv_astore (lv' := [(5, .ref q9), (0, .ref (e_a E 0)), (1, .int x), (2, .int v), (3, .int z), (4, .ref (e_a E 36))]) hx hb dL_signs_19 hl (by decide) rfl (fun ls hl => ?_)
      refine lv_iconst (v := 2) hx hb dL_signs_21 (by decide) ?_
      refine W.widen (k := 2) (n := 12) (Nat.le_of_ble_eq_true rfl) (Nat.le_of_ble_eq_true rfl) ?_
      exact r_b (z := (σ, o)) hx hb hr hlocks hP1 hS1 dL_signs_22 (Or.inr ⟨_, hu, (by decide), rfl⟩)
  · have hP1 : va_P (e_D E) vwCl (wd E σ1 o) H1 := by rw [← ht]; exact hB
    refine lv_i2l (v := r.toInt64) hx hb dL_signs_10 rfl ?_
    refine q_lst hx hb hok hK hP1 hS1 dL_signs_11 (fun H2 locs2 hP2 hS2 => ?_)
    refine lv_goto (tgt := 23) hx hb dL_signs_12 (by decide) ?_
    refine lv_iconst (v := 0) hx hb dL_signs_23 (by decide) ?_
    refine W.widen (k := 2) (n := 12) (Nat.le_of_ble_eq_true rfl) (Nat.le_of_ble_eq_true rfl) ?_
    exact r_b (z := (σ1, vp_updL o 0 r.toInt64)) hx hb hr hlocks hP2 hS2 dL_signs_24 (Or.inl ⟨rfl, r, hw, rfl⟩)
set_option maxHeartbeats 4000000 in
set_option maxRecDepth 100000 in
/-- chute -/
theorem mtL_chute (l : Launch) (hl0 : l.stackTraces = false) (E : Ev) (hok : e_ok E) (σ : Mem) (o : Nat → Int64) (x v : Int32) (N : Nat → Nat) (hN : okN σ N) : Met l yL_chute wsL_chute ({ frames := 8, cells := 2, slots := 12, locals := 140 } : Room) (PW E σ o [.ref (e_a E 0), .int x, .int v, .ref (e_a E 36)]) (va_Qi (WL (PX_chute σ x v N) (XX_chute σ x v N) cdN Int32.toInt64 σ o) (BZ E) (LB (e_B E))) 2 12 (LB (e_B E)) := by
  refine va_MetW (cc := cL_chute) (maxL := 5) (ret := (some .int)) (by decide) rfl ?_
  intro p e s m args below meth c s₁ B hml hPP
  obtain ⟨rfl, hP, hK⟩ := hPP
  have hx := B.exec
  have hb := B.bytes
  have hr := B.returns
  have hts := atoms_spec (ws := wsL_chute) B.pre
  have hown : s.vm.findClass RL = some m.cls := findClass_of_methodNamed B.named
  have hlocks := B.notSynchronized
  have hS : va_S (LB (e_B E)) s.heap s.heap [] := va_S.rf
  have htab := vx_table (x := yL_chute) B (hts (.codeWith yL_chute cL_chute 5 (some .int) [(0, 10, 13, 13), (0, 10, 17, 15)]) List.mem_cons_self)
  have hl := lv_entry ([.ref (e_a E 0), .int x, .int v, .ref (e_a E 36)]) (n := 5) (Nat.le_of_ble_eq_true rfl)
  rw [lg_entry_eq]
  generalize (lg_sl ([.ref (e_a E 0), .int x, .int v, .ref (e_a E 36)]) ++ List.replicate (5 - (lg_sl ([.ref (e_a E 0), .int x, .int v, .ref (e_a E 36)])).length) Slot.unset).toArray = ls at hl ⊢
  have hl : lv_has ls 5 [(0, .ref (e_a E 0)), (1, .int x), (2, .int v), (3, .ref (e_a E 36))] := hl
  refine lv_aload_n hx hb dL_chute_0 rfl (lv_at hl 3 rfl) ?_
  refine lv_iconst (v := 0) hx hb dL_chute_1 (by decide) ?_
  refine lv_aload_n hx hb dL_chute_2 rfl (lv_at hl 0 rfl) ?_
  refine lv_iload_n hx hb dL_chute_3 rfl (lv_at hl 1 rfl) ?_
  refine lv_iload_n hx hb dL_chute_4 rfl (lv_at hl 2 rfl) ?_
  refine vx_calli (S := Mem) (SX := String) (vx_runV (As := [.int x, .int v]) (rest := [.int 0, .ref (e_a E 36)]) ⟨hx, hb, hml, hown, hts⟩ (mtX1_chute l hl0 E hok σ o x v N hN) (cwV 2 hts gL_chute_X1_chute rfl rfl rfl (by decide +kernel) ⟨Nat.le_of_ble_eq_true rfl, Nat.le_of_ble_eq_true rfl⟩) ⟨PW_blind, va_recv hK.K hP (ci := 1) (q0 := 0) rfl at_0, PW_pre hP hK hS⟩ rfl rfl hl.1 rfl (lv_room (Nat.le_of_ble_eq_true rfl)) dL_chute_5 ⟨Nat.le_of_ble_eq_true rfl, Nat.le_of_ble_eq_true rfl⟩) hS (fun _ _ h => h) (fun _ h => h) (fun _ _ h => h) (fun X ce q9 u t H1 locs1 ht _ hu hB _ _ hS1 hcell hv9 hcl9 => ?_) (fun r σ1 t H1 locs1 ht _ hw hB _ _ hS1 => ?_)
  · obtain ⟨e9, hP1⟩ := hB
    subst e9
    rw [ht] at hP1
    have hu9 := hu
    rcases hu9 with ⟨rfl, -⟩ | ⟨rfl, -⟩
    · refine vx_catch (own := RL) (name := xIO) hown [] ⟨0, 10, 13, 13⟩ [⟨0, 10, 17, 15⟩] htab (fun z hz => nomatch hz) rfl (by decide) (hts (.classLink RL 13 xIO) (by decide +kernel)) (hK.c (by decide)) hcell hv9 hcl9 ?_
      refine lv_astore (lv' := [(4, .ref q9), (0, .ref (e_a E 0)), (1, .int x), (2, .int v), (3, .ref (e_a E 36))]) hx hb dL_chute_13 hl (by decide) rfl (fun ls hl => ?_)
      refine lv_iconst (v := 1) hx hb dL_chute_15 (by decide) ?_
      refine W.widen (k := 2) (n := 12) (Nat.le_of_ble_eq_true rfl) (Nat.le_of_ble_eq_true rfl) ?_
      exact r_b (z := (σ, o)) hx hb hr hlocks hP1 hS1 dL_chute_16 (Or.inr ⟨_, hu, (by decide), rfl⟩)
    · refine vx_catch (own := RL) (name := xIA) hown [⟨0, 10, 13, 13⟩] ⟨0, 10, 17, 15⟩ [] htab (fun z hz => by
        cases List.mem_singleton.mp hz
        exact Or.inr ⟨by decide, xIO, hts (.classLink RL 13 xIO) (by decide +kernel), hK.nc (by decide) (by decide) (by decide)⟩) rfl (by decide) (hts (.classLink RL 15 xIA) (by decide +kernel)) (hK.c (by decide)) hcell hv9 hcl9 ?_
      refine lv_astore (lv' := [(4, .ref q9), (0, .ref (e_a E 0)), (1, .int x), (2, .int v), (3, .ref (e_a E 36))]) hx hb dL_chute_17 hl (by decide) rfl (fun ls hl => ?_)
      refine lv_iconst (v := 2) hx hb dL_chute_19 (by decide) ?_
      refine W.widen (k := 2) (n := 12) (Nat.le_of_ble_eq_true rfl) (Nat.le_of_ble_eq_true rfl) ?_
      exact r_b (z := (σ, o)) hx hb hr hlocks hP1 hS1 dL_chute_20 (Or.inr ⟨_, hu, (by decide), rfl⟩)
  · have hP1 : va_P (e_D E) vwCl (wd E σ1 o) H1 := by rw [← ht]; exact hB
    refine lv_i2l (v := r.toInt64) hx hb dL_chute_8 rfl ?_
    refine q_lst hx hb hok hK hP1 hS1 dL_chute_9 (fun H2 locs2 hP2 hS2 => ?_)
    refine lv_goto (tgt := 21) hx hb dL_chute_10 (by decide) ?_
    refine lv_iconst (v := 0) hx hb dL_chute_21 (by decide) ?_
    refine W.widen (k := 2) (n := 12) (Nat.le_of_ble_eq_true rfl) (Nat.le_of_ble_eq_true rfl) ?_
    exact r_b (z := (σ1, vp_updL o 0 r.toInt64)) hx hb hr hlocks hP2 hS2 dL_chute_22 (Or.inl ⟨rfl, r, hw, rfl⟩)
set_option maxHeartbeats 4000000 in
set_option maxRecDepth 100000 in
/-- weight -/
theorem mtL_weight (l : Launch) (hl0 : l.stackTraces = false) (E : Ev) (hok : e_ok E) (σ : Mem) (o : Nat → Int64) (x v : Int32) (N : Nat → Nat) (hN : okN σ N) : Met l yL_weight wsL_weight ({ frames := 8, cells := 2, slots := 12, locals := 140 } : Room) (PW E σ o [.ref (e_a E 0), .int x, .int v, .ref (e_a E 36)]) (va_Qi (WL (PX_weight σ x v N) (XX_weight σ x v N) cdN Int32.toInt64 σ o) (BZ E) (LB (e_B E))) 2 12 (LB (e_B E)) := by
  refine va_MetW (cc := cL_weight) (maxL := 5) (ret := (some .int)) (by decide) rfl ?_
  intro p e s m args below meth c s₁ B hml hPP
  obtain ⟨rfl, hP, hK⟩ := hPP
  have hx := B.exec
  have hb := B.bytes
  have hr := B.returns
  have hts := atoms_spec (ws := wsL_weight) B.pre
  have hown : s.vm.findClass RL = some m.cls := findClass_of_methodNamed B.named
  have hlocks := B.notSynchronized
  have hS : va_S (LB (e_B E)) s.heap s.heap [] := va_S.rf
  have htab := vx_table (x := yL_weight) B (hts (.codeWith yL_weight cL_weight 5 (some .int) [(0, 10, 13, 13), (0, 10, 17, 43)]) List.mem_cons_self)
  have hl := lv_entry ([.ref (e_a E 0), .int x, .int v, .ref (e_a E 36)]) (n := 5) (Nat.le_of_ble_eq_true rfl)
  rw [lg_entry_eq]
  generalize (lg_sl ([.ref (e_a E 0), .int x, .int v, .ref (e_a E 36)]) ++ List.replicate (5 - (lg_sl ([.ref (e_a E 0), .int x, .int v, .ref (e_a E 36)])).length) Slot.unset).toArray = ls at hl ⊢
  have hl : lv_has ls 5 [(0, .ref (e_a E 0)), (1, .int x), (2, .int v), (3, .ref (e_a E 36))] := hl
  refine lv_aload_n hx hb dL_weight_0 rfl (lv_at hl 3 rfl) ?_
  refine lv_iconst (v := 0) hx hb dL_weight_1 (by decide) ?_
  refine lv_aload_n hx hb dL_weight_2 rfl (lv_at hl 0 rfl) ?_
  refine lv_iload_n hx hb dL_weight_3 rfl (lv_at hl 1 rfl) ?_
  refine lv_iload_n hx hb dL_weight_4 rfl (lv_at hl 2 rfl) ?_
  refine vx_calli (S := Mem) (SX := String) (vx_runV (As := [.int x, .int v]) (rest := [.int 0, .ref (e_a E 36)]) ⟨hx, hb, hml, hown, hts⟩ (mtX1_weight l hl0 E hok σ o x v N hN) (cwV 2 hts gL_weight_X1_weight rfl rfl rfl (by decide +kernel) ⟨Nat.le_of_ble_eq_true rfl, Nat.le_of_ble_eq_true rfl⟩) ⟨PW_blind, va_recv hK.K hP (ci := 1) (q0 := 0) rfl at_0, PW_pre hP hK hS⟩ rfl rfl hl.1 rfl (lv_room (Nat.le_of_ble_eq_true rfl)) dL_weight_5 ⟨Nat.le_of_ble_eq_true rfl, Nat.le_of_ble_eq_true rfl⟩) hS (fun _ _ h => h) (fun _ h => h) (fun _ _ h => h) (fun X ce q9 u t H1 locs1 ht _ hu hB _ _ hS1 hcell hv9 hcl9 => ?_) (fun r σ1 t H1 locs1 ht _ hw hB _ _ hS1 => ?_)
  · obtain ⟨e9, hP1⟩ := hB
    subst e9
    rw [ht] at hP1
    have hu9 := hu
    rcases hu9 with ⟨rfl, -⟩ | ⟨rfl, -⟩
    · refine vx_catch (own := RL) (name := xIO) hown [] ⟨0, 10, 13, 13⟩ [⟨0, 10, 17, 43⟩] htab (fun z hz => nomatch hz) rfl (by decide) (hts (.classLink RL 13 xIO) (by decide +kernel)) (hK.c (by decide)) hcell hv9 hcl9 ?_
      refine lv_astore (lv' := [(4, .ref q9), (0, .ref (e_a E 0)), (1, .int x), (2, .int v), (3, .ref (e_a E 36))]) hx hb dL_weight_13 hl (by decide) rfl (fun ls hl => ?_)
      refine lv_iconst (v := 1) hx hb dL_weight_15 (by decide) ?_
      refine W.widen (k := 2) (n := 12) (Nat.le_of_ble_eq_true rfl) (Nat.le_of_ble_eq_true rfl) ?_
      exact r_b (z := (σ, o)) hx hb hr hlocks hP1 hS1 dL_weight_16 (Or.inr ⟨_, hu, (by decide), rfl⟩)
    · refine vx_catch (own := RL) (name := xNS) hown [⟨0, 10, 13, 13⟩] ⟨0, 10, 17, 43⟩ [] htab (fun z hz => by
        cases List.mem_singleton.mp hz
        exact Or.inr ⟨by decide, xIO, hts (.classLink RL 13 xIO) (by decide +kernel), hK.nc (by decide) (by decide) (by decide)⟩) rfl (by decide) (hts (.classLink RL 43 xNS) (by decide +kernel)) (hK.c (by decide)) hcell hv9 hcl9 ?_
      refine lv_astore (lv' := [(4, .ref q9), (0, .ref (e_a E 0)), (1, .int x), (2, .int v), (3, .ref (e_a E 36))]) hx hb dL_weight_17 hl (by decide) rfl (fun ls hl => ?_)
      refine lv_iconst (v := 2) hx hb dL_weight_19 (by decide) ?_
      refine W.widen (k := 2) (n := 12) (Nat.le_of_ble_eq_true rfl) (Nat.le_of_ble_eq_true rfl) ?_
      exact r_b (z := (σ, o)) hx hb hr hlocks hP1 hS1 dL_weight_20 (Or.inr ⟨_, hu, (by decide), rfl⟩)
  · have hP1 : va_P (e_D E) vwCl (wd E σ1 o) H1 := by rw [← ht]; exact hB
    refine lv_i2l (v := r.toInt64) hx hb dL_weight_8 rfl ?_
    refine q_lst hx hb hok hK hP1 hS1 dL_weight_9 (fun H2 locs2 hP2 hS2 => ?_)
    refine lv_goto (tgt := 21) hx hb dL_weight_10 (by decide) ?_
    refine lv_iconst (v := 0) hx hb dL_weight_21 (by decide) ?_
    refine W.widen (k := 2) (n := 12) (Nat.le_of_ble_eq_true rfl) (Nat.le_of_ble_eq_true rfl) ?_
    exact r_b (z := (σ1, vp_updL o 0 r.toInt64)) hx hb hr hlocks hP2 hS2 dL_weight_22 (Or.inl ⟨rfl, r, hw, rfl⟩)
set_option maxHeartbeats 4000000 in
set_option maxRecDepth 100000 in
/-- girth -/
theorem mtL_girth (l : Launch) (hl0 : l.stackTraces = false) (E : Ev) (hok : e_ok E) (σ : Mem) (o : Nat → Int64) (x v : Int32) (N : Nat → Nat) (hN : okN σ N) : Met l yL_girth wsL_girth ({ frames := 8, cells := 2, slots := 12, locals := 140 } : Room) (PW E σ o [.ref (e_a E 0), .int x, .int v, .ref (e_a E 36)]) (va_Qi (WL (PX_girth σ x v N) (XX_girth σ x v N) cdN Int32.toInt64 σ o) (BZ E) (LB (e_B E))) 2 12 (LB (e_B E)) := by
  refine va_MetW (cc := cL_girth) (maxL := 5) (ret := (some .int)) (by decide) rfl ?_
  intro p e s m args below meth c s₁ B hml hPP
  obtain ⟨rfl, hP, hK⟩ := hPP
  have hx := B.exec
  have hb := B.bytes
  have hr := B.returns
  have hts := atoms_spec (ws := wsL_girth) B.pre
  have hown : s.vm.findClass RL = some m.cls := findClass_of_methodNamed B.named
  have hlocks := B.notSynchronized
  have hS : va_S (LB (e_B E)) s.heap s.heap [] := va_S.rf
  have htab := vx_table (x := yL_girth) B (hts (.codeWith yL_girth cL_girth 5 (some .int) [(0, 10, 13, 13), (0, 10, 17, 43)]) List.mem_cons_self)
  have hl := lv_entry ([.ref (e_a E 0), .int x, .int v, .ref (e_a E 36)]) (n := 5) (Nat.le_of_ble_eq_true rfl)
  rw [lg_entry_eq]
  generalize (lg_sl ([.ref (e_a E 0), .int x, .int v, .ref (e_a E 36)]) ++ List.replicate (5 - (lg_sl ([.ref (e_a E 0), .int x, .int v, .ref (e_a E 36)])).length) Slot.unset).toArray = ls at hl ⊢
  have hl : lv_has ls 5 [(0, .ref (e_a E 0)), (1, .int x), (2, .int v), (3, .ref (e_a E 36))] := hl
  refine lv_aload_n hx hb dL_girth_0 rfl (lv_at hl 3 rfl) ?_
  refine lv_iconst (v := 0) hx hb dL_girth_1 (by decide) ?_
  refine lv_aload_n hx hb dL_girth_2 rfl (lv_at hl 0 rfl) ?_
  refine lv_iload_n hx hb dL_girth_3 rfl (lv_at hl 1 rfl) ?_
  refine lv_iload_n hx hb dL_girth_4 rfl (lv_at hl 2 rfl) ?_
  refine vx_calli (S := Mem) (SX := String) (vx_runV (As := [.int x, .int v]) (rest := [.int 0, .ref (e_a E 36)]) ⟨hx, hb, hml, hown, hts⟩ (mtX1_girth l hl0 E hok σ o x v N hN) (cwV 2 hts gL_girth_X1_girth rfl rfl rfl (by decide +kernel) ⟨Nat.le_of_ble_eq_true rfl, Nat.le_of_ble_eq_true rfl⟩) ⟨PW_blind, va_recv hK.K hP (ci := 1) (q0 := 0) rfl at_0, PW_pre hP hK hS⟩ rfl rfl hl.1 rfl (lv_room (Nat.le_of_ble_eq_true rfl)) dL_girth_5 ⟨Nat.le_of_ble_eq_true rfl, Nat.le_of_ble_eq_true rfl⟩) hS (fun _ _ h => h) (fun _ h => h) (fun _ _ h => h) (fun X ce q9 u t H1 locs1 ht _ hu hB _ _ hS1 hcell hv9 hcl9 => ?_) (fun r σ1 t H1 locs1 ht _ hw hB _ _ hS1 => ?_)
  · obtain ⟨e9, hP1⟩ := hB
    subst e9
    rw [ht] at hP1
    have hu9 := hu
    rcases hu9 with ⟨rfl, -⟩ | ⟨rfl, -⟩
    · refine vx_catch (own := RL) (name := xIO) hown [] ⟨0, 10, 13, 13⟩ [⟨0, 10, 17, 43⟩] htab (fun z hz => nomatch hz) rfl (by decide) (hts (.classLink RL 13 xIO) (by decide +kernel)) (hK.c (by decide)) hcell hv9 hcl9 ?_
      refine lv_astore (lv' := [(4, .ref q9), (0, .ref (e_a E 0)), (1, .int x), (2, .int v), (3, .ref (e_a E 36))]) hx hb dL_girth_13 hl (by decide) rfl (fun ls hl => ?_)
      refine lv_iconst (v := 1) hx hb dL_girth_15 (by decide) ?_
      refine W.widen (k := 2) (n := 12) (Nat.le_of_ble_eq_true rfl) (Nat.le_of_ble_eq_true rfl) ?_
      exact r_b (z := (σ, o)) hx hb hr hlocks hP1 hS1 dL_girth_16 (Or.inr ⟨_, hu, (by decide), rfl⟩)
    · refine vx_catch (own := RL) (name := xNS) hown [⟨0, 10, 13, 13⟩] ⟨0, 10, 17, 43⟩ [] htab (fun z hz => by
        cases List.mem_singleton.mp hz
        exact Or.inr ⟨by decide, xIO, hts (.classLink RL 13 xIO) (by decide +kernel), hK.nc (by decide) (by decide) (by decide)⟩) rfl (by decide) (hts (.classLink RL 43 xNS) (by decide +kernel)) (hK.c (by decide)) hcell hv9 hcl9 ?_
      refine lv_astore (lv' := [(4, .ref q9), (0, .ref (e_a E 0)), (1, .int x), (2, .int v), (3, .ref (e_a E 36))]) hx hb dL_girth_17 hl (by decide) rfl (fun ls hl => ?_)
      refine lv_iconst (v := 2) hx hb dL_girth_19 (by decide) ?_
      refine W.widen (k := 2) (n := 12) (Nat.le_of_ble_eq_true rfl) (Nat.le_of_ble_eq_true rfl) ?_
      exact r_b (z := (σ, o)) hx hb hr hlocks hP1 hS1 dL_girth_20 (Or.inr ⟨_, hu, (by decide), rfl⟩)
  · have hP1 : va_P (e_D E) vwCl (wd E σ1 o) H1 := by rw [← ht]; exact hB
    refine lv_i2l (v := r.toInt64) hx hb dL_girth_8 rfl ?_
    refine q_lst hx hb hok hK hP1 hS1 dL_girth_9 (fun H2 locs2 hP2 hS2 => ?_)
    refine lv_goto (tgt := 21) hx hb dL_girth_10 (by decide) ?_
    refine lv_iconst (v := 0) hx hb dL_girth_21 (by decide) ?_
    refine W.widen (k := 2) (n := 12) (Nat.le_of_ble_eq_true rfl) (Nat.le_of_ble_eq_true rfl) ?_
    exact r_b (z := (σ1, vp_updL o 0 r.toInt64)) hx hb hr hlocks hP2 hS2 dL_girth_22 (Or.inl ⟨rfl, r, hw, rfl⟩)
set_option maxHeartbeats 4000000 in
set_option maxRecDepth 100000 in
/-- below -/
theorem mtL_below (l : Launch) (hl0 : l.stackTraces = false) (E : Ev) (hok : e_ok E) (σ : Mem) (o : Nat → Int64) (x w : Int32) (N : Nat → Nat) (hN : okN σ N) : Met l yL_below wsL_below ({ frames := 8, cells := 2, slots := 12, locals := 140 } : Room) (PW E σ o [.ref (e_a E 0), .int x, .int w, .ref (e_a E 36)]) (va_Qi (WL (PX_below σ x w N) (XX_below σ x w N) cdN Int32.toInt64 σ o) (BZ E) (LB (e_B E))) 2 12 (LB (e_B E)) := by
  refine va_MetW (cc := cL_below) (maxL := 5) (ret := (some .int)) (by decide) rfl ?_
  intro p e s m args below meth c s₁ B hml hPP
  obtain ⟨rfl, hP, hK⟩ := hPP
  have hx := B.exec
  have hb := B.bytes
  have hr := B.returns
  have hts := atoms_spec (ws := wsL_below) B.pre
  have hown : s.vm.findClass RL = some m.cls := findClass_of_methodNamed B.named
  have hlocks := B.notSynchronized
  have hS : va_S (LB (e_B E)) s.heap s.heap [] := va_S.rf
  have htab := vx_table (x := yL_below) B (hts (.codeWith yL_below cL_below 5 (some .int) [(0, 10, 13, 13), (0, 10, 17, 15)]) List.mem_cons_self)
  have hl := lv_entry ([.ref (e_a E 0), .int x, .int w, .ref (e_a E 36)]) (n := 5) (Nat.le_of_ble_eq_true rfl)
  rw [lg_entry_eq]
  generalize (lg_sl ([.ref (e_a E 0), .int x, .int w, .ref (e_a E 36)]) ++ List.replicate (5 - (lg_sl ([.ref (e_a E 0), .int x, .int w, .ref (e_a E 36)])).length) Slot.unset).toArray = ls at hl ⊢
  have hl : lv_has ls 5 [(0, .ref (e_a E 0)), (1, .int x), (2, .int w), (3, .ref (e_a E 36))] := hl
  refine lv_aload_n hx hb dL_below_0 rfl (lv_at hl 3 rfl) ?_
  refine lv_iconst (v := 0) hx hb dL_below_1 (by decide) ?_
  refine lv_aload_n hx hb dL_below_2 rfl (lv_at hl 0 rfl) ?_
  refine lv_iload_n hx hb dL_below_3 rfl (lv_at hl 1 rfl) ?_
  refine lv_iload_n hx hb dL_below_4 rfl (lv_at hl 2 rfl) ?_
  refine vx_calli (S := Mem) (SX := String) (vx_runV (As := [.int x, .int w]) (rest := [.int 0, .ref (e_a E 36)]) ⟨hx, hb, hml, hown, hts⟩ (mtX1_below l hl0 E hok σ o x w N hN) (cwV 2 hts gL_below_X1_below rfl rfl rfl (by decide +kernel) ⟨Nat.le_of_ble_eq_true rfl, Nat.le_of_ble_eq_true rfl⟩) ⟨PW_blind, va_recv hK.K hP (ci := 1) (q0 := 0) rfl at_0, PW_pre hP hK hS⟩ rfl rfl hl.1 rfl (lv_room (Nat.le_of_ble_eq_true rfl)) dL_below_5 ⟨Nat.le_of_ble_eq_true rfl, Nat.le_of_ble_eq_true rfl⟩) hS (fun _ _ h => h) (fun _ h => h) (fun _ _ h => h) (fun X ce q9 u t H1 locs1 ht _ hu hB _ _ hS1 hcell hv9 hcl9 => ?_) (fun r σ1 t H1 locs1 ht _ hw hB _ _ hS1 => ?_)
  · obtain ⟨e9, hP1⟩ := hB
    subst e9
    rw [ht] at hP1
    have hu9 := hu
    rcases hu9 with ⟨rfl, -⟩ | ⟨rfl, -⟩
    · refine vx_catch (own := RL) (name := xIO) hown [] ⟨0, 10, 13, 13⟩ [⟨0, 10, 17, 15⟩] htab (fun z hz => nomatch hz) rfl (by decide) (hts (.classLink RL 13 xIO) (by decide +kernel)) (hK.c (by decide)) hcell hv9 hcl9 ?_
      refine lv_astore (lv' := [(4, .ref q9), (0, .ref (e_a E 0)), (1, .int x), (2, .int w), (3, .ref (e_a E 36))]) hx hb dL_below_13 hl (by decide) rfl (fun ls hl => ?_)
      refine lv_iconst (v := 1) hx hb dL_below_15 (by decide) ?_
      refine W.widen (k := 2) (n := 12) (Nat.le_of_ble_eq_true rfl) (Nat.le_of_ble_eq_true rfl) ?_
      exact r_b (z := (σ, o)) hx hb hr hlocks hP1 hS1 dL_below_16 (Or.inr ⟨_, hu, (by decide), rfl⟩)
    · refine vx_catch (own := RL) (name := xIA) hown [⟨0, 10, 13, 13⟩] ⟨0, 10, 17, 15⟩ [] htab (fun z hz => by
        cases List.mem_singleton.mp hz
        exact Or.inr ⟨by decide, xIO, hts (.classLink RL 13 xIO) (by decide +kernel), hK.nc (by decide) (by decide) (by decide)⟩) rfl (by decide) (hts (.classLink RL 15 xIA) (by decide +kernel)) (hK.c (by decide)) hcell hv9 hcl9 ?_
      refine lv_astore (lv' := [(4, .ref q9), (0, .ref (e_a E 0)), (1, .int x), (2, .int w), (3, .ref (e_a E 36))]) hx hb dL_below_17 hl (by decide) rfl (fun ls hl => ?_)
      refine lv_iconst (v := 2) hx hb dL_below_19 (by decide) ?_
      refine W.widen (k := 2) (n := 12) (Nat.le_of_ble_eq_true rfl) (Nat.le_of_ble_eq_true rfl) ?_
      exact r_b (z := (σ, o)) hx hb hr hlocks hP1 hS1 dL_below_20 (Or.inr ⟨_, hu, (by decide), rfl⟩)
  · have hP1 : va_P (e_D E) vwCl (wd E σ1 o) H1 := by rw [← ht]; exact hB
    refine lv_i2l (v := r.toInt64) hx hb dL_below_8 rfl ?_
    refine q_lst hx hb hok hK hP1 hS1 dL_below_9 (fun H2 locs2 hP2 hS2 => ?_)
    refine lv_goto (tgt := 21) hx hb dL_below_10 (by decide) ?_
    refine lv_iconst (v := 0) hx hb dL_below_21 (by decide) ?_
    refine W.widen (k := 2) (n := 12) (Nat.le_of_ble_eq_true rfl) (Nat.le_of_ble_eq_true rfl) ?_
    exact r_b (z := (σ1, vp_updL o 0 r.toInt64)) hx hb hr hlocks hP2 hS2 dL_below_22 (Or.inl ⟨rfl, r, hw, rfl⟩)
set_option maxHeartbeats 4000000 in
set_option maxRecDepth 100000 in
/-- take -/
theorem mtL_take (l : Launch) (hl0 : l.stackTraces = false) (E : Ev) (hok : e_ok E) (σ : Mem) (o : Nat → Int64) (x w : Int32) (N : Nat → Nat) (hN : okN σ N) : Met l yL_take wsL_take ({ frames := 8, cells := 3, slots := 18, locals := 140 } : Room) (PW E σ o [.ref (e_a E 0), .int x, .int w, .ref (e_a E 36)]) (va_Qi (WL (PX_take σ x w N) (XX_take σ x w N) cdA Int32.toInt64 σ o) (BZ E) (LB (e_B E))) 3 18 (LB (e_B E)) := by
  refine va_MetW (cc := cL_take) (maxL := 5) (ret := (some .int)) (by decide) rfl ?_
  intro p e s m args below meth c s₁ B hml hPP
  obtain ⟨rfl, hP, hK⟩ := hPP
  have hx := B.exec
  have hb := B.bytes
  have hr := B.returns
  have hts := atoms_spec (ws := wsL_take) B.pre
  have hown : s.vm.findClass RL = some m.cls := findClass_of_methodNamed B.named
  have hlocks := B.notSynchronized
  have hS : va_S (LB (e_B E)) s.heap s.heap [] := va_S.rf
  have htab := vx_table (x := yL_take) B (hts (.codeWith yL_take cL_take 5 (some .int) [(0, 10, 13, 13), (0, 10, 17, 15), (0, 10, 21, 43)]) List.mem_cons_self)
  have hl := lv_entry ([.ref (e_a E 0), .int x, .int w, .ref (e_a E 36)]) (n := 5) (Nat.le_of_ble_eq_true rfl)
  rw [lg_entry_eq]
  generalize (lg_sl ([.ref (e_a E 0), .int x, .int w, .ref (e_a E 36)]) ++ List.replicate (5 - (lg_sl ([.ref (e_a E 0), .int x, .int w, .ref (e_a E 36)])).length) Slot.unset).toArray = ls at hl ⊢
  have hl : lv_has ls 5 [(0, .ref (e_a E 0)), (1, .int x), (2, .int w), (3, .ref (e_a E 36))] := hl
  refine lv_aload_n hx hb dL_take_0 rfl (lv_at hl 3 rfl) ?_
  refine lv_iconst (v := 0) hx hb dL_take_1 (by decide) ?_
  refine lv_aload_n hx hb dL_take_2 rfl (lv_at hl 0 rfl) ?_
  refine lv_iload_n hx hb dL_take_3 rfl (lv_at hl 1 rfl) ?_
  refine lv_iload_n hx hb dL_take_4 rfl (lv_at hl 2 rfl) ?_
  refine vx_calli (S := Mem) (SX := String) (vx_runV (As := [.int x, .int w]) (rest := [.int 0, .ref (e_a E 36)]) ⟨hx, hb, hml, hown, hts⟩ (mtX1_take l hl0 E hok σ o x w N hN) (cwV 2 hts gL_take_X1_take rfl rfl rfl (by decide +kernel) ⟨Nat.le_of_ble_eq_true rfl, Nat.le_of_ble_eq_true rfl⟩) ⟨PW_blind, va_recv hK.K hP (ci := 1) (q0 := 0) rfl at_0, PW_pre hP hK hS⟩ rfl rfl hl.1 rfl (lv_room (Nat.le_of_ble_eq_true rfl)) dL_take_5 ⟨Nat.le_of_ble_eq_true rfl, Nat.le_of_ble_eq_true rfl⟩) hS (fun _ _ h => h) (fun _ h => h) (fun _ _ h => h) (fun X ce q9 u t H1 locs1 ht _ hu hB _ _ hS1 hcell hv9 hcl9 => ?_) (fun r σ1 t H1 locs1 ht _ hw hB _ _ hS1 => ?_)
  · obtain ⟨e9, hP1⟩ := hB
    subst e9
    rw [ht] at hP1
    have hu9 := hu
    rcases hu9 with ⟨rfl, -⟩ | ⟨rfl, -⟩ | ⟨rfl, -⟩
    · refine vx_catch (own := RL) (name := xIO) hown [] ⟨0, 10, 13, 13⟩ [⟨0, 10, 17, 15⟩, ⟨0, 10, 21, 43⟩] htab (fun z hz => nomatch hz) rfl (by decide) (hts (.classLink RL 13 xIO) (by decide +kernel)) (hK.c (by decide)) hcell hv9 hcl9 ?_
      refine lv_astore (lv' := [(4, .ref q9), (0, .ref (e_a E 0)), (1, .int x), (2, .int w), (3, .ref (e_a E 36))]) hx hb dL_take_13 hl (by decide) rfl (fun ls hl => ?_)
      refine lv_iconst (v := 1) hx hb dL_take_15 (by decide) ?_
      refine W.widen (k := 3) (n := 18) (Nat.le_of_ble_eq_true rfl) (Nat.le_of_ble_eq_true rfl) ?_
      exact r_b (z := (σ, o)) hx hb hr hlocks hP1 hS1 dL_take_16 (Or.inr ⟨_, hu, (by decide), rfl⟩)
    · refine vx_catch (own := RL) (name := xIA) hown [⟨0, 10, 13, 13⟩] ⟨0, 10, 17, 15⟩ [⟨0, 10, 21, 43⟩] htab (fun z hz => by
        cases List.mem_singleton.mp hz
        exact Or.inr ⟨by decide, xIO, hts (.classLink RL 13 xIO) (by decide +kernel), hK.nc (by decide) (by decide) (by decide)⟩) rfl (by decide) (hts (.classLink RL 15 xIA) (by decide +kernel)) (hK.c (by decide)) hcell hv9 hcl9 ?_
      refine lv_astore (lv' := [(4, .ref q9), (0, .ref (e_a E 0)), (1, .int x), (2, .int w), (3, .ref (e_a E 36))]) hx hb dL_take_17 hl (by decide) rfl (fun ls hl => ?_)
      refine lv_iconst (v := 2) hx hb dL_take_19 (by decide) ?_
      refine W.widen (k := 3) (n := 18) (Nat.le_of_ble_eq_true rfl) (Nat.le_of_ble_eq_true rfl) ?_
      exact r_b (z := (σ, o)) hx hb hr hlocks hP1 hS1 dL_take_20 (Or.inr ⟨_, hu, (by decide), rfl⟩)
    · refine vx_catch (own := RL) (name := xNS) hown [⟨0, 10, 13, 13⟩, ⟨0, 10, 17, 15⟩] ⟨0, 10, 21, 43⟩ [] htab (fun z hz => by
        rcases List.mem_cons.mp hz with rfl | hz
        · exact Or.inr ⟨by decide, xIO, hts (.classLink RL 13 xIO) (by decide +kernel), hK.nc (by decide) (by decide) (by decide)⟩
        cases List.mem_singleton.mp hz
        exact Or.inr ⟨by decide, xIA, hts (.classLink RL 15 xIA) (by decide +kernel), hK.nc (by decide) (by decide) (by decide)⟩) rfl (by decide) (hts (.classLink RL 43 xNS) (by decide +kernel)) (hK.c (by decide)) hcell hv9 hcl9 ?_
      refine lv_astore (lv' := [(4, .ref q9), (0, .ref (e_a E 0)), (1, .int x), (2, .int w), (3, .ref (e_a E 36))]) hx hb dL_take_21 hl (by decide) rfl (fun ls hl => ?_)
      refine lv_iconst (v := 3) hx hb dL_take_23 (by decide) ?_
      refine W.widen (k := 3) (n := 18) (Nat.le_of_ble_eq_true rfl) (Nat.le_of_ble_eq_true rfl) ?_
      exact r_b (z := (σ, o)) hx hb hr hlocks hP1 hS1 dL_take_24 (Or.inr ⟨_, hu, (by decide), rfl⟩)
  · have hP1 : va_P (e_D E) vwCl (wd E σ1 o) H1 := by rw [← ht]; exact hB
    refine lv_i2l (v := r.toInt64) hx hb dL_take_8 rfl ?_
    refine q_lst hx hb hok hK hP1 hS1 dL_take_9 (fun H2 locs2 hP2 hS2 => ?_)
    refine lv_goto (tgt := 25) hx hb dL_take_10 (by decide) ?_
    refine lv_iconst (v := 0) hx hb dL_take_25 (by decide) ?_
    refine W.widen (k := 3) (n := 18) (Nat.le_of_ble_eq_true rfl) (Nat.le_of_ble_eq_true rfl) ?_
    exact r_b (z := (σ1, vp_updL o 0 r.toInt64)) hx hb hr hlocks hP2 hS2 dL_take_26 (Or.inl ⟨rfl, r, hw, rfl⟩)
set_option maxHeartbeats 4000000 in
set_option maxRecDepth 100000 in
/-- pour -/
theorem mtL_pour (l : Launch) (hl0 : l.stackTraces = false) (E : Ev) (hok : e_ok E) (σ : Mem) (o : Nat → Int64) (x y : Int32) (N : Nat → Nat) (hN : okN σ N) : Met l yL_pour wsL_pour ({ frames := 8, cells := 3, slots := 18, locals := 140 } : Room) (PW E σ o [.ref (e_a E 0), .int x, .int y, .ref (e_a E 36)]) (va_Qi (WL (PX_pour σ x y N) (XX_pour σ x y N) cdN Int32.toInt64 σ o) (BZ E) (LB (e_B E))) 3 18 (LB (e_B E)) := by
  refine va_MetW (cc := cL_pour) (maxL := 5) (ret := (some .int)) (by decide) rfl ?_
  intro p e s m args below meth c s₁ B hml hPP
  obtain ⟨rfl, hP, hK⟩ := hPP
  have hx := B.exec
  have hb := B.bytes
  have hr := B.returns
  have hts := atoms_spec (ws := wsL_pour) B.pre
  have hown : s.vm.findClass RL = some m.cls := findClass_of_methodNamed B.named
  have hlocks := B.notSynchronized
  have hS : va_S (LB (e_B E)) s.heap s.heap [] := va_S.rf
  have htab := vx_table (x := yL_pour) B (hts (.codeWith yL_pour cL_pour 5 (some .int) [(0, 10, 13, 13), (0, 10, 17, 15)]) List.mem_cons_self)
  have hl := lv_entry ([.ref (e_a E 0), .int x, .int y, .ref (e_a E 36)]) (n := 5) (Nat.le_of_ble_eq_true rfl)
  rw [lg_entry_eq]
  generalize (lg_sl ([.ref (e_a E 0), .int x, .int y, .ref (e_a E 36)]) ++ List.replicate (5 - (lg_sl ([.ref (e_a E 0), .int x, .int y, .ref (e_a E 36)])).length) Slot.unset).toArray = ls at hl ⊢
  have hl : lv_has ls 5 [(0, .ref (e_a E 0)), (1, .int x), (2, .int y), (3, .ref (e_a E 36))] := hl
  refine lv_aload_n hx hb dL_pour_0 rfl (lv_at hl 3 rfl) ?_
  refine lv_iconst (v := 0) hx hb dL_pour_1 (by decide) ?_
  refine lv_aload_n hx hb dL_pour_2 rfl (lv_at hl 0 rfl) ?_
  refine lv_iload_n hx hb dL_pour_3 rfl (lv_at hl 1 rfl) ?_
  refine lv_iload_n hx hb dL_pour_4 rfl (lv_at hl 2 rfl) ?_
  refine vx_calli (S := Mem) (SX := String) (vx_runV (As := [.int x, .int y]) (rest := [.int 0, .ref (e_a E 36)]) ⟨hx, hb, hml, hown, hts⟩ (mtX1_pour l hl0 E hok σ o x y N hN) (cwV 2 hts gL_pour_X1_pour rfl rfl rfl (by decide +kernel) ⟨Nat.le_of_ble_eq_true rfl, Nat.le_of_ble_eq_true rfl⟩) ⟨PW_blind, va_recv hK.K hP (ci := 1) (q0 := 0) rfl at_0, PW_pre hP hK hS⟩ rfl rfl hl.1 rfl (lv_room (Nat.le_of_ble_eq_true rfl)) dL_pour_5 ⟨Nat.le_of_ble_eq_true rfl, Nat.le_of_ble_eq_true rfl⟩) hS (fun _ _ h => h) (fun _ h => h) (fun _ _ h => h) (fun X ce q9 u t H1 locs1 ht _ hu hB _ _ hS1 hcell hv9 hcl9 => ?_) (fun r σ1 t H1 locs1 ht _ hw hB _ _ hS1 => ?_)
  · obtain ⟨e9, hP1⟩ := hB
    subst e9
    rw [ht] at hP1
    have hu9 := hu
    rcases hu9 with ⟨rfl, -⟩ | ⟨rfl, -⟩
    · refine vx_catch (own := RL) (name := xIO) hown [] ⟨0, 10, 13, 13⟩ [⟨0, 10, 17, 15⟩] htab (fun z hz => nomatch hz) rfl (by decide) (hts (.classLink RL 13 xIO) (by decide +kernel)) (hK.c (by decide)) hcell hv9 hcl9 ?_
      refine lv_astore (lv' := [(4, .ref q9), (0, .ref (e_a E 0)), (1, .int x), (2, .int y), (3, .ref (e_a E 36))]) hx hb dL_pour_13 hl (by decide) rfl (fun ls hl => ?_)
      refine lv_iconst (v := 1) hx hb dL_pour_15 (by decide) ?_
      refine W.widen (k := 3) (n := 18) (Nat.le_of_ble_eq_true rfl) (Nat.le_of_ble_eq_true rfl) ?_
      exact r_b (z := (σ, o)) hx hb hr hlocks hP1 hS1 dL_pour_16 (Or.inr ⟨_, hu, (by decide), rfl⟩)
    · refine vx_catch (own := RL) (name := xIA) hown [⟨0, 10, 13, 13⟩] ⟨0, 10, 17, 15⟩ [] htab (fun z hz => by
        cases List.mem_singleton.mp hz
        exact Or.inr ⟨by decide, xIO, hts (.classLink RL 13 xIO) (by decide +kernel), hK.nc (by decide) (by decide) (by decide)⟩) rfl (by decide) (hts (.classLink RL 15 xIA) (by decide +kernel)) (hK.c (by decide)) hcell hv9 hcl9 ?_
      refine lv_astore (lv' := [(4, .ref q9), (0, .ref (e_a E 0)), (1, .int x), (2, .int y), (3, .ref (e_a E 36))]) hx hb dL_pour_17 hl (by decide) rfl (fun ls hl => ?_)
      refine lv_iconst (v := 2) hx hb dL_pour_19 (by decide) ?_
      refine W.widen (k := 3) (n := 18) (Nat.le_of_ble_eq_true rfl) (Nat.le_of_ble_eq_true rfl) ?_
      exact r_b (z := (σ, o)) hx hb hr hlocks hP1 hS1 dL_pour_20 (Or.inr ⟨_, hu, (by decide), rfl⟩)
  · have hP1 : va_P (e_D E) vwCl (wd E σ1 o) H1 := by rw [← ht]; exact hB
    refine lv_i2l (v := r.toInt64) hx hb dL_pour_8 rfl ?_
    refine q_lst hx hb hok hK hP1 hS1 dL_pour_9 (fun H2 locs2 hP2 hS2 => ?_)
    refine lv_goto (tgt := 21) hx hb dL_pour_10 (by decide) ?_
    refine lv_iconst (v := 0) hx hb dL_pour_21 (by decide) ?_
    refine W.widen (k := 3) (n := 18) (Nat.le_of_ble_eq_true rfl) (Nat.le_of_ble_eq_true rfl) ?_
    exact r_b (z := (σ1, vp_updL o 0 r.toInt64)) hx hb hr hlocks hP2 hS2 dL_pour_22 (Or.inl ⟨rfl, r, hw, rfl⟩)
set_option maxHeartbeats 4000000 in
set_option maxRecDepth 100000 in
/-- sweep -/
theorem mtL_sweep (l : Launch) (hl0 : l.stackTraces = false) (E : Ev) (hok : e_ok E) (σ : Mem) (o : Nat → Int64) (x : Int32) (N : Nat → Nat) (hN : okN σ N) : Met l yL_sweep wsL_sweep ({ frames := 8, cells := 1, slots := 6, locals := 140 } : Room) (PW E σ o [.ref (e_a E 0), .int x, .ref (e_a E 36)]) (va_Qi (WL (PX_sweep σ x N) (XX_sweep σ x N) cd1 Int32.toInt64 σ o) (BZ E) (LB (e_B E))) 1 6 (LB (e_B E)) := by
  refine va_MetW (cc := cL_sweep) (maxL := 4) (ret := (some .int)) (by decide) rfl ?_
  intro p e s m args below meth c s₁ B hml hPP
  obtain ⟨rfl, hP, hK⟩ := hPP
  have hx := B.exec
  have hb := B.bytes
  have hr := B.returns
  have hts := atoms_spec (ws := wsL_sweep) B.pre
  have hown : s.vm.findClass RL = some m.cls := findClass_of_methodNamed B.named
  have hlocks := B.notSynchronized
  have hS : va_S (LB (e_B E)) s.heap s.heap [] := va_S.rf
  have htab := vx_table (x := yL_sweep) B (hts (.codeWith yL_sweep cL_sweep 4 (some .int) [(0, 9, 12, 13)]) List.mem_cons_self)
  have hl := lv_entry ([.ref (e_a E 0), .int x, .ref (e_a E 36)]) (n := 4) (Nat.le_of_ble_eq_true rfl)
  rw [lg_entry_eq]
  generalize (lg_sl ([.ref (e_a E 0), .int x, .ref (e_a E 36)]) ++ List.replicate (4 - (lg_sl ([.ref (e_a E 0), .int x, .ref (e_a E 36)])).length) Slot.unset).toArray = ls at hl ⊢
  have hl : lv_has ls 4 [(0, .ref (e_a E 0)), (1, .int x), (2, .ref (e_a E 36))] := hl
  refine lv_aload_n hx hb dL_sweep_0 rfl (lv_at hl 2 rfl) ?_
  refine lv_iconst (v := 0) hx hb dL_sweep_1 (by decide) ?_
  refine lv_aload_n hx hb dL_sweep_2 rfl (lv_at hl 0 rfl) ?_
  refine lv_iload_n hx hb dL_sweep_3 rfl (lv_at hl 1 rfl) ?_
  refine vx_calli (S := Mem) (SX := String) (vx_runV (As := [.int x]) (rest := [.int 0, .ref (e_a E 36)]) ⟨hx, hb, hml, hown, hts⟩ (mtX1_sweep l hl0 E hok σ o x N hN) (cwV 1 hts gL_sweep_X1_sweep rfl rfl rfl (by decide +kernel) ⟨Nat.le_of_ble_eq_true rfl, Nat.le_of_ble_eq_true rfl⟩) ⟨PW_blind, va_recv hK.K hP (ci := 1) (q0 := 0) rfl at_0, PW_pre hP hK hS⟩ rfl rfl hl.1 rfl (lv_room (Nat.le_of_ble_eq_true rfl)) dL_sweep_4 ⟨Nat.le_of_ble_eq_true rfl, Nat.le_of_ble_eq_true rfl⟩) hS (fun _ _ h => h) (fun _ h => h) (fun _ _ h => h) (fun X ce q9 u t H1 locs1 ht _ hu hB _ _ hS1 hcell hv9 hcl9 => ?_) (fun r σ1 t H1 locs1 ht _ hw hB _ _ hS1 => ?_)
  · obtain ⟨e9, hP1⟩ := hB
    subst e9
    rw [ht] at hP1
    have hu9 := hu
    rcases hu9 with ⟨rfl, -⟩
    · refine vx_catch (own := RL) (name := xIO) hown [] ⟨0, 9, 12, 13⟩ [] htab (fun z hz => nomatch hz) rfl (by decide) (hts (.classLink RL 13 xIO) (by decide +kernel)) (hK.c (by decide)) hcell hv9 hcl9 ?_
      refine lv_astore_n (lv' := [(3, .ref q9), (0, .ref (e_a E 0)), (1, .int x), (2, .ref (e_a E 36))]) hx hb dL_sweep_12 rfl hl (by decide) rfl (fun ls hl => ?_)
      refine lv_iconst (v := 1) hx hb dL_sweep_13 (by decide) ?_
      refine W.widen (k := 1) (n := 6) (Nat.le_of_ble_eq_true rfl) (Nat.le_of_ble_eq_true rfl) ?_
      exact r_b (z := (σ, o)) hx hb hr hlocks hP1 hS1 dL_sweep_14 (Or.inr ⟨_, hu, (by decide), rfl⟩)
  · have hP1 : va_P (e_D E) vwCl (wd E σ1 o) H1 := by rw [← ht]; exact hB
    refine lv_i2l (v := r.toInt64) hx hb dL_sweep_7 rfl ?_
    refine q_lst hx hb hok hK hP1 hS1 dL_sweep_8 (fun H2 locs2 hP2 hS2 => ?_)
    refine lv_goto (tgt := 15) hx hb dL_sweep_9 (by decide) ?_
    refine lv_iconst (v := 0) hx hb dL_sweep_15 (by decide) ?_
    refine W.widen (k := 1) (n := 6) (Nat.le_of_ble_eq_true rfl) (Nat.le_of_ble_eq_true rfl) ?_
    exact r_b (z := (σ1, vp_updL o 0 r.toInt64)) hx hb hr hlocks hP2 hS2 dL_sweep_16 (Or.inl ⟨rfl, r, hw, rfl⟩)
set_option maxHeartbeats 4000000 in
set_option maxRecDepth 100000 in
/-- heavier -/
theorem mtL_heavier (l : Launch) (hl0 : l.stackTraces = false) (E : Ev) (hok : e_ok E) (σ : Mem) (o : Nat → Int64) (x y : Int32) (N : Nat → Nat) (hN : okN σ N) : Met l yL_heavier wsL_heavier ({ frames := 8, cells := 2, slots := 12, locals := 140 } : Room) (PW E σ o [.ref (e_a E 0), .int x, .int y, .ref (e_a E 36)]) (va_Qi (WL (PX_heavier σ x y N) (XX_heavier σ x y N) cd1 Int32.toInt64 σ o) (BZ E) (LB (e_B E))) 2 12 (LB (e_B E)) := by
  refine va_MetW (cc := cL_heavier) (maxL := 5) (ret := (some .int)) (by decide) rfl ?_
  intro p e s m args below meth c s₁ B hml hPP
  obtain ⟨rfl, hP, hK⟩ := hPP
  have hx := B.exec
  have hb := B.bytes
  have hr := B.returns
  have hts := atoms_spec (ws := wsL_heavier) B.pre
  have hown : s.vm.findClass RL = some m.cls := findClass_of_methodNamed B.named
  have hlocks := B.notSynchronized
  have hS : va_S (LB (e_B E)) s.heap s.heap [] := va_S.rf
  have htab := vx_table (x := yL_heavier) B (hts (.codeWith yL_heavier cL_heavier 5 (some .int) [(0, 10, 13, 13)]) List.mem_cons_self)
  have hl := lv_entry ([.ref (e_a E 0), .int x, .int y, .ref (e_a E 36)]) (n := 5) (Nat.le_of_ble_eq_true rfl)
  rw [lg_entry_eq]
  generalize (lg_sl ([.ref (e_a E 0), .int x, .int y, .ref (e_a E 36)]) ++ List.replicate (5 - (lg_sl ([.ref (e_a E 0), .int x, .int y, .ref (e_a E 36)])).length) Slot.unset).toArray = ls at hl ⊢
  have hl : lv_has ls 5 [(0, .ref (e_a E 0)), (1, .int x), (2, .int y), (3, .ref (e_a E 36))] := hl
  refine lv_aload_n hx hb dL_heavier_0 rfl (lv_at hl 3 rfl) ?_
  refine lv_iconst (v := 0) hx hb dL_heavier_1 (by decide) ?_
  refine lv_aload_n hx hb dL_heavier_2 rfl (lv_at hl 0 rfl) ?_
  refine lv_iload_n hx hb dL_heavier_3 rfl (lv_at hl 1 rfl) ?_
  refine lv_iload_n hx hb dL_heavier_4 rfl (lv_at hl 2 rfl) ?_
  refine vx_calli (S := Mem) (SX := String) (vx_runV (As := [.int x, .int y]) (rest := [.int 0, .ref (e_a E 36)]) ⟨hx, hb, hml, hown, hts⟩ (mtX1_heavier l hl0 E hok σ o x y N hN) (cwV 2 hts gL_heavier_X1_heavier rfl rfl rfl (by decide +kernel) ⟨Nat.le_of_ble_eq_true rfl, Nat.le_of_ble_eq_true rfl⟩) ⟨PW_blind, va_recv hK.K hP (ci := 1) (q0 := 0) rfl at_0, PW_pre hP hK hS⟩ rfl rfl hl.1 rfl (lv_room (Nat.le_of_ble_eq_true rfl)) dL_heavier_5 ⟨Nat.le_of_ble_eq_true rfl, Nat.le_of_ble_eq_true rfl⟩) hS (fun _ _ h => h) (fun _ h => h) (fun _ _ h => h) (fun X ce q9 u t H1 locs1 ht _ hu hB _ _ hS1 hcell hv9 hcl9 => ?_) (fun r σ1 t H1 locs1 ht _ hw hB _ _ hS1 => ?_)
  · obtain ⟨e9, hP1⟩ := hB
    subst e9
    rw [ht] at hP1
    have hu9 := hu
    rcases hu9 with ⟨rfl, -⟩
    · refine vx_catch (own := RL) (name := xIO) hown [] ⟨0, 10, 13, 13⟩ [] htab (fun z hz => nomatch hz) rfl (by decide) (hts (.classLink RL 13 xIO) (by decide +kernel)) (hK.c (by decide)) hcell hv9 hcl9 ?_
      refine lv_astore (lv' := [(4, .ref q9), (0, .ref (e_a E 0)), (1, .int x), (2, .int y), (3, .ref (e_a E 36))]) hx hb dL_heavier_13 hl (by decide) rfl (fun ls hl => ?_)
      refine lv_iconst (v := 1) hx hb dL_heavier_15 (by decide) ?_
      refine W.widen (k := 2) (n := 12) (Nat.le_of_ble_eq_true rfl) (Nat.le_of_ble_eq_true rfl) ?_
      exact r_b (z := (σ, o)) hx hb hr hlocks hP1 hS1 dL_heavier_16 (Or.inr ⟨_, hu, (by decide), rfl⟩)
  · have hP1 : va_P (e_D E) vwCl (wd E σ1 o) H1 := by rw [← ht]; exact hB
    refine lv_i2l (v := r.toInt64) hx hb dL_heavier_8 rfl ?_
    refine q_lst hx hb hok hK hP1 hS1 dL_heavier_9 (fun H2 locs2 hP2 hS2 => ?_)
    refine lv_goto (tgt := 17) hx hb dL_heavier_10 (by decide) ?_
    refine lv_iconst (v := 0) hx hb dL_heavier_17 (by decide) ?_
    refine W.widen (k := 2) (n := 12) (Nat.le_of_ble_eq_true rfl) (Nat.le_of_ble_eq_true rfl) ?_
    exact r_b (z := (σ1, vp_updL o 0 r.toInt64)) hx hb hr hlocks hP2 hS2 dL_heavier_18 (Or.inl ⟨rfl, r, hw, rfl⟩)
set_option maxHeartbeats 4000000 in
set_option maxRecDepth 100000 in
/-- alike -/
theorem mtL_alike (l : Launch) (hl0 : l.stackTraces = false) (E : Ev) (hok : e_ok E) (σ : Mem) (o : Nat → Int64) (x y : Int32) (N : Nat → Nat) (hN : okN σ N) : Met l yL_alike wsL_alike ({ frames := 8, cells := 2, slots := 12, locals := 140 } : Room) (PW E σ o [.ref (e_a E 0), .int x, .int y, .ref (e_a E 36)]) (va_Qi (WL (PX_alike σ x y N) (XX_alike σ x y N) cd1 Int32.toInt64 σ o) (BZ E) (LB (e_B E))) 2 12 (LB (e_B E)) := by
  refine va_MetW (cc := cL_alike) (maxL := 5) (ret := (some .int)) (by decide) rfl ?_
  intro p e s m args below meth c s₁ B hml hPP
  obtain ⟨rfl, hP, hK⟩ := hPP
  have hx := B.exec
  have hb := B.bytes
  have hr := B.returns
  have hts := atoms_spec (ws := wsL_alike) B.pre
  have hown : s.vm.findClass RL = some m.cls := findClass_of_methodNamed B.named
  have hlocks := B.notSynchronized
  have hS : va_S (LB (e_B E)) s.heap s.heap [] := va_S.rf
  have htab := vx_table (x := yL_alike) B (hts (.codeWith yL_alike cL_alike 5 (some .int) [(0, 10, 13, 13)]) List.mem_cons_self)
  have hl := lv_entry ([.ref (e_a E 0), .int x, .int y, .ref (e_a E 36)]) (n := 5) (Nat.le_of_ble_eq_true rfl)
  rw [lg_entry_eq]
  generalize (lg_sl ([.ref (e_a E 0), .int x, .int y, .ref (e_a E 36)]) ++ List.replicate (5 - (lg_sl ([.ref (e_a E 0), .int x, .int y, .ref (e_a E 36)])).length) Slot.unset).toArray = ls at hl ⊢
  have hl : lv_has ls 5 [(0, .ref (e_a E 0)), (1, .int x), (2, .int y), (3, .ref (e_a E 36))] := hl
  refine lv_aload_n hx hb dL_alike_0 rfl (lv_at hl 3 rfl) ?_
  refine lv_iconst (v := 0) hx hb dL_alike_1 (by decide) ?_
  refine lv_aload_n hx hb dL_alike_2 rfl (lv_at hl 0 rfl) ?_
  refine lv_iload_n hx hb dL_alike_3 rfl (lv_at hl 1 rfl) ?_
  refine lv_iload_n hx hb dL_alike_4 rfl (lv_at hl 2 rfl) ?_
  refine vx_calli (S := Mem) (SX := String) (vx_runV (As := [.int x, .int y]) (rest := [.int 0, .ref (e_a E 36)]) ⟨hx, hb, hml, hown, hts⟩ (mtX1_alike l hl0 E hok σ o x y N hN) (cwV 2 hts gL_alike_X1_alike rfl rfl rfl (by decide +kernel) ⟨Nat.le_of_ble_eq_true rfl, Nat.le_of_ble_eq_true rfl⟩) ⟨PW_blind, va_recv hK.K hP (ci := 1) (q0 := 0) rfl at_0, PW_pre hP hK hS⟩ rfl rfl hl.1 rfl (lv_room (Nat.le_of_ble_eq_true rfl)) dL_alike_5 ⟨Nat.le_of_ble_eq_true rfl, Nat.le_of_ble_eq_true rfl⟩) hS (fun _ _ h => h) (fun _ h => h) (fun _ _ h => h) (fun X ce q9 u t H1 locs1 ht _ hu hB _ _ hS1 hcell hv9 hcl9 => ?_) (fun r σ1 t H1 locs1 ht _ hw hB _ _ hS1 => ?_)
  · obtain ⟨e9, hP1⟩ := hB
    subst e9
    rw [ht] at hP1
    have hu9 := hu
    rcases hu9 with ⟨rfl, -⟩
    · refine vx_catch (own := RL) (name := xIO) hown [] ⟨0, 10, 13, 13⟩ [] htab (fun z hz => nomatch hz) rfl (by decide) (hts (.classLink RL 13 xIO) (by decide +kernel)) (hK.c (by decide)) hcell hv9 hcl9 ?_
      refine lv_astore (lv' := [(4, .ref q9), (0, .ref (e_a E 0)), (1, .int x), (2, .int y), (3, .ref (e_a E 36))]) hx hb dL_alike_13 hl (by decide) rfl (fun ls hl => ?_)
      refine lv_iconst (v := 1) hx hb dL_alike_15 (by decide) ?_
      refine W.widen (k := 2) (n := 12) (Nat.le_of_ble_eq_true rfl) (Nat.le_of_ble_eq_true rfl) ?_
      exact r_b (z := (σ, o)) hx hb hr hlocks hP1 hS1 dL_alike_16 (Or.inr ⟨_, hu, (by decide), rfl⟩)
  · have hP1 : va_P (e_D E) vwCl (wd E σ1 o) H1 := by rw [← ht]; exact hB
    refine lv_i2l (v := r.toInt64) hx hb dL_alike_8 rfl ?_
    refine q_lst hx hb hok hK hP1 hS1 dL_alike_9 (fun H2 locs2 hP2 hS2 => ?_)
    refine lv_goto (tgt := 17) hx hb dL_alike_10 (by decide) ?_
    refine lv_iconst (v := 0) hx hb dL_alike_17 (by decide) ?_
    refine W.widen (k := 2) (n := 12) (Nat.le_of_ble_eq_true rfl) (Nat.le_of_ble_eq_true rfl) ?_
    exact r_b (z := (σ1, vp_updL o 0 r.toInt64)) hx hb hr hlocks hP2 hS2 dL_alike_18 (Or.inl ⟨rfl, r, hw, rfl⟩)
set_option maxHeartbeats 4000000 in
set_option maxRecDepth 100000 in
/-- gauge -/
theorem mtL_gauge (l : Launch) (hl0 : l.stackTraces = false) (E : Ev) (hok : e_ok E) (σ : Mem) (o : Nat → Int64) (v : Int32) : Met l yL_gauge wsL_gauge ({ frames := 8, cells := 1, slots := 6, locals := 140 } : Room) (PW E σ o [.ref (e_a E 0), .int v, .ref (e_a E 36)]) (va_Qi (WL (PX_gauge σ v) (XX_gauge σ v) cd1 Int32.toInt64 σ o) (BZ E) (LB (e_B E))) 1 6 (LB (e_B E)) := by
  refine va_MetW (cc := cL_gauge) (maxL := 4) (ret := (some .int)) (by decide) rfl ?_
  intro p e s m args below meth c s₁ B hml hPP
  obtain ⟨rfl, hP, hK⟩ := hPP
  have hx := B.exec
  have hb := B.bytes
  have hr := B.returns
  have hts := atoms_spec (ws := wsL_gauge) B.pre
  have hown : s.vm.findClass RL = some m.cls := findClass_of_methodNamed B.named
  have hlocks := B.notSynchronized
  have hS : va_S (LB (e_B E)) s.heap s.heap [] := va_S.rf
  have htab := vx_table (x := yL_gauge) B (hts (.codeWith yL_gauge cL_gauge 4 (some .int) [(0, 9, 12, 15)]) List.mem_cons_self)
  have hl := lv_entry ([.ref (e_a E 0), .int v, .ref (e_a E 36)]) (n := 4) (Nat.le_of_ble_eq_true rfl)
  rw [lg_entry_eq]
  generalize (lg_sl ([.ref (e_a E 0), .int v, .ref (e_a E 36)]) ++ List.replicate (4 - (lg_sl ([.ref (e_a E 0), .int v, .ref (e_a E 36)])).length) Slot.unset).toArray = ls at hl ⊢
  have hl : lv_has ls 4 [(0, .ref (e_a E 0)), (1, .int v), (2, .ref (e_a E 36))] := hl
  refine lv_aload_n hx hb dL_gauge_0 rfl (lv_at hl 2 rfl) ?_
  refine lv_iconst (v := 0) hx hb dL_gauge_1 (by decide) ?_
  refine lv_aload_n hx hb dL_gauge_2 rfl (lv_at hl 0 rfl) ?_
  refine lv_iload_n hx hb dL_gauge_3 rfl (lv_at hl 1 rfl) ?_
  refine vx_calli (S := Mem) (SX := String) (vx_runV (As := [.int v]) (rest := [.int 0, .ref (e_a E 36)]) ⟨hx, hb, hml, hown, hts⟩ (mtX1_gauge l hl0 E hok σ o v) (cwV 1 hts gL_gauge_X1_gauge rfl rfl rfl (by decide +kernel) ⟨Nat.le_of_ble_eq_true rfl, Nat.le_of_ble_eq_true rfl⟩) ⟨PW_blind, va_recv hK.K hP (ci := 1) (q0 := 0) rfl at_0, PW_pre hP hK hS⟩ rfl rfl hl.1 rfl (lv_room (Nat.le_of_ble_eq_true rfl)) dL_gauge_4 ⟨Nat.le_of_ble_eq_true rfl, Nat.le_of_ble_eq_true rfl⟩) hS (fun _ _ h => h) (fun _ h => h) (fun _ _ h => h) (fun X ce q9 u t H1 locs1 ht _ hu hB _ _ hS1 hcell hv9 hcl9 => ?_) (fun r σ1 t H1 locs1 ht _ hw hB _ _ hS1 => ?_)
  · obtain ⟨e9, hP1⟩ := hB
    subst e9
    rw [ht] at hP1
    have hu9 := hu
    rcases hu9 with ⟨rfl, -⟩
    · refine vx_catch (own := RL) (name := xIA) hown [] ⟨0, 9, 12, 15⟩ [] htab (fun z hz => nomatch hz) rfl (by decide) (hts (.classLink RL 15 xIA) (by decide +kernel)) (hK.c (by decide)) hcell hv9 hcl9 ?_
      refine lv_astore_n (lv' := [(3, .ref q9), (0, .ref (e_a E 0)), (1, .int v), (2, .ref (e_a E 36))]) hx hb dL_gauge_12 rfl hl (by decide) rfl (fun ls hl => ?_)
      refine lv_iconst (v := 1) hx hb dL_gauge_13 (by decide) ?_
      refine W.widen (k := 1) (n := 6) (Nat.le_of_ble_eq_true rfl) (Nat.le_of_ble_eq_true rfl) ?_
      exact r_b (z := (σ, o)) hx hb hr hlocks hP1 hS1 dL_gauge_14 (Or.inr ⟨_, hu, (by decide), rfl⟩)
  · have hP1 : va_P (e_D E) vwCl (wd E σ1 o) H1 := by rw [← ht]; exact hB
    refine lv_i2l (v := r.toInt64) hx hb dL_gauge_7 rfl ?_
    refine q_lst hx hb hok hK hP1 hS1 dL_gauge_8 (fun H2 locs2 hP2 hS2 => ?_)
    refine lv_goto (tgt := 15) hx hb dL_gauge_9 (by decide) ?_
    refine lv_iconst (v := 0) hx hb dL_gauge_15 (by decide) ?_
    refine W.widen (k := 1) (n := 6) (Nat.le_of_ble_eq_true rfl) (Nat.le_of_ble_eq_true rfl) ?_
    exact r_b (z := (σ1, vp_updL o 0 r.toInt64)) hx hb hr hlocks hP2 hS2 dL_gauge_16 (Or.inl ⟨rfl, r, hw, rfl⟩)

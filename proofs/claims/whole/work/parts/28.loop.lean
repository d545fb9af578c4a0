/-! THE LAW'S LOOP -/
theorem and15 (x : Int32) : ∃ k, k < 16 ∧ x &&& 15 = nI k := by
  have e : x = nI x.toBitVec.toNat := by
    apply Int32.toBitVec_inj.1
    show x.toBitVec = BitVec.ofNat 32 x.toBitVec.toNat
    simp
  have key : ∀ k : Nat, nI k &&& 15 = nI (k % 16) := fun k => by
    apply Int32.toBitVec_inj.1
    show BitVec.ofNat 32 k &&& BitVec.ofNat 32 15 = BitVec.ofNat 32 (k % 16)
    rw [show k % 16 = k &&& 15 by rw [show (15 : Nat) = 2 ^ 4 - 1 from rfl, Nat.and_two_pow_sub_one_eq_mod]]
    apply BitVec.eq_of_getLsbD_eq
    intro i hi
    simp [hi]
  refine ⟨x.toBitVec.toNat % 16, Nat.mod_lt _ (by omega), ?_⟩
  rw [← key, ← e]
theorem le_of_sub {L i : Nat} (hL : L ≤ 2560) (hi : i ≤ 2600) (h : ¬ Int32.ofNat L - 5 < nI i) : i + 5 ≤ L := by
  by_cases h5 : 5 ≤ L
  · obtain ⟨k, rfl⟩ : ∃ k, L = k + 5 := ⟨L - 5, by omega⟩
    have e : Int32.ofNat (k + 5) - 5 = nI k := by
      show nI (k + 5) - 5 = nI k
      rw [← nI_add k 5]
      show nI k + 5 - 5 = nI k
      rw [Int32.add_sub_cancel]
    rw [e, nI_ltI (by omega) (by omega)] at h
    omega
  · exfalso
    have h0 : Int32.ofNat L - 5 < 0 := by
      rcases (show L = 0 ∨ L = 1 ∨ L = 2 ∨ L = 3 ∨ L = 4 by omega) with rfl | rfl | rfl | rfl | rfl <;> decide
    have h1 : 0 ≤ nI i := nI_pos' (by omega)
    apply h
    rw [Int32.lt_iff_toInt_lt] at h0 ⊢
    rw [Int32.le_iff_toInt_le] at h1
    omega
set_option maxHeartbeats 4000000 in
set_option maxRecDepth 100000 in
theorem law_step {p : Program} {l : Launch} {e : Env} {s : State} {m : MethodId} {below : List Frame} {meth : Method} {c : Code} {b L : Nat} {xs : Nat → Int32} {Q : State → Prop} (F : LF p s m c b L xs) (hl0 : l.stackTraces = false) {E : Ev} (hok : e_ok E) (hB : e_B E = s.heap.size) (hK : KN E s) (hL : L ≤ 2560) {c0 s0 : Nat} (hc0 : c0 + 2600 ≤ 633918) (hs0 : s0 + 15600 ≤ 7194350)
    (fin : ∀ (H : Heap) (locs : List Loc) (ls : Array Slot) (cells slots : Nat), va_S (LB (e_B E)) s.heap H locs → cells ≤ 633918 → slots ≤ 7194350 → W p l e room_1 s m #[Value.ref b] below meth c H locs cells slots Q (F0 m 1245 ls []))
    {T : Nat} (hT : T ≤ 513) {σ : Mem} {o : Nat → Int64} {H : Heap} {locs : List Loc} {ls : Array Slot} (I : Inv σ σ T) (hP : va_P (e_D E) vwCl (wd E σ o) H) (hS : va_S (LB (e_B E)) s.heap H locs) (hl : lv_has ls 7 (lvL E b (5 * T)))
    (next : T ≤ 511 → ∀ (σ' : Mem) (o' : Nat → Int64) (H' : Heap) (locs' : List Loc) (ls' : Array Slot), Inv σ' σ' (T + 1) → va_P (e_D E) vwCl (wd E σ' o') H' → va_S (LB (e_B E)) s.heap H' locs' → lv_has ls' 7 (lvL E b (5 * (T + 1))) → W p l e room_1 s m #[Value.ref b] below meth c H' locs' (c0 + 5 * (T + 1)) (s0 + 30 * (T + 1)) Q (F0 m 23 ls' [])) :
    W p l e room_1 s m #[Value.ref b] below meth c H locs (c0 + 5 * T) (s0 + 30 * T) Q (F0 m 23 ls []) := by
  have F0' := F
  obtain ⟨hx, hb, hml, hown, hts, hX, hbl⟩ := F0'
  have hbA : ¬ LB (e_B E) b := by rw [hB]; exact Nat.not_le.mpr hbl
  refine lv_iload hx hb dL_law_23 (lv_at hl 0 rfl) ?_
  refine lv_aload_n hx hb dL_law_25 rfl (lv_at hl 1 rfl) ?_
  refine va_slen hx hb hX hbl hbA hS dL_law_26 ?_
  refine lv_iconst (v := 5) hx hb dL_law_27 (by decide) ?_
  refine lv_isub hx hb dL_law_28 ?_
  refine lv_icmp_gt (tgt := 1245) hx hb dL_law_29 (by decide) (fun _ => fin H locs ls _ _ hS (by omega) (by omega)) (fun h => ?_)
  have hi : 5 * T + 5 ≤ L := le_of_sub hL (by omega) h
  refine lv_aload_n hx hb dL_law_32 rfl (lv_at hl 1 rfl) ?_
  refine lv_iload hx hb dL_law_33 (lv_at hl 0 rfl) ?_
  refine va_sld hx hb hX hbl hbA hS (vp_in_nI (show 5 * T < L by omega) (by omega)) dL_law_35 ?_
  rw [nI_clamp (by omega)]
  refine lv_bipush (v := 15) hx hb dL_law_36 (by decide) ?_
  refine lv_iand hx hb dL_law_38 ?_
  obtain ⟨j, hj, ej⟩ := and15 (xs (5 * T))
  rw [ej]
  have kk : LK p l e s m below meth c b Q E T (5 * T) (c0 + 5 * T) (s0 + 30 * T) := fun σ' o' H' locs' ls' I' hP' hS' hl' => by
    refine lv_iinc (lv' := lvL E b (5 * T + 5)) (v := nI (5 * T + 5)) (k := 0) hx hb dL_law_1239 hl' rfl (nI_add (5 * T) 5) (by decide) rfl (fun ls hl => ?_)
    refine lv_goto (tgt := 23) hx hb dL_law_1242 (by decide) ?_
    rw [show c0 + 5 * T + 5 = c0 + 5 * (T + 1) by omega, show s0 + 30 * T + 30 = s0 + 30 * (T + 1) by omega]
    exact next (by omega) σ' o' H' locs' ls I' hP' hS' hl
  have h1 : c0 + 5 * T + 5 ≤ 633918 := by omega
  have h2 : s0 + 30 * T + 30 ≤ 7194350 := by omega
  have h3 : T ≤ 512 := by omega
  rcases (show j = 0 ∨ j = 1 ∨ j = 2 ∨ j = 3 ∨ j = 4 ∨ j = 5 ∨ j = 6 ∨ j = 7 ∨ j = 8 ∨ j = 9 ∨ j = 10 ∨ j = 11 ∨ j = 12 ∨ j = 13 ∨ j = 14 ∨ j = 15 by omega) with rfl | rfl | rfl | rfl | rfl | rfl | rfl | rfl | rfl | rfl | rfl | rfl | rfl | rfl | rfl | rfl
  · exact lv_tableIn (off := 77) (tgt := 116) hx hb dL_law_39 (by decide) (by decide) rfl (by decide) (law_sort F hl0 hok hB hK h3 hi hL I hP hS hl h1 h2 kk)
  · exact lv_tableIn (off := 145) (tgt := 184) hx hb dL_law_39 (by decide) (by decide) rfl (by decide) (law_limits F hl0 hok hB hK h3 hi hL I hP hS hl h1 h2 kk)
  · exact lv_tableIn (off := 237) (tgt := 276) hx hb dL_law_39 (by decide) (by decide) rfl (by decide) (law_shut F hl0 hok hB hK h3 hi hL I hP hS hl h1 h2 kk)
  · exact lv_tableIn (off := 328) (tgt := 367) hx hb dL_law_39 (by decide) (by decide) rfl (by decide) (law_send F hl0 hok hB hK h3 hi hL I hP hS hl h1 h2 kk)
  · exact lv_tableIn (off := 396) (tgt := 435) hx hb dL_law_39 (by decide) (by decide) rfl (by decide) (law_fits F hl0 hok hB hK h3 hi hL I hP hS hl h1 h2 kk)
  · exact lv_tableIn (off := 464) (tgt := 503) hx hb dL_law_39 (by decide) (by decide) rfl (by decide) (law_signs F hl0 hok hB hK h3 hi hL I hP hS hl h1 h2 kk)
  · exact lv_tableIn (off := 544) (tgt := 583) hx hb dL_law_39 (by decide) (by decide) rfl (by decide) (law_chute F hl0 hok hB hK h3 hi hL I hP hS hl h1 h2 kk)
  · exact lv_tableIn (off := 612) (tgt := 651) hx hb dL_law_39 (by decide) (by decide) rfl (by decide) (law_weight F hl0 hok hB hK h3 hi hL I hP hS hl h1 h2 kk)
  · exact lv_tableIn (off := 680) (tgt := 719) hx hb dL_law_39 (by decide) (by decide) rfl (by decide) (law_girth F hl0 hok hB hK h3 hi hL I hP hS hl h1 h2 kk)
  · exact lv_tableIn (off := 748) (tgt := 787) hx hb dL_law_39 (by decide) (by decide) rfl (by decide) (law_below F hl0 hok hB hK h3 hi hL I hP hS hl h1 h2 kk)
  · exact lv_tableIn (off := 816) (tgt := 855) hx hb dL_law_39 (by decide) (by decide) rfl (by decide) (law_take F hl0 hok hB hK h3 hi hL I hP hS hl h1 h2 kk)
  · exact lv_tableIn (off := 884) (tgt := 923) hx hb dL_law_39 (by decide) (by decide) rfl (by decide) (law_pour F hl0 hok hB hK h3 hi hL I hP hS hl h1 h2 kk)
  · exact lv_tableIn (off := 952) (tgt := 991) hx hb dL_law_39 (by decide) (by decide) rfl (by decide) (law_sweep F hl0 hok hB hK h3 hi hL I hP hS hl h1 h2 kk)
  · exact lv_tableIn (off := 1008) (tgt := 1047) hx hb dL_law_39 (by decide) (by decide) rfl (by decide) (law_heavier F hl0 hok hB hK h3 hi hL I hP hS hl h1 h2 kk)
  · exact lv_tableIn (off := 1076) (tgt := 1115) hx hb dL_law_39 (by decide) (by decide) rfl (by decide) (law_alike F hl0 hok hB hK h3 hi hL I hP hS hl h1 h2 kk)
  · exact lv_tableIn (off := 1144) (tgt := 1183) hx hb dL_law_39 (by decide) (by decide) rfl (by decide) (law_gauge F hl0 hok hB hK h3 hi hL I hP hS hl h1 h2 kk)
theorem law_loop {p : Program} {l : Launch} {e : Env} {s : State} {m : MethodId} {below : List Frame} {meth : Method} {c : Code} {b L : Nat} {xs : Nat → Int32} {Q : State → Prop} (F : LF p s m c b L xs) (hl0 : l.stackTraces = false) {E : Ev} (hok : e_ok E) (hB : e_B E = s.heap.size) (hK : KN E s) (hL : L ≤ 2560) {c0 s0 : Nat} (hc0 : c0 + 2600 ≤ 633918) (hs0 : s0 + 15600 ≤ 7194350)
    (fin : ∀ (H : Heap) (locs : List Loc) (ls : Array Slot) (cells slots : Nat), va_S (LB (e_B E)) s.heap H locs → cells ≤ 633918 → slots ≤ 7194350 → W p l e room_1 s m #[Value.ref b] below meth c H locs cells slots Q (F0 m 1245 ls [])) :
    ∀ (n T : Nat) (σ : Mem) (o : Nat → Int64) (H : Heap) (locs : List Loc) (ls : Array Slot), T + n = 513 → Inv σ σ T → va_P (e_D E) vwCl (wd E σ o) H → va_S (LB (e_B E)) s.heap H locs → lv_has ls 7 (lvL E b (5 * T)) → W p l e room_1 s m #[Value.ref b] below meth c H locs (c0 + 5 * T) (s0 + 30 * T) Q (F0 m 23 ls []) := by
  intro n
  induction n with
  | zero =>
    intro T σ o H locs ls hn I hP hS hl
    exact law_step F hl0 hok hB hK hL hc0 hs0 fin (by omega) I hP hS hl (fun h => absurd h (by omega))
  | succ n ih =>
    intro T σ o H locs ls hn I hP hS hl
    exact law_step F hl0 hok hB hK hL hc0 hs0 fin (by omega) I hP hS hl (fun _ σ' o' H' locs' ls' I' hP' hS' hl' => ih (T + 1) σ' o' H' locs' ls' (by omega) I' hP' hS' hl')
/-- what is born -/
def mem0 (r : Nat → Int32) : Mem := fun j => if j = 27 then r else fun _ => 0
theorem inv0 {r : Nat → Int32} (hr : ∀ j, j < 96 → r j = -1) : Inv (mem0 r) (mem0 r) 0 := by
  refine ⟨fun _ _ => 0, fun _ => 0, 0, ⟨fun c hc => ⟨?_, Nat.zero_le _, fun i j _ hj => absurd hj (Nat.not_lt_zero _)⟩, fun p hp => Or.inl (hr p hp)⟩, rfl, by omega, fun c hc => ?_, ?_, fun c hc => Or.inl rfl⟩
  · refine ⟨fun j hj => absurd hj (Nat.not_lt_zero _), fun p hp h => ?_, fun i j hi => absurd hi (Nat.not_lt_zero _)⟩
    exfalso
    have h9 : r p = nI c := h
    rw [hr p hp] at h9
    exact ch_m1 hc h9
  · have n1 : c + 2 ≠ 27 := by omega
    have n2 : c + 10 ≠ 27 := by omega
    refine ⟨?_, fun i hi => absurd hi (Nat.not_lt_zero _), ?_, ?_, ?_, ?_, ?_⟩ <;> (unfold mem0; rw [if_neg n1]; rfl)
  · exact ⟨rfl, rfl, rfl, rfl, rfl, rfl, rfl, rfl, rfl, Int.le_refl _, Int.le_refl _, Int.le_refl _, 0, by omega, rfl, fun _ => rfl⟩

/-! THE MEMORY: 37 cells, each a row of Int32; the objects' references never change -/
abbrev Mem : Type := Nat → Nat → Int32
def m_up (σ : Mem) (j i : Nat) (v : Int32) : Mem := fun a => if a = j then upd (σ a) i v else σ a
theorem m_up_row (σ : Mem) (j i : Nat) (v : Int32) : m_up σ j i v j = upd (σ j) i v := by simp [m_up]
theorem m_up_ne (σ : Mem) {j a : Nat} (i : Nat) (v : Int32) (h : a ≠ j) : m_up σ j i v a = σ a := by simp [m_up, h]
theorem m_up_get (σ : Mem) (j i : Nat) (v : Int32) (a b : Nat) : m_up σ j i v a b = if a = j ∧ b = i then v else σ a b := by
  by_cases h : a = j
  · subst h
    by_cases h2 : b = i <;> simp [m_up, upd, h2]
  · simp [m_up, h]
/-- what is fixed over a run: the classes' slots, the bound below which nothing changes, the cells' addresses, the array classes, the texts' addresses -/
abbrev Ev : Type := va_G × Nat × (Nat → Nat) × (Nat → ClassId) × (Nat → Nat)
abbrev e_D (E : Ev) : va_G := E.1
abbrev e_B (E : Ev) : Nat := E.2.1
abbrev e_a (E : Ev) : Nat → Nat := E.2.2.1
abbrev e_c (E : Ev) : Nat → ClassId := E.2.2.2.1
abbrev e_s (E : Ev) : Nat → Nat := E.2.2.2.2
abbrev e_t (E : Ev) : List (ClassId × FieldType) := [(e_c E 0, .int), (e_c E 1, .boolean), (e_c E 2, .long), (e_c E 3, .object "ParcelChutes$Chute")]
def w_cell (E : Ev) (r : Nat → Int32) (o : Nat → Int64) (j : Nat) : va_E :=
  if j = 0 then .inr (1, [.ref (e_a E 1), .int (r 1), .int (r 2), .int (r 3), .int (r 4), .int (r 5), .int (r 6), .int (r 7), .int (r 8), .int (r 9)])
  else if j = 1 then .inl (e_c E 3, 8, .inr (.inr (.inr (.inr (fun k => some (e_a E (k + 2)))))))
  else if j < 10 then .inr (0, [.ref (e_a E (j + 8)), .ref (e_a E (j + 16)), .int (r 2), .int (r 3), .int (r 4), .int (r 5), .int (r 6), .int (r 7)])
  else if j < 26 then .inl (e_c E 0, 12, .inl r)
  else if j = 26 then .inr (2, [.int (r 0), .ref (e_a E 27), .ref (e_a E 28), .ref (e_a E 29), .ref (e_a E 30), .int (r 5), .ref (e_a E 31), .ref (e_a E 32), .ref (e_a E 33), .ref (e_a E 34), .ref (e_a E 35), .int (r 11), .int (r 12), .int (r 13), .int (r 14), .int (r 15), .int (r 16), .int (r 17), .int (r 18), .int (r 19)])
  else if j < 31 then .inl (e_c E 0, 96, .inl r)
  else if j < 35 then .inl (e_c E 0, 8, .inl r)
  else if j = 35 then .inl (e_c E 1, 8, .inl r)
  else .inl (e_c E 2, 1, .inr (.inl o))
def wd (E : Ev) (σ : Mem) (o : Nat → Int64) : va_W := (List.range 37).map (fun j => (e_a E j, w_cell E (σ j) o j))
theorem wd_at {E : Ev} {σ : Mem} {o : Nat → Int64} {j : Nat} (hj : j < 37) : (wd E σ o)[j]? = some (e_a E j, w_cell E (σ j) o j) := by simp [wd, hj]
theorem wd_ofat {E : Ev} {σ : Mem} {o : Nat → Int64} {j : Nat} {q : Nat × va_E} (h : (wd E σ o)[j]? = some q) : j < 37 ∧ q = (e_a E j, w_cell E (σ j) o j) := by
  have hj : j < 37 := by
    have := (List.getElem?_eq_some_iff.mp h).1
    simpa [wd] using this
  exact ⟨hj, (Option.some.inj ((wd_at hj).symm.trans h)).symm⟩
theorem wd_set {E : Ev} {σ σ' : Mem} {o o' : Nat → Int64} {j : Nat} {e : va_E} (hj : j < 37) (h : e = w_cell E (σ' j) o' j) (hn : ∀ i, i ≠ j → i < 37 → w_cell E (σ' i) o' i = w_cell E (σ i) o i) : (wd E σ o).set j (e_a E j, e) = wd E σ' o' := by
  apply List.ext_getElem?
  intro i
  rw [List.getElem?_set]
  by_cases hi : j = i
  · subst hi
    have hl : j < (wd E σ o).length := by simp [wd, hj]
    rw [if_pos rfl, if_pos hl, wd_at hj, h]
  · rw [if_neg hi]
    by_cases hi2 : i < 37
    · rw [wd_at hi2, wd_at hi2, hn i (fun z => hi z.symm) hi2]
    · rw [List.getElem?_eq_none (by simp [wd]; omega), List.getElem?_eq_none (by simp [wd]; omega)]
theorem wd_put {E : Ev} {σ : Mem} {o : Nat → Int64} {j i : Nat} {v : Int32} {e : va_E} (hj : j < 37) (h : e = w_cell E (upd (σ j) i v) o j) : (wd E σ o).set j (e_a E j, e) = wd E (m_up σ j i v) o :=
  wd_set hj (by rw [m_up_row]; exact h) (fun a ha _ => by rw [m_up_ne σ i v ha])
theorem at_0 {E : Ev} {σ : Mem} {o : Nat → Int64} : (wd E σ o)[0]? = some (e_a E 0, .inr (1, [.ref (e_a E 1), .int (σ 0 1), .int (σ 0 2), .int (σ 0 3), .int (σ 0 4), .int (σ 0 5), .int (σ 0 6), .int (σ 0 7), .int (σ 0 8), .int (σ 0 9)])) := wd_at (by decide)
theorem at_1 {E : Ev} {σ : Mem} {o : Nat → Int64} : (wd E σ o)[1]? = some (e_a E 1, .inl (e_c E 3, 8, .inr (.inr (.inr (.inr (fun k => some (e_a E (k + 2)))))))) := wd_at (by decide)
theorem at_ch {E : Ev} {σ : Mem} {o : Nat → Int64} {k : Nat} (hk : k < 8) : (wd E σ o)[k + 2]? = some (e_a E (k + 2), .inr (0, [.ref (e_a E (k + 10)), .ref (e_a E (k + 18)), .int (σ (k + 2) 2), .int (σ (k + 2) 3), .int (σ (k + 2) 4), .int (σ (k + 2) 5), .int (σ (k + 2) 6), .int (σ (k + 2) 7)])) := by
  rw [wd_at (by omega)]
  have h3 : k + 2 < 10 := by omega
  simp [w_cell, h3]
theorem at_wt {E : Ev} {σ : Mem} {o : Nat → Int64} {k : Nat} (hk : k < 8) : (wd E σ o)[k + 10]? = some (e_a E (k + 10), .inl (e_c E 0, 12, .inl (σ (k + 10)))) := by
  rw [wd_at (by omega)]
  have h3 : ¬ k + 10 < 10 := by omega
  have h4 : k + 10 < 26 := by omega
  simp [w_cell, h4]
theorem at_gi {E : Ev} {σ : Mem} {o : Nat → Int64} {k : Nat} (hk : k < 8) : (wd E σ o)[k + 18]? = some (e_a E (k + 18), .inl (e_c E 0, 12, .inl (σ (k + 18)))) := by
  rw [wd_at (by omega)]
  have h3 : ¬ k + 18 < 10 := by omega
  have h4 : k + 18 < 26 := by omega
  simp [w_cell, h3, h4]
theorem at_26 {E : Ev} {σ : Mem} {o : Nat → Int64} : (wd E σ o)[26]? = some (e_a E 26, .inr (2, [.int (σ 26 0), .ref (e_a E 27), .ref (e_a E 28), .ref (e_a E 29), .ref (e_a E 30), .int (σ 26 5), .ref (e_a E 31), .ref (e_a E 32), .ref (e_a E 33), .ref (e_a E 34), .ref (e_a E 35), .int (σ 26 11), .int (σ 26 12), .int (σ 26 13), .int (σ 26 14), .int (σ 26 15), .int (σ 26 16), .int (σ 26 17), .int (σ 26 18), .int (σ 26 19)])) := wd_at (by decide)
theorem at_27 {E : Ev} {σ : Mem} {o : Nat → Int64} : (wd E σ o)[27]? = some (e_a E 27, .inl (e_c E 0, 96, .inl (σ 27))) := wd_at (by decide)
theorem at_28 {E : Ev} {σ : Mem} {o : Nat → Int64} : (wd E σ o)[28]? = some (e_a E 28, .inl (e_c E 0, 96, .inl (σ 28))) := wd_at (by decide)
theorem at_29 {E : Ev} {σ : Mem} {o : Nat → Int64} : (wd E σ o)[29]? = some (e_a E 29, .inl (e_c E 0, 96, .inl (σ 29))) := wd_at (by decide)
theorem at_30 {E : Ev} {σ : Mem} {o : Nat → Int64} : (wd E σ o)[30]? = some (e_a E 30, .inl (e_c E 0, 96, .inl (σ 30))) := wd_at (by decide)
theorem at_31 {E : Ev} {σ : Mem} {o : Nat → Int64} : (wd E σ o)[31]? = some (e_a E 31, .inl (e_c E 0, 8, .inl (σ 31))) := wd_at (by decide)
theorem at_32 {E : Ev} {σ : Mem} {o : Nat → Int64} : (wd E σ o)[32]? = some (e_a E 32, .inl (e_c E 0, 8, .inl (σ 32))) := wd_at (by decide)
theorem at_33 {E : Ev} {σ : Mem} {o : Nat → Int64} : (wd E σ o)[33]? = some (e_a E 33, .inl (e_c E 0, 8, .inl (σ 33))) := wd_at (by decide)
theorem at_34 {E : Ev} {σ : Mem} {o : Nat → Int64} : (wd E σ o)[34]? = some (e_a E 34, .inl (e_c E 0, 8, .inl (σ 34))) := wd_at (by decide)
theorem at_35 {E : Ev} {σ : Mem} {o : Nat → Int64} : (wd E σ o)[35]? = some (e_a E 35, .inl (e_c E 1, 8, .inl (σ 35))) := wd_at (by decide)
theorem at_36 {E : Ev} {σ : Mem} {o : Nat → Int64} : (wd E σ o)[36]? = some (e_a E 36, .inl (e_c E 2, 1, .inr (.inl o))) := wd_at (by decide)
/-- from B on everything may change -/
def LB (B : Nat) : Nat → Prop := fun q => B ≤ q
def e_ok (E : Ev) : Prop := (∀ i j, i < 37 → j < 37 → e_a E i = e_a E j → i = j) ∧ ∀ j, j < 37 → e_B E ≤ e_a E j
theorem wd_D {E : Ev} (h : e_ok E) (σ : Mem) (o : Nat → Int64) : va_D (LB (e_B E)) (wd E σ o) := by
  refine ⟨fun i j p q hi hj hpq => ?_, fun k q hk => ?_⟩
  · obtain ⟨h1, rfl⟩ := wd_ofat hi
    obtain ⟨h2, rfl⟩ := wd_ofat hj
    exact h.1 i j h1 h2 hpq
  · obtain ⟨h1, rfl⟩ := wd_ofat hk
    exact h.2 k h1
abbrev xIO : String := "java/lang/IndexOutOfBoundsException"
abbrev xIA : String := "java/lang/IllegalArgumentException"
abbrev xIS : String := "java/lang/IllegalStateException"
abbrev xNS : String := "java/util/NoSuchElementException"
abbrev xAll : List String := [xIO, xIA, xIS, xNS]
abbrev xUp : List String := ["java/lang/RuntimeException", "java/lang/Exception", "java/lang/Throwable"]
/-- what is known of the tables and of the two statics, as long as a run lasts -/
def KN (E : Ev) (U : State) : Prop := va_K (e_D E) vwCl (e_t E) U ∧ (va_Nw (.methodLinkNest RX1 15 yX0_init RX1) U ∧ va_Nw (.methodLinkNest RX0 25 yX1_holds RX1) U ∧ va_Nw (.methodLinkNest RX0 46 yX1_oneIf RX1) U) ∧ (vk_R RX1 148 "no such chute" (e_s E 0) U ∧ vk_R RX1 22 "no such sort" (e_s E 1) U ∧ vk_R RX1 33 "the chute holds parcels" (e_s E 2) U ∧ vk_R RX1 155 "no such weight" (e_s E 3) U ∧ vk_R RX1 157 "no such girth" (e_s E 4) U ∧ vk_R RX1 50 "HIGH is less than LOW" (e_s E 5) U ∧ vk_R RX1 87 "no such what" (e_s E 6) U ∧ vk_R RX1 161 "no such parcel" (e_s E 7) U ∧ vk_R RX1 111 "both are one chute" (e_s E 8) U) ∧ ((∀ X ∈ xAll, va_Nw (.castable X X) U) ∧ (∀ X ∈ xUp, va_Nw (.declares (Bundle.initS X)) U) ∧ ∀ X ∈ xAll, ∀ Y ∈ xAll, X ≠ Y → va_Nc X Y U) ∧ vx_Zq Bundle.tN "UNASSIGNED_STACK" Bundle.steD (LB (e_B E)) U U.heap ∧ vx_Zq Bundle.tN "SUPPRESSED_SENTINEL" Bundle.listD (LB (e_B E)) U U.heap
theorem KN.mv {E : Ev} {s U : State} (hW : s.WarmedH U.vm) (hh : ∀ a : Nat, a < s.heap.size → ¬ LB (e_B E) a → U.heap[a]? = s.heap[a]?) (h : KN E s) : KN E U := by
  obtain ⟨h1, ⟨n0, n1, n2⟩, ⟨s0, s1, s2, s3, s4, s5, s6, s7, s8⟩, ⟨c1, d1, c2⟩, z1, z2⟩ := h
  exact ⟨h1.moved hW.alike, ⟨va_Nw.warmM hW n0, va_Nw.warmM hW n1, va_Nw.warmM hW n2⟩, ⟨s0.warm hW, s1.warm hW, s2.warm hW, s3.warm hW, s4.warm hW, s5.warm hW, s6.warm hW, s7.warm hW, s8.warm hW⟩, ⟨fun X hX => va_Nw.warmC hW (c1 X hX), fun X hX => va_Nw.warmD hW (d1 X hX), fun X hX Y hY hn => (c2 X hX Y hY hn).moved hW.alike⟩, (z1.moved hW.alike).kept hh, (z2.moved hW.alike).kept hh⟩
theorem KN.K {E : Ev} {s : State} (h : KN E s) : va_K (e_D E) vwCl (e_t E) s := h.1
theorem KN.nX1_15 {E : Ev} {s : State} (h : KN E s) : va_Nw (.methodLinkNest RX1 15 yX0_init RX1) s := h.2.1.1
theorem KN.nX0_25 {E : Ev} {s : State} (h : KN E s) : va_Nw (.methodLinkNest RX0 25 yX1_holds RX1) s := h.2.1.2.1
theorem KN.nX0_46 {E : Ev} {s : State} (h : KN E s) : va_Nw (.methodLinkNest RX0 46 yX1_oneIf RX1) s := h.2.1.2.2
theorem KN.s148 {E : Ev} {s : State} (h : KN E s) : vk_R RX1 148 "no such chute" (e_s E 0) s := h.2.2.1.1
theorem KN.s22 {E : Ev} {s : State} (h : KN E s) : vk_R RX1 22 "no such sort" (e_s E 1) s := h.2.2.1.2.1
theorem KN.s33 {E : Ev} {s : State} (h : KN E s) : vk_R RX1 33 "the chute holds parcels" (e_s E 2) s := h.2.2.1.2.2.1
theorem KN.s155 {E : Ev} {s : State} (h : KN E s) : vk_R RX1 155 "no such weight" (e_s E 3) s := h.2.2.1.2.2.2.1
theorem KN.s157 {E : Ev} {s : State} (h : KN E s) : vk_R RX1 157 "no such girth" (e_s E 4) s := h.2.2.1.2.2.2.2.1
theorem KN.s50 {E : Ev} {s : State} (h : KN E s) : vk_R RX1 50 "HIGH is less than LOW" (e_s E 5) s := h.2.2.1.2.2.2.2.2.1
theorem KN.s87 {E : Ev} {s : State} (h : KN E s) : vk_R RX1 87 "no such what" (e_s E 6) s := h.2.2.1.2.2.2.2.2.2.1
theorem KN.s161 {E : Ev} {s : State} (h : KN E s) : vk_R RX1 161 "no such parcel" (e_s E 7) s := h.2.2.1.2.2.2.2.2.2.2.1
theorem KN.s111 {E : Ev} {s : State} (h : KN E s) : vk_R RX1 111 "both are one chute" (e_s E 8) s := h.2.2.1.2.2.2.2.2.2.2.2
theorem KN.c {E : Ev} {s : State} {args : Array Value} (h : KN E s) {X : String} (hX : X ∈ xAll) : (Cond.castable X X).before args s = true := va_Nw.use rfl (h.2.2.2.1.1 X hX)
theorem KN.d {E : Ev} {s : State} {args : Array Value} (h : KN E s) {X : String} (hX : X ∈ xUp) : (Cond.declares (Bundle.initS X)).before args s = true := va_Nw.use rfl (h.2.2.2.1.2.1 X hX)
theorem KN.nc {E : Ev} {s : State} (h : KN E s) {X Y : String} (hX : X ∈ xAll) (hY : Y ∈ xAll) (hn : X ≠ Y) : va_Nc X Y s := h.2.2.2.1.2.2 X hX Y hY hn
theorem KN.zU {E : Ev} {s : State} (h : KN E s) : vx_Zq Bundle.tN "UNASSIGNED_STACK" Bundle.steD (LB (e_B E)) s s.heap := h.2.2.2.2.1
theorem KN.zN {E : Ev} {s : State} (h : KN E s) : vx_Zq Bundle.tN "SUPPRESSED_SENTINEL" Bundle.listD (LB (e_B E)) s s.heap := h.2.2.2.2.2

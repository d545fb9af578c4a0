/-! numbers: signs and the order of parcels, over the integers -/
theorem z_ne {a : Int32} : a ≠ 0 ↔ a.toInt ≠ 0 := by
  constructor
  · intro h q; exact h (Int32.toInt_inj.mp q)
  · intro h q; exact h (by rw [q]; rfl)
theorem sg_cases (a b : Int32) : ((a.toInt = 0 ∨ b.toInt = 0) ∧ sg a b = 32) ∨ ((a.toInt ≠ 0 ∧ b.toInt ≠ 0) ∧ ((a.toInt < b.toInt ∧ sg a b = 35) ∨ (b.toInt < a.toInt ∧ sg a b = 44) ∨ (a.toInt = b.toInt ∧ sg a b = 26))) := by
  unfold sg
  by_cases h1 : a = 0
  · rw [if_pos h1]; exact Or.inl ⟨Or.inl (by rw [h1]; rfl), rfl⟩
  · rw [if_neg h1]
    by_cases h2 : b = 0
    · rw [if_pos h2]; exact Or.inl ⟨Or.inr (by rw [h2]; rfl), rfl⟩
    · rw [if_neg h2]
      refine Or.inr ⟨⟨z_ne.mp h1, z_ne.mp h2⟩, ?_⟩
      by_cases h3 : b ≤ a
      · rw [if_pos h3]
        rw [Int32.le_iff_toInt_le] at h3
        by_cases h4 : a ≤ b
        · rw [if_pos h4]
          rw [Int32.le_iff_toInt_le] at h4
          exact Or.inr (Or.inr ⟨by omega, rfl⟩)
        · rw [if_neg h4]
          rw [Int32.le_iff_toInt_le] at h4
          exact Or.inr (Or.inl ⟨by omega, rfl⟩)
      · rw [if_neg h3]
        rw [Int32.le_iff_toInt_le] at h3
        exact Or.inl ⟨by omega, rfl⟩
theorem hd_val (a b z : Int32) : hd a b z ≠ 0 ↔ sg a b &&& z ≠ 0 := by
  unfold hd
  by_cases h : sg a b &&& z = 0
  · rw [if_pos h]; simp [h]
  · rw [if_neg h]; simp [h]
theorem hd_1 (a b : Int32) : hd a b 1 ≠ 0 ↔ a.toInt ≠ 0 ∧ b.toInt ≠ 0 ∧ a.toInt < b.toInt := by
  rw [hd_val]
  rcases sg_cases a b with ⟨h, e⟩ | ⟨h, ⟨h2, e⟩ | ⟨h2, e⟩ | ⟨h2, e⟩⟩
  · rw [e, eq_false (show ¬ ((32 : Int32) &&& 1 ≠ 0) by decide), false_iff]; omega
  · rw [e, eq_true (show ((35 : Int32) &&& 1 ≠ 0) by decide), true_iff]; omega
  · rw [e, eq_false (show ¬ ((44 : Int32) &&& 1 ≠ 0) by decide), false_iff]; omega
  · rw [e, eq_false (show ¬ ((26 : Int32) &&& 1 ≠ 0) by decide), false_iff]; omega
theorem hd_2 (a b : Int32) : hd a b 2 ≠ 0 ↔ a.toInt ≠ 0 ∧ b.toInt ≠ 0 ∧ a.toInt ≤ b.toInt := by
  rw [hd_val]
  rcases sg_cases a b with ⟨h, e⟩ | ⟨h, ⟨h2, e⟩ | ⟨h2, e⟩ | ⟨h2, e⟩⟩
  · rw [e, eq_false (show ¬ ((32 : Int32) &&& 2 ≠ 0) by decide), false_iff]; omega
  · rw [e, eq_true (show ((35 : Int32) &&& 2 ≠ 0) by decide), true_iff]; omega
  · rw [e, eq_false (show ¬ ((44 : Int32) &&& 2 ≠ 0) by decide), false_iff]; omega
  · rw [e, eq_true (show ((26 : Int32) &&& 2 ≠ 0) by decide), true_iff]; omega
theorem hd_4 (a b : Int32) : hd a b 4 ≠ 0 ↔ a.toInt ≠ 0 ∧ b.toInt ≠ 0 ∧ b.toInt < a.toInt := by
  rw [hd_val]
  rcases sg_cases a b with ⟨h, e⟩ | ⟨h, ⟨h2, e⟩ | ⟨h2, e⟩ | ⟨h2, e⟩⟩
  · rw [e, eq_false (show ¬ ((32 : Int32) &&& 4 ≠ 0) by decide), false_iff]; omega
  · rw [e, eq_false (show ¬ ((35 : Int32) &&& 4 ≠ 0) by decide), false_iff]; omega
  · rw [e, eq_true (show ((44 : Int32) &&& 4 ≠ 0) by decide), true_iff]; omega
  · rw [e, eq_false (show ¬ ((26 : Int32) &&& 4 ≠ 0) by decide), false_iff]; omega
theorem hd_8 (a b : Int32) : hd a b 8 ≠ 0 ↔ a.toInt ≠ 0 ∧ b.toInt ≠ 0 ∧ b.toInt ≤ a.toInt := by
  rw [hd_val]
  rcases sg_cases a b with ⟨h, e⟩ | ⟨h, ⟨h2, e⟩ | ⟨h2, e⟩ | ⟨h2, e⟩⟩
  · rw [e, eq_false (show ¬ ((32 : Int32) &&& 8 ≠ 0) by decide), false_iff]; omega
  · rw [e, eq_false (show ¬ ((35 : Int32) &&& 8 ≠ 0) by decide), false_iff]; omega
  · rw [e, eq_true (show ((44 : Int32) &&& 8 ≠ 0) by decide), true_iff]; omega
  · rw [e, eq_true (show ((26 : Int32) &&& 8 ≠ 0) by decide), true_iff]; omega
theorem hd_16 (a b : Int32) : hd a b 16 ≠ 0 ↔ a.toInt ≠ 0 ∧ b.toInt ≠ 0 ∧ a.toInt = b.toInt := by
  rw [hd_val]
  rcases sg_cases a b with ⟨h, e⟩ | ⟨h, ⟨h2, e⟩ | ⟨h2, e⟩ | ⟨h2, e⟩⟩
  · rw [e, eq_false (show ¬ ((32 : Int32) &&& 16 ≠ 0) by decide), false_iff]; omega
  · rw [e, eq_false (show ¬ ((35 : Int32) &&& 16 ≠ 0) by decide), false_iff]; omega
  · rw [e, eq_false (show ¬ ((44 : Int32) &&& 16 ≠ 0) by decide), false_iff]; omega
  · rw [e, eq_true (show ((26 : Int32) &&& 16 ≠ 0) by decide), true_iff]; omega
theorem hd_01 (a b z : Int32) : hd a b z = 0 ∨ hd a b z = 1 := by
  unfold hd
  split
  · exact Or.inl rfl
  · exact Or.inr rfl
theorem fit_eq (kd lo hi wi w g : Int32) : fitC kd lo hi wi w g = fitM kd lo hi wi w g := by
  have h : (hd lo w 2 = 0) = (hd w lo 8 = 0) := by
    apply propext
    have h1 := hd_2 lo w
    have h2 := hd_8 w lo
    by_cases a : hd lo w 2 = 0 <;> by_cases b : hd w lo 8 = 0 <;> simp only [a, b, ne_eq, not_true_eq_false, not_false_eq_true, false_iff, true_iff] at h1 h2 ⊢ <;> omega
  unfold fitC fitM
  simp only [h]
/-- the order in which parcels lie -/
def AH (h t : Nat → Int32) (a b : Nat) : Prop := ((h a).toInt ≤ 0 ∧ (h b).toInt ≤ 0 ∧ (t a).toInt < (t b).toInt) ∨ (0 < (h a).toInt ∧ (h b).toInt ≤ 0) ∨ (0 < (h a).toInt ∧ 0 < (h b).toInt ∧ ((h a).toInt < (h b).toInt ∨ ((h a).toInt = (h b).toInt ∧ (t a).toInt < (t b).toInt)))
theorem ahd_AH (h t : Nat → Int32) (a b : Nat) : ahd h t a b ≠ 0 ↔ AH h t a b := by
  unfold ahd AH
  have z : (0 : Int32).toInt = 0 := rfl
  have e : h a = h b ↔ (h a).toInt = (h b).toInt := Int32.toInt_inj.symm
  simp only [Int32.le_iff_toInt_le, z, e]
  by_cases h1 : (h a).toInt ≤ 0
  · rw [if_pos h1]
    by_cases h2 : (h b).toInt ≤ 0
    · rw [if_pos h2]
      by_cases h3 : (t b).toInt ≤ (t a).toInt
      · rw [if_pos h3]; simp; omega
      · rw [if_neg h3]; simp; omega
    · rw [if_neg h2]; simp; omega
  · rw [if_neg h1]
    by_cases h2 : (h b).toInt ≤ 0
    · rw [if_pos h2]; simp; omega
    · rw [if_neg h2]
      by_cases h3 : (h a).toInt = (h b).toInt
      · rw [if_pos h3]
        by_cases h4 : (t b).toInt ≤ (t a).toInt
        · rw [if_pos h4]; simp; omega
        · rw [if_neg h4]; simp; omega
      · rw [if_neg h3]
        by_cases h4 : (h b).toInt ≤ (h a).toInt
        · rw [if_pos h4]; simp; omega
        · rw [if_neg h4]; simp; omega
theorem AH_irr {h t : Nat → Int32} {a : Nat} (q : AH h t a a) : False := by unfold AH at q; omega
theorem AH_asym {h t : Nat → Int32} {a b : Nat} (q : AH h t a b) (q2 : AH h t b a) : False := by unfold AH at q q2; omega
/-! counting -/
theorem ct_range (f : Nat → Bool) (n : Nat) : ct f n = (List.range n).countP f := by
  induction n with
  | zero => rfl
  | succ n ih =>
    rw [List.range_succ, List.countP_append, ← ih]
    show ct f n + (if f n = true then 1 else 0) = _
    by_cases h : f n = true <;> simp [h]
theorem ct_congr {f g : Nat → Bool} {n : Nat} (h : ∀ i, i < n → f i = g i) : ct f n = ct g n := by
  induction n with
  | zero => rfl
  | succ n ih =>
    show ct f n + _ = ct g n + _
    rw [ih (fun i hi => h i (by omega)), h n (by omega)]
/-- the places 0 .. n - 1 of u go once through the slots of a kind -/
def Lst (Q : Nat → Prop) (u : Nat → Nat) (n : Nat) : Prop := (∀ i, i < n → u i < 96 ∧ Q (u i)) ∧ (∀ p, p < 96 → Q p → ∃ i, i < n ∧ u i = p) ∧ ∀ i j, i < n → j < n → u i = u j → i = j
theorem Lst_perm {Q : Nat → Prop} {u : Nat → Nat} {n : Nat} (h : Lst Q u n) (q : Nat → Bool) (hq : ∀ p, q p = true ↔ Q p) : ((List.range n).map u).Perm ((List.range 96).filter q) := by
  refine (List.perm_ext_iff_of_nodup ?_ ?_).mpr ?_
  · rw [List.nodup_iff_pairwise_ne, List.pairwise_map]
    refine List.Pairwise.imp_of_mem ?_ (List.nodup_range (n := n))
    intro a b ha hb hab e
    exact hab (h.2.2 a b (List.mem_range.mp ha) (List.mem_range.mp hb) e)
  · exact List.Nodup.sublist List.filter_sublist List.nodup_range
  · intro p
    rw [List.mem_map, List.mem_filter, List.mem_range]
    constructor
    · rintro ⟨i, hi, rfl⟩
      have := h.1 i (List.mem_range.mp hi)
      exact ⟨this.1, (hq _).mpr this.2⟩
    · rintro ⟨hp, hqp⟩
      obtain ⟨i, hi, e⟩ := h.2.1 p hp ((hq p).mp hqp)
      exact ⟨i, List.mem_range.mpr hi, e⟩
theorem Lst_ct {Q : Nat → Prop} {u : Nat → Nat} {n : Nat} (h : Lst Q u n) (f g : Nat → Bool) (hf : ∀ p, p < 96 → (f p = true ↔ Q p ∧ g p = true)) : ct f 96 = ct (fun i => g (u i)) n := by
  classical
  have hp := Lst_perm h (fun p => decide (Q p)) (fun p => by simp)
  rw [ct_range, ct_range]
  have e1 : (List.range n).countP (fun i => g (u i)) = ((List.range n).map u).countP g := by rw [List.countP_map]; rfl
  rw [e1, hp.countP_eq g, List.countP_filter]
  apply List.countP_congr
  intro p hp2
  rw [hf p (List.mem_range.mp hp2)]
  simp [and_comm]
theorem ct_all (n : Nat) : ct (fun _ => true) n = n := by
  induction n with
  | zero => rfl
  | succ n ih =>
    show ct _ n + 1 = n + 1
    rw [ih]
/-- what the model's rows hold: home, weight, time of coming -/
def MIx (h r t : Nat → Int32) (U : Nat → Nat → Nat) (N : Nat → Nat) (C : Nat) : Prop :=
  (∀ c, c < 8 → Lst (fun p => h p = nI c) (U c) (N c) ∧ N c ≤ 12 ∧ ∀ i j, i < j → j < N c → AH r t (U c i) (U c j)) ∧
  (∀ p, p < 96 → h p = -1 ∨ ((∃ c, c < 8 ∧ h p = nI c) ∧ 0 ≤ (r p).toInt ∧ ∃ m, m < C ∧ t p = nI m))
theorem mi_many {h r t : Nat → Int32} {U : Nat → Nat → Nat} {N : Nat → Nat} {C : Nat} (M : MIx h r t U N C) {c : Nat} (hc : c < 8) : ct (fHome h (nI c)) 96 = N c := by
  rw [Lst_ct (M.1 c hc).1 (fHome h (nI c)) (fun _ => true) (fun p _ => by simp [fHome]), ct_all]
theorem ct_lt {i n : Nat} (hi : i ≤ n) : ct (fun j => decide (j < i)) n = i := by
  have key : ∀ n, ct (fun j => decide (j < i)) n = min n i := by
    intro n
    induction n with
    | zero => simp [ct]
    | succ n ih =>
      show ct _ n + (if decide (n < i) = true then 1 else 0) = _
      rw [ih]
      by_cases h : n < i
      · simp [h]; omega
      · simp [h]; omega
  rw [key n]; omega
theorem mi_pl {σ : Mem} {U : Nat → Nat → Nat} {N : Nat → Nat} {C : Nat} (M : MIx (σ 27) (σ 28) (σ 30) U N C) {c i : Nat} (hc : c < 8) (hi : i < N c) : pl σ (U c i) = i := by
  obtain ⟨hL, -, hA⟩ := M.1 c hc
  have hh : σ 27 (U c i) = nI c := (hL.1 i hi).2
  unfold pl
  rw [Lst_ct hL (fAhd σ (U c i)) (fun p => decide (p ≠ U c i ∧ ahd (σ 28) (σ 30) p (U c i) ≠ 0)) (fun p _ => by simp [fAhd, hh])]
  rw [ct_congr (g := fun j => decide (j < i)) (fun j hj => ?_), ct_lt (by omega)]
  simp only [decide_eq_decide]
  rw [ahd_AH]
  constructor
  · rintro ⟨h1, h2⟩
    rcases Nat.lt_trichotomy j i with q | q | q
    · exact q
    · exact absurd (by rw [q]) h1
    · exact (AH_asym h2 (hA i j q hj)).elim
  · intro q
    exact ⟨fun e => by have := hL.2.2 j i hj hi e; omega, hA j i q hi⟩
theorem mi_at {σ : Mem} {U : Nat → Nat → Nat} {N : Nat → Nat} {C : Nat} (M : MIx (σ 27) (σ 28) (σ 30) U N C) {c : Nat} (hc : c < 8) {v : Int32} {p : Nat} (hp : p < 96) : isAt σ (nI c) v p ↔ ∃ i, i < N c ∧ v = nI i ∧ p = U c i := by
  constructor
  · rintro ⟨h1, h2⟩
    obtain ⟨i, hi, e⟩ := (M.1 c hc).1.2.1 p hp h1
    exact ⟨i, hi, by rw [← h2, ← e, mi_pl M hc hi], e.symm⟩
  · rintro ⟨i, hi, rfl, rfl⟩
    exact ⟨((M.1 c hc).1.1 i hi).2, by rw [mi_pl M hc hi]⟩

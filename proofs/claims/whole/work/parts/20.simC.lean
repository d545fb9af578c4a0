theorem m_up_up (σ : Mem) (j i : Nat) (a b : Int32) : m_up (m_up σ j i a) j i b = m_up σ j i b := by
  funext x y
  rw [m_up_get, m_up_get, m_up_get]
  by_cases h : x = j ∧ y = i
  · rw [if_pos h, if_pos h]
  · rw [if_neg h, if_neg h, if_neg h]
theorem ins_2 (σ : Mem) {k d q n : Nat} (w g : Int32) (hd : d < 8) (hk : k < 8) : m_ins σ k q n w g (d + 2) = if d = k then upd (σ (d + 2)) 2 (nI (n + 1)) else σ (d + 2) := by
  unfold m_ins
  by_cases h : d = k
  · subst h; rw [if_pos rfl, if_pos rfl]
  · rw [if_neg (by omega), if_neg (by omega), if_neg (by omega), if_neg h]
theorem ins_10 (σ : Mem) {k d q n : Nat} (w g : Int32) (hd : d < 8) (hk : k < 8) : m_ins σ k q n w g (d + 10) = if d = k then insf (σ (d + 10)) q n w else σ (d + 10) := by
  unfold m_ins
  by_cases h : d = k
  · subst h; rw [if_neg (by omega), if_pos rfl, if_pos rfl]
  · rw [if_neg (by omega), if_neg (by omega), if_neg (by omega), if_neg h]
theorem ins_18 (σ : Mem) {k d q n : Nat} (w g : Int32) (hd : d < 8) (hk : k < 8) : m_ins σ k q n w g (d + 18) = if d = k then insf (σ (d + 18)) q n g else σ (d + 18) := by
  unfold m_ins
  by_cases h : d = k
  · subst h; rw [if_neg (by omega), if_neg (by omega), if_pos rfl, if_pos rfl]
  · rw [if_neg (by omega), if_neg (by omega), if_neg (by omega), if_neg h]
theorem ins_o (σ : Mem) {k q n : Nat} (w g : Int32) (hk : k < 8) {j : Nat} (hj : 26 ≤ j ∨ j < 2) : m_ins σ k q n w g j = σ j := by
  unfold m_ins
  rw [if_neg (by omega), if_neg (by omega), if_neg (by omega)]
theorem rem_2 (σ : Mem) {k d q n : Nat} (hd : d < 8) (hk : k < 8) : m_rem σ k q n (d + 2) = if d = k then upd (σ (d + 2)) 2 (nI (n - 1)) else σ (d + 2) := by
  unfold m_rem m_sh
  by_cases h : d = k
  · subst h; rw [if_pos rfl, if_pos rfl]
  · rw [if_neg (by omega), if_neg (by omega), if_neg (by omega), if_neg h]
theorem rem_10 (σ : Mem) {k d q n : Nat} (hd : d < 8) (hk : k < 8) : m_rem σ k q n (d + 10) = if d = k then shf (σ (d + 10)) q (n - 1) else σ (d + 10) := by
  unfold m_rem m_sh
  by_cases h : d = k
  · subst h; rw [if_neg (by omega), if_pos rfl, if_pos rfl]
  · rw [if_neg (by omega), if_neg (by omega), if_neg (by omega), if_neg h]
theorem rem_18 (σ : Mem) {k d q n : Nat} (hd : d < 8) (hk : k < 8) : m_rem σ k q n (d + 18) = if d = k then shf (σ (d + 18)) q (n - 1) else σ (d + 18) := by
  unfold m_rem m_sh
  by_cases h : d = k
  · subst h; rw [if_neg (by omega), if_neg (by omega), if_pos rfl, if_pos rfl]
  · rw [if_neg (by omega), if_neg (by omega), if_neg (by omega), if_neg h]
theorem rem_o (σ : Mem) {k q n : Nat} (hk : k < 8) {j : Nat} (hj : 26 ≤ j ∨ j < 2) : m_rem σ k q n j = σ j := by
  unfold m_rem m_sh
  rw [if_neg (by omega), if_neg (by omega), if_neg (by omega)]
theorem upd_2n (f : Nat → Int32) (x : Int32) {j : Nat} (h : j ≠ 2) : upd f 2 x j = f j := upd_n f x h
theorem cr_ins {κ μ μ' : Mem} {U : Nat → Nat → Nat} {N : Nat → Nat} (h : CR κ μ U N) {c q f : Nat} {w g : Int32} (hc : c < 8) (hq : q ≤ N c) (hm : ∀ d, d < 8 → ∀ j, j < N d → μ' 28 (U d j) = μ 28 (U d j) ∧ μ' 29 (U d j) = μ 29 (U d j)) (hw : μ' 28 f = w ∧ μ' 29 f = g) (hhi : ∀ j, 31 ≤ j → j ≤ 35 → μ' j = μ j) : CR (m_ins κ c q (N c) w g) μ' (insU U c q (N c) f) (addN N c) := fun d hd => by
  obtain ⟨e2, e1, e3, e4, e5, e6, e7⟩ := h d hd
  rw [ins_2 κ w g hd hc, ins_10 κ w g hd hc, ins_18 κ w g hd hc, hhi 31 (by omega) (by omega), hhi 32 (by omega) (by omega), hhi 33 (by omega) (by omega), hhi 34 (by omega) (by omega), hhi 35 (by omega) (by omega)]
  by_cases z : d = c
  · subst z
    rw [if_pos rfl, if_pos rfl, if_pos rfl, insU_self, addN_self, upd_s, upd_2n _ _ (by decide), upd_2n _ _ (by decide), upd_2n _ _ (by decide), upd_2n _ _ (by decide), upd_2n _ _ (by decide)]
    refine ⟨rfl, fun i hi => ?_, e3, e4, e5, e6, e7⟩
    by_cases ei : i = q
    · subst ei
      rw [insu_s]
      unfold insf
      rw [if_pos rfl, if_pos rfl]
      exact ⟨hw.1.symm, hw.2.symm⟩
    · rw [insu_e ei hi]
      unfold insf
      rw [if_neg ei, if_neg ei]
      by_cases y : q < i
      · have hy : q < i ∧ i ≤ N d := ⟨y, by omega⟩
        simp only [if_pos hy, if_pos y]
        rw [(hm d hd _ (by omega)).1, (hm d hd _ (by omega)).2]
        exact e1 _ (by omega)
      · have hy : ¬ (q < i ∧ i ≤ N d) := fun z => y z.1
        simp only [if_neg hy, if_neg y]
        rw [(hm d hd _ (by omega)).1, (hm d hd _ (by omega)).2]
        exact e1 _ (by omega)
  · rw [if_neg z, if_neg z, if_neg z, insU_ne U _ _ _ z, addN_ne N z]
    refine ⟨e2, fun i hi => ?_, e3, e4, e5, e6, e7⟩
    rw [(hm d hd _ hi).1, (hm d hd _ hi).2]
    exact e1 i hi
theorem cr_rem {κ μ μ' : Mem} {U : Nat → Nat → Nat} {N : Nat → Nat} (h : CR κ μ U N) {c q : Nat} (hc : c < 8) (hq : q < N c) (hhi : ∀ j, 28 ≤ j → j ≤ 35 → j ≠ 30 → μ' j = μ j) : CR (m_rem κ c q (N c)) μ' (remU U c q (N c)) (subN N c) := fun d hd => by
  obtain ⟨e2, e1, e3, e4, e5, e6, e7⟩ := h d hd
  rw [rem_2 κ hd hc, rem_10 κ hd hc, rem_18 κ hd hc, hhi 28 (by omega) (by omega) (by omega), hhi 29 (by omega) (by omega) (by omega), hhi 31 (by omega) (by omega) (by omega), hhi 32 (by omega) (by omega) (by omega), hhi 33 (by omega) (by omega) (by omega), hhi 34 (by omega) (by omega) (by omega), hhi 35 (by omega) (by omega) (by omega)]
  by_cases z : d = c
  · subst z
    rw [if_pos rfl, if_pos rfl, if_pos rfl, remU_self, subN_self, upd_s, upd_2n _ _ (by decide), upd_2n _ _ (by decide), upd_2n _ _ (by decide), upd_2n _ _ (by decide), upd_2n _ _ (by decide)]
    refine ⟨rfl, fun i hi => ?_, e3, e4, e5, e6, e7⟩
    rw [remu_e hi]
    unfold shf
    by_cases y : q ≤ i
    · have hy : q ≤ i ∧ i < N d - 1 := ⟨y, hi⟩
      simp only [if_pos hy, if_pos y]; exact e1 _ (by omega)
    · have hy : ¬ (q ≤ i ∧ i < N d - 1) := fun z => y z.1
      simp only [if_neg hy, if_neg y]; exact e1 _ (by omega)
  · rw [if_neg z, if_neg z, if_neg z, remU_ne U _ _ z, subN_ne N z]
    exact ⟨e2, e1, e3, e4, e5, e6, e7⟩
-- take
theorem sx_take {σ : Mem} {T : Nat} {x w r2 : Int32} {N : Nat → Nat} (hN : okN σ N) {σ2 : Mem} {u : String} (I : Inv σ σ T) (h1 : XX_take σ x w N u) (h2 : PM_take σ x w r2 σ2) : σ2 26 0 = cdA u ∧ cdA u ≠ 0 ∧ Inv σ2 σ2 (T + 1) := by
  have ht := tW_ok x w
  rcases h1 with ⟨rfl, q⟩ | ⟨rfl, q, q2⟩ | ⟨rfl, q, k, hk, rfl, q2⟩
  · rcases h2 with ⟨-, -, rfl⟩ | ⟨z, -⟩
    · rw [ht.1 q]; exact ⟨rfl, by decide, Inv_t I _⟩
    · exact absurd ((ht.1 q).symm.trans z) (by decide)
  · rcases h2 with ⟨-, -, rfl⟩ | ⟨z, -⟩
    · rw [ht.2.1 q q2]; exact ⟨rfl, by decide, Inv_t I _⟩
    · exact absurd ((ht.2.1 q q2).symm.trans z) (by decide)
  · have h0 := ht.2.2 ⟨k, hk, rfl⟩ q
    rcases h2 with ⟨z, -⟩ | ⟨-, k2, hk2, e, ⟨-, -, rfl⟩ | ⟨f, hf, hfh, hfr, -⟩⟩
    · exact absurd h0 z
    · rw [m_up_up]; exact ⟨rfl, by decide, Inv_t I _⟩
    · exfalso
      obtain ⟨U, N2, C, M, hC, hCT, hCR, hGR, hcl⟩ := id I
      obtain ⟨j, hj, rfl⟩ := (M.1 k hk).1.2.1 f hf hfh
      exact q2 j (by rw [okN_un hN (CR_okN M hCR) hk]; exact hj) (by rw [((hCR k hk).2.1 j hj).1]; exact hfr)
theorem sm_take {σ : Mem} {T : Nat} {x w r r2 : Int32} {N : Nat → Nat} (hN : okN σ N) {σ1 σ2 : Mem} (I : Inv σ σ T) (h1 : PX_take σ x w N r σ1) (h2 : PM_take σ1 x w r2 σ2) : σ2 26 0 = 0 ∧ r2 = r ∧ Inv σ2 σ2 (T + 1) := by
  obtain ⟨k, hk, rfl, hw, q, hq, hqe, hqa, rfl, rfl⟩ := h1
  obtain ⟨U, N2, C, M, hC, hCT, hCR, hGR, hcl⟩ := I
  have eN := okN_un hN (CR_okN M hCR) hk
  rw [eN] at hq h2
  have hh : ∀ j, 26 ≤ j → m_rem σ k q (N2 k) j = σ j := fun j hj => rem_o σ hk (Or.inl hj)
  have h0 := (tW_ok (nI k) w).2.2 ⟨k, hk, rfl⟩ hw
  have row : ∀ a, a < N2 k → σ (k + 10) a = σ 28 (U k a) := fun a ha => ((hCR k hk).2.1 a ha).1
  rcases h2 with ⟨z, -⟩ | ⟨-, k2, hk2, e, ⟨-, hno, -⟩ | ⟨f, hf, hfh, hfr, hmin, rfl, rfl⟩⟩
  · exact absurd h0 z
  · exfalso
    rw [hh 27 (by omega), hh 28 (by omega)] at hno
    exact hno (U k q) ((M.1 k hk).1.1 q hq).1 ⟨((M.1 k hk).1.1 q hq).2, by rw [← row q hq]; exact hqe⟩
  · rw [hh 27 (by omega)] at hfh hmin
    rw [hh 28 (by omega)] at hfr hmin
    rw [hh 30 (by omega)] at hmin
    have ef := mi_take M hk hq (by rw [← row q hq]; exact hqe) (fun a ha => by rw [← row a (by omega)]; exact hqa a ha) hf hfh hfr hmin
    subst ef
    refine ⟨rfl, ?_, remU U k q (N2 k), subN N2 k, C, ?_, ?_, by omega, ?_, GR_congr hGR (by omega) ?_ (fun f hf => ?_), fun c hc8 => ?_⟩
    · rw [hh 29 (by omega)]; exact ((hCR k hk).2.1 q hq).2.symm
    · have M2 := mi_rem M hk hq
      have r27 : m_up (m_up (m_up (m_rem σ k q (N2 k)) 26 0 0) 26 0 0) 27 (U k q) (-1) 27 = upd (σ 27) (U k q) (-1) := by rw [← hh 27 (by omega)]; rfl
      have r28 : m_up (m_up (m_up (m_rem σ k q (N2 k)) 26 0 0) 26 0 0) 27 (U k q) (-1) 28 = σ 28 := hh 28 (by omega)
      have r30 : m_up (m_up (m_up (m_rem σ k q (N2 k)) 26 0 0) 26 0 0) 27 (U k q) (-1) 30 = σ 30 := hh 30 (by omega)
      rw [r27, r28, r30]; exact M2
    · show m_rem σ k q (N2 k) 26 5 = nI C
      rw [hh 26 (by omega)]; exact hC
    · refine CR_congr (κ := m_rem σ k q (N2 k)) (μ := m_rem σ k q (N2 k)) (cr_rem hCR hk hq (fun j h1 h2 h3 => hh j (by omega))) (fun j h1 h2 => ?_) (fun j h1 h2 => ?_)
      · rw [m_up_ne _ _ _ (by omega), m_up_ne _ _ _ (by omega), m_up_ne _ _ _ (by omega)]
      · rw [m_up_ne _ _ _ (by omega), m_up_ne _ _ _ (by omega), m_up_ne _ _ _ (by omega)]
    · show m_rem σ k q (N2 k) 0 = σ 0
      exact rem_o σ hk (Or.inr (by omega))
    · rw [m_up_get, if_neg (by omega), m_up_get, if_neg (by omega), m_up_get, if_neg (by omega), hh 26 (by omega)]
    · have r35 : m_up (m_up (m_up (m_rem σ k q (N2 k)) 26 0 0) 26 0 0) 27 (U k q) (-1) 35 = σ 35 := hh 35 (by omega)
      rw [r35]; exact hcl c hc8

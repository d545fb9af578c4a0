theorem hi_ch (σ : Mem) {k f : Nat} (v : Int32) (hk : k < 8) {j : Nat} (hj : 26 ≤ j) : m_up σ (k + 2) f v j = σ j := m_up_ne σ _ _ (by omega)
theorem tS_ok {σ : Mem} {U : Nat → Nat → Nat} {N : Nat → Nat} {C : Nat} (M : MIx (σ 27) (σ 28) (σ 30) U N C) (x v : Int32) : (¬ isCh x → tS σ x v = 1) ∧ (isCh x → ¬ (¬ v < 0 ∧ v ≤ 4) → tS σ x v = 2) ∧ (∀ k, k < 8 → x = nI k → (¬ v < 0 ∧ v ≤ 4) → 0 < N k → tS σ x v = 3) ∧ (∀ k, k < 8 → x = nI k → (¬ v < 0 ∧ v ≤ 4) → N k = 0 → tS σ x v = 0) := by
  unfold tS
  refine ⟨fun h => ?_, fun h h2 => ?_, fun k hk e h2 h3 => ?_, fun k hk e h2 h3 => ?_⟩
  · rw [if_pos (Decidable.byContradiction (fun z => h ((iw_isCh x).mp z)))]
  · rw [if_neg ((iw_isCh x).mpr h), if_pos (Decidable.byContradiction (fun z => h2 ((iw_ok _ _).mp z)))]
  · have h12 := (M.1 k hk).2.1
    rw [e, if_neg (iw_k hk), if_neg ((iw_ok _ _).mpr h2), mi_many M hk, if_neg (nI_nle h3 (by omega))]
  · rw [e, if_neg (iw_k hk), if_neg ((iw_ok _ _).mpr h2), mi_many M hk, h3, if_pos (by decide)]
theorem cnt0 {x : Int32} {n : Nat} (h : x = nI n) (hn : n ≤ 12) : x ≤ 0 ↔ n = 0 := by
  subst h
  constructor
  · intro h
    rcases Nat.eq_zero_or_pos n with z | z
    · exact z
    · exact absurd h (nI_nle z (by omega))
  · rintro rfl; decide
theorem sx_sort {σ : Mem} {T : Nat} {x v r2 : Int32} {σ2 : Mem} {u : String} (I : Inv σ σ T) (h1 : XX_sort σ x v u) (h2 : PM_sort σ x v r2 σ2) : σ2 26 0 = cdA u ∧ cdA u ≠ 0 ∧ Inv σ2 σ2 (T + 1) := by
  obtain ⟨U, N, C, M, hC, hCT, hCR, hGR, hcl⟩ := id I
  have ht := tS_ok M x v
  have key : tS σ x v = cdA u ∧ cdA u ≠ 0 := by
    rcases h1 with ⟨rfl, q⟩ | ⟨rfl, q, q2⟩ | ⟨rfl, q, k, hk, e, q2⟩
    · exact ⟨ht.1 q, by decide⟩
    · exact ⟨ht.2.1 q q2, by decide⟩
    · exact ⟨ht.2.2.1 k hk e q (Nat.pos_of_ne_zero (fun z => q2 ((cnt0 (hCR k hk).1 (M.1 k hk).2.1).mpr z))), by decide⟩
  rcases h2 with ⟨-, -, rfl⟩ | ⟨q, -⟩
  · rw [key.1]; exact ⟨rfl, key.2, Inv_t I _⟩
  · exact absurd (key.1.symm.trans q) key.2
theorem sm_sort {σ : Mem} {T : Nat} {x v r r2 : Int32} {σ1 σ2 : Mem} (I : Inv σ σ T) (h1 : PX_sort σ x v r σ1) (h2 : PM_sort σ1 x v r2 σ2) : σ2 26 0 = 0 ∧ r2 = r ∧ Inv σ2 σ2 (T + 1) := by
  obtain ⟨k, hk, rfl, hv, hc, rfl, rfl⟩ := h1
  obtain ⟨U, N, C, M, hC, hCT, hCR, hGR, hcl⟩ := I
  have hh : ∀ j, 26 ≤ j → m_up σ (k + 2) 3 v j = σ j := fun j hj => hi_ch σ v hk hj
  have M1 : MIx (m_up σ (k + 2) 3 v 27) (m_up σ (k + 2) 3 v 28) (m_up σ (k + 2) 3 v 30) U N C := by rw [hh 27 (by omega), hh 28 (by omega), hh 30 (by omega)]; exact M
  have ht := (tS_ok M1 (nI k) v).2.2.2 k hk rfl hv ((cnt0 (hCR k hk).1 (M.1 k hk).2.1).mp hc)
  rcases h2 with ⟨q, -⟩ | ⟨-, k2, hk2, e, rfl, rfl⟩
  · exact absurd ht q
  · have := ch_inj hk hk2 e
    subst this
    refine ⟨rfl, ?_, U, N, C, M1, ?_, by omega, fun c hc8 => ?_, GR_congr hGR (by omega) ?_ (fun f hf => ?_), fun c hc8 => ?_⟩
    · rw [hh 31 (by omega)]; exact (hCR k hk).2.2.1.symm
    · show m_up σ (k + 2) 3 v 26 5 = nI C
      rw [hh 26 (by omega)]; exact hC
    · obtain ⟨e2, e1, e3, e4, e5, e6, e7⟩ := hCR c hc8
      have lo : ∀ j f, j < 26 → m_up (m_up (m_up σ (k + 2) 3 v) 26 0 0) 31 k v j f = m_up σ (k + 2) 3 v j f := fun j f hj => by
        rw [m_up_get, if_neg (by omega), m_up_get, if_neg (by omega)]
      have h28 : m_up (m_up (m_up σ (k + 2) 3 v) 26 0 0) 31 k v 28 = σ 28 := hh 28 (by omega)
      have h29 : m_up (m_up (m_up σ (k + 2) 3 v) 26 0 0) 31 k v 29 = σ 29 := hh 29 (by omega)
      have h32 : m_up (m_up (m_up σ (k + 2) 3 v) 26 0 0) 31 k v 32 = σ 32 := hh 32 (by omega)
      have h33 : m_up (m_up (m_up σ (k + 2) 3 v) 26 0 0) 31 k v 33 = σ 33 := hh 33 (by omega)
      have h34 : m_up (m_up (m_up σ (k + 2) 3 v) 26 0 0) 31 k v 34 = σ 34 := hh 34 (by omega)
      have h35 : m_up (m_up (m_up σ (k + 2) 3 v) 26 0 0) 31 k v 35 = σ 35 := hh 35 (by omega)
      have h31 : m_up (m_up (m_up σ (k + 2) 3 v) 26 0 0) 31 k v 31 = upd (σ 31) k v := by rw [← hh 31 (by omega)]; rfl
      rw [h28, h29, h31, h32, h33, h34, h35]
      refine ⟨?_, fun i hi => ?_, ?_, ?_, ?_, ?_, ?_⟩
      · rw [lo _ _ (by omega), m_up_get, if_neg (by omega)]; exact e2
      · rw [lo _ _ (by omega), lo _ _ (by omega), m_up_get, m_up_get, if_neg (by omega), if_neg (by omega)]; exact e1 i hi
      · rw [lo _ _ (by omega), m_up_get]
        by_cases z : c = k
        · subst z; rw [if_pos ⟨rfl, rfl⟩, upd_s]
        · rw [if_neg (by omega), upd_n _ _ z]; exact e3
      · rw [lo _ _ (by omega), m_up_get, if_neg (by omega)]; exact e4
      · rw [lo _ _ (by omega), m_up_get, if_neg (by omega)]; exact e5
      · rw [lo _ _ (by omega), m_up_get, if_neg (by omega)]; exact e6
      · rw [lo _ _ (by omega), m_up_get, if_neg (by omega)]; exact e7
    · show m_up σ (k + 2) 3 v 0 = σ 0
      exact m_up_ne σ _ _ (by omega)
    · simp only [m_up_get]; rw [if_neg (by omega), if_neg (by omega), if_neg (by omega)]
    · have h35 : m_up (m_up (m_up σ (k + 2) 3 v) 26 0 0) 31 k v 35 = σ 35 := hh 35 (by omega)
      rw [h35]; exact hcl c hc8
theorem p1_b1 {a : Int32} (h : ¬ a < 0) : b1 (b1 a) = p1 a := by
  unfold b1 p1
  by_cases z : a = 0
  · subst z; rfl
  · rw [if_neg z]
    have : ¬ a ≤ 0 := fun q => z (i32_le_antisymm q (Decidable.byContradiction (fun y => h (i32_lt_of_nle y))))
    rw [if_neg this]; rfl
theorem m_lim_get (σ : Mem) (k : Nat) (a b d : Int32) (j f : Nat) : m_lim σ k a b d j f = if j = k + 2 ∧ f = 6 then d else if j = k + 2 ∧ f = 5 then b else if j = k + 2 ∧ f = 4 then a else σ j f := by
  unfold m_lim
  rw [m_up_get, m_up_get, m_up_get]
theorem sx_limits {σ : Mem} {T : Nat} {x a b d r2 : Int32} {σ2 : Mem} {u : String} (I : Inv σ σ T) (h1 : XX_limits σ x a b d u) (h2 : PM_limits σ x a b d r2 σ2) : σ2 26 0 = cdA u ∧ cdA u ≠ 0 ∧ Inv σ2 σ2 (T + 1) := by
  have ht := tL_ok x a b d
  have key : tL x a b d = cdA u ∧ cdA u ≠ 0 := by
    rcases h1 with ⟨rfl, q⟩ | ⟨rfl, q, q2⟩ | ⟨rfl, q, q2, q3⟩
    · exact ⟨ht.1 q, by decide⟩
    · exact ⟨ht.2.1 q q2, by decide⟩
    · exact ⟨ht.2.2.1 q q2 q3, by decide⟩
  rcases h2 with ⟨-, -, rfl⟩ | ⟨q, -⟩
  · rw [key.1]; exact ⟨rfl, key.2, Inv_t I _⟩
  · exact absurd (key.1.symm.trans q) key.2
theorem sm_limits {σ : Mem} {T : Nat} {x a b d r r2 : Int32} {σ1 σ2 : Mem} (I : Inv σ σ T) (h1 : PX_limits σ x a b d r σ1) (h2 : PM_limits σ1 x a b d r2 σ2) : σ2 26 0 = 0 ∧ r2 = r ∧ Inv σ2 σ2 (T + 1) := by
  obtain ⟨k, hk, rfl, oa, ob, od, hz, rfl, rfl⟩ := h1
  obtain ⟨U, N, C, M, hC, hCT, hCR, hGR, hcl⟩ := I
  have hh : ∀ j, 26 ≤ j → m_lim σ k a b d j = σ j := fun j hj => by unfold m_lim; rw [hi_ch _ _ hk hj, hi_ch _ _ hk hj, hi_ch _ _ hk hj]
  have ht := (tL_ok (nI k) a b d).2.2.2 ⟨k, hk, rfl⟩ ⟨oa, ob, od⟩ hz
  rcases h2 with ⟨q, -⟩ | ⟨-, k2, hk2, e, rfl, rfl⟩
  · exact absurd ht q
  · have := ch_inj hk hk2 e
    subst this
    have M1 : MIx (m_lim σ k a b d 27) (m_lim σ k a b d 28) (m_lim σ k a b d 30) U N C := by rw [hh 27 (by omega), hh 28 (by omega), hh 30 (by omega)]; exact M
    refine ⟨rfl, ?_, U, N, C, M1, ?_, by omega, fun c hc8 => ?_, GR_congr hGR (by omega) ?_ (fun f hf => ?_), fun c hc8 => ?_⟩
    · unfold n3; rw [p1_b1 oa.1, p1_b1 ob.1, p1_b1 od.1]
    · show m_lim σ k a b d 26 5 = nI C
      rw [hh 26 (by omega)]; exact hC
    · obtain ⟨e2, e1, e3, e4, e5, e6, e7⟩ := hCR c hc8
      have lo : ∀ j f, j < 26 → m_up (m_up (m_up (m_up (m_lim σ k a b d) 26 0 0) 32 k a) 33 k b) 34 k d j f = m_lim σ k a b d j f := fun j f hj => by
        simp only [m_up_get]; rw [if_neg (by omega), if_neg (by omega), if_neg (by omega), if_neg (by omega)]
      have h28 : m_up (m_up (m_up (m_up (m_lim σ k a b d) 26 0 0) 32 k a) 33 k b) 34 k d 28 = σ 28 := hh 28 (by omega)
      have h29 : m_up (m_up (m_up (m_up (m_lim σ k a b d) 26 0 0) 32 k a) 33 k b) 34 k d 29 = σ 29 := hh 29 (by omega)
      have h31 : m_up (m_up (m_up (m_up (m_lim σ k a b d) 26 0 0) 32 k a) 33 k b) 34 k d 31 = σ 31 := hh 31 (by omega)
      have h35 : m_up (m_up (m_up (m_up (m_lim σ k a b d) 26 0 0) 32 k a) 33 k b) 34 k d 35 = σ 35 := hh 35 (by omega)
      have h32 : m_up (m_up (m_up (m_up (m_lim σ k a b d) 26 0 0) 32 k a) 33 k b) 34 k d 32 = upd (σ 32) k a := by rw [← hh 32 (by omega)]; rfl
      have h33 : m_up (m_up (m_up (m_up (m_lim σ k a b d) 26 0 0) 32 k a) 33 k b) 34 k d 33 = upd (σ 33) k b := by rw [← hh 33 (by omega)]; rfl
      have h34 : m_up (m_up (m_up (m_up (m_lim σ k a b d) 26 0 0) 32 k a) 33 k b) 34 k d 34 = upd (σ 34) k d := by rw [← hh 34 (by omega)]; rfl
      rw [h28, h29, h31, h32, h33, h34, h35]
      refine ⟨?_, fun i hi => ?_, ?_, ?_, ?_, ?_, ?_⟩
      · rw [lo _ _ (by omega), m_lim_get]; rw [if_neg (by omega), if_neg (by omega), if_neg (by omega)]; exact e2
      · rw [lo _ _ (by omega), lo _ _ (by omega), m_lim_get, m_lim_get]
        rw [if_neg (by omega), if_neg (by omega), if_neg (by omega), if_neg (by omega), if_neg (by omega), if_neg (by omega)]; exact e1 i hi
      · rw [lo _ _ (by omega), m_lim_get]; rw [if_neg (by omega), if_neg (by omega), if_neg (by omega)]; exact e3
      · rw [lo _ _ (by omega), m_lim_get]
        by_cases z : c = k
        · subst z; rw [if_neg (by omega), if_neg (by omega), if_pos ⟨rfl, rfl⟩, upd_s]
        · rw [if_neg (by omega), if_neg (by omega), if_neg (by omega), upd_n _ _ z]; exact e4
      · rw [lo _ _ (by omega), m_lim_get]
        by_cases z : c = k
        · subst z; rw [if_neg (by omega), if_pos ⟨rfl, rfl⟩, upd_s]
        · rw [if_neg (by omega), if_neg (by omega), if_neg (by omega), upd_n _ _ z]; exact e5
      · rw [lo _ _ (by omega), m_lim_get]
        by_cases z : c = k
        · subst z; rw [if_pos ⟨rfl, rfl⟩, upd_s]
        · rw [if_neg (by omega), if_neg (by omega), if_neg (by omega), upd_n _ _ z]; exact e6
      · rw [lo _ _ (by omega), m_lim_get]; rw [if_neg (by omega), if_neg (by omega), if_neg (by omega)]; exact e7
    · show m_lim σ k a b d 0 = σ 0
      unfold m_lim
      rw [m_up_ne _ _ _ (by omega), m_up_ne _ _ _ (by omega), m_up_ne _ _ _ (by omega)]
    · show m_up (m_up (m_up (m_up (m_lim σ k a b d) 26 0 0) 32 k a) 33 k b) 34 k d 26 f = σ 26 f
      simp only [m_up_get]; rw [if_neg (by omega), if_neg (by omega), if_neg (by omega), if_neg (by omega), hh 26 (by omega)]
    · have h35 : m_up (m_up (m_up (m_up (m_lim σ k a b d) 26 0 0) 32 k a) 33 k b) 34 k d 35 = σ 35 := hh 35 (by omega)
      rw [h35]; exact hcl c hc8
theorem sx_shut {σ : Mem} {T : Nat} {x v r2 : Int32} {σ2 : Mem} {u : String} (I : Inv σ σ T) (h1 : XX_shut σ x v u) (h2 : PM_shut σ x v r2 σ2) : σ2 26 0 = cd1 u ∧ cd1 u ≠ 0 ∧ Inv σ2 σ2 (T + 1) := by
  have ht := (tC_ok x).1 h1.2
  rcases h2 with ⟨-, -, rfl⟩ | ⟨q, -⟩
  · rw [ht]; exact ⟨rfl, cd1_ne u, Inv_t I _⟩
  · exact absurd (ht.symm.trans q) (by decide)
theorem sm_shut {σ : Mem} {T : Nat} {x v r r2 : Int32} {σ1 σ2 : Mem} (hv : v = 0 ∨ v = 1) (I : Inv σ σ T) (h1 : PX_shut σ x v r σ1) (h2 : PM_shut σ1 x v r2 σ2) : σ2 26 0 = 0 ∧ r2 = r ∧ Inv σ2 σ2 (T + 1) := by
  obtain ⟨k, hk, rfl, rfl, rfl⟩ := h1
  obtain ⟨U, N, C, M, hC, hCT, hCR, hGR, hcl⟩ := I
  have hh : ∀ j, 26 ≤ j → m_up σ (k + 2) 7 v j = σ j := fun j hj => hi_ch σ v hk hj
  have M1 : MIx (m_up σ (k + 2) 7 v 27) (m_up σ (k + 2) 7 v 28) (m_up σ (k + 2) 7 v 30) U N C := by rw [hh 27 (by omega), hh 28 (by omega), hh 30 (by omega)]; exact M
  have ht := (tC_ok (nI k)).2 ⟨k, hk, rfl⟩
  rcases h2 with ⟨q, -⟩ | ⟨-, k2, hk2, e, rfl, rfl⟩
  · exact absurd ht q
  · have := ch_inj hk hk2 e
    subst this
    have h35 : m_up (m_up (m_up σ (k + 2) 7 v) 26 0 0) 35 k v 35 = upd (σ 35) k v := by rw [← hh 35 (by omega)]; rfl
    refine ⟨rfl, ?_, U, N, C, M1, ?_, by omega, fun c hc8 => ?_, GR_congr hGR (by omega) ?_ (fun f hf => ?_), fun c hc8 => ?_⟩
    · rw [hh 35 (by omega)]; exact (hCR k hk).2.2.2.2.2.2.symm
    · show m_up σ (k + 2) 7 v 26 5 = nI C
      rw [hh 26 (by omega)]; exact hC
    · obtain ⟨e2, e1, e3, e4, e5, e6, e7⟩ := hCR c hc8
      have lo : ∀ j f, j < 26 → m_up (m_up (m_up σ (k + 2) 7 v) 26 0 0) 35 k v j f = m_up σ (k + 2) 7 v j f := fun j f hj => by
        simp only [m_up_get]; rw [if_neg (by omega), if_neg (by omega)]
      have h28 : m_up (m_up (m_up σ (k + 2) 7 v) 26 0 0) 35 k v 28 = σ 28 := hh 28 (by omega)
      have h29 : m_up (m_up (m_up σ (k + 2) 7 v) 26 0 0) 35 k v 29 = σ 29 := hh 29 (by omega)
      have h31 : m_up (m_up (m_up σ (k + 2) 7 v) 26 0 0) 35 k v 31 = σ 31 := hh 31 (by omega)
      have h32 : m_up (m_up (m_up σ (k + 2) 7 v) 26 0 0) 35 k v 32 = σ 32 := hh 32 (by omega)
      have h33 : m_up (m_up (m_up σ (k + 2) 7 v) 26 0 0) 35 k v 33 = σ 33 := hh 33 (by omega)
      have h34 : m_up (m_up (m_up σ (k + 2) 7 v) 26 0 0) 35 k v 34 = σ 34 := hh 34 (by omega)
      rw [h28, h29, h31, h32, h33, h34, h35]
      refine ⟨?_, fun i hi => ?_, ?_, ?_, ?_, ?_, ?_⟩
      · rw [lo _ _ (by omega), m_up_get, if_neg (by omega)]; exact e2
      · rw [lo _ _ (by omega), lo _ _ (by omega), m_up_get, m_up_get, if_neg (by omega), if_neg (by omega)]; exact e1 i hi
      · rw [lo _ _ (by omega), m_up_get, if_neg (by omega)]; exact e3
      · rw [lo _ _ (by omega), m_up_get, if_neg (by omega)]; exact e4
      · rw [lo _ _ (by omega), m_up_get, if_neg (by omega)]; exact e5
      · rw [lo _ _ (by omega), m_up_get, if_neg (by omega)]; exact e6
      · rw [lo _ _ (by omega), m_up_get]
        by_cases z : c = k
        · subst z; rw [if_pos ⟨rfl, rfl⟩, upd_s]
        · rw [if_neg (by omega), upd_n _ _ z]; exact e7
    · show m_up σ (k + 2) 7 v 0 = σ 0
      exact m_up_ne σ _ _ (by omega)
    · simp only [m_up_get]; rw [if_neg (by omega), if_neg (by omega), if_neg (by omega)]
    · rw [h35]
      by_cases z : c = k
      · subst z; rw [upd_s]; exact hv
      · rw [upd_n _ _ z]; exact hcl c hc8

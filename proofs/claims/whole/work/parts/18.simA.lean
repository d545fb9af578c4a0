/-! class and model side by side -/
def CR (κ μ : Mem) (U : Nat → Nat → Nat) (N : Nat → Nat) : Prop := ∀ c, c < 8 → κ (c + 2) 2 = nI (N c) ∧ (∀ i, i < N c → κ (c + 10) i = μ 28 (U c i) ∧ κ (c + 18) i = μ 29 (U c i)) ∧ κ (c + 2) 3 = μ 31 c ∧ κ (c + 2) 4 = μ 32 c ∧ κ (c + 2) 5 = μ 33 c ∧ κ (c + 2) 6 = μ 34 c ∧ κ (c + 2) 7 = μ 35 c
def GR (κ μ : Mem) (T : Nat) : Prop := κ 0 1 = μ 26 11 ∧ κ 0 2 = μ 26 12 ∧ κ 0 3 = μ 26 13 ∧ κ 0 4 = μ 26 14 ∧ κ 0 6 = μ 26 15 ∧ κ 0 5 = μ 26 16 ∧ κ 0 7 = μ 26 17 ∧ κ 0 8 = μ 26 18 ∧ κ 0 9 = μ 26 19 ∧ 0 ≤ (κ 0 1).toInt ∧ 0 ≤ (κ 0 2).toInt ∧ 0 ≤ (κ 0 3).toInt ∧ ∃ s, s ≤ T ∧ κ 0 5 = nI s ∧ (s = 0 → κ 0 6 = 0)
def Inv (κ μ : Mem) (T : Nat) : Prop := ∃ (U : Nat → Nat → Nat) (N : Nat → Nat) (C : Nat), MIx (μ 27) (μ 28) (μ 30) U N C ∧ μ 26 5 = nI C ∧ C ≤ 12 * T ∧ CR κ μ U N ∧ GR κ μ T ∧ ∀ c, c < 8 → μ 35 c = 0 ∨ μ 35 c = 1
theorem CR_congr {κ κ' μ μ' : Mem} {U : Nat → Nat → Nat} {N : Nat → Nat} (h : CR κ μ U N) (hlo : ∀ j, 2 ≤ j → j < 26 → κ' j = κ j) (hhi : ∀ j, 28 ≤ j → j ≤ 35 → μ' j = μ j) : CR κ' μ' U N := fun c hc => by
  obtain ⟨a1, a2, a3, a4, a5, a6, a7⟩ := h c hc
  rw [hlo (c + 2) (by omega) (by omega), hlo (c + 10) (by omega) (by omega), hlo (c + 18) (by omega) (by omega), hhi 28 (by omega) (by omega), hhi 29 (by omega) (by omega), hhi 31 (by omega) (by omega), hhi 32 (by omega) (by omega), hhi 33 (by omega) (by omega), hhi 34 (by omega) (by omega), hhi 35 (by omega) (by omega)]
  exact ⟨a1, a2, a3, a4, a5, a6, a7⟩
theorem GR_congr {κ κ' μ μ' : Mem} {T T' : Nat} (h : GR κ μ T) (hT : T ≤ T') (hlo : κ' 0 = κ 0) (h26 : ∀ f, 11 ≤ f → μ' 26 f = μ 26 f) : GR κ' μ' T' := by
  unfold GR at h ⊢
  rw [hlo, h26 11 (by omega), h26 12 (by omega), h26 13 (by omega), h26 14 (by omega), h26 15 (by omega), h26 16 (by omega), h26 17 (by omega), h26 18 (by omega), h26 19 (by omega)]
  obtain ⟨a1, a2, a3, a4, a5, a6, a7, a8, a9, b1, b2, b3, s, s1, s2, s3⟩ := h
  exact ⟨a1, a2, a3, a4, a5, a6, a7, a8, a9, b1, b2, b3, s, by omega, s2, s3⟩
theorem Inv_congr {κ κ' μ μ' : Mem} {T T' : Nat} (h : Inv κ μ T) (hT : T ≤ T') (hlo : ∀ j, j < 26 → κ' j = κ j) (hhi : ∀ j, 27 ≤ j → j ≤ 35 → μ' j = μ j) (h26 : ∀ f, 0 < f → μ' 26 f = μ 26 f) : Inv κ' μ' T' := by
  obtain ⟨U, N, C, M, hC, hCT, hCR, hGR, hcl⟩ := h
  refine ⟨U, N, C, ?_, ?_, by omega, CR_congr hCR (fun j h1 h2 => hlo j h2) (fun j h1 h2 => hhi j (by omega) h2), GR_congr hGR hT (hlo 0 (by omega)) (fun f hf => h26 f (by omega)), ?_⟩
  · rw [hhi 27 (by omega) (by omega), hhi 28 (by omega) (by omega), hhi 30 (by omega) (by omega)]; exact M
  · rw [h26 5 (by omega)]; exact hC
  · rw [hhi 35 (by omega) (by omega)]; exact hcl
theorem Inv_t {σ : Mem} {T : Nat} (h : Inv σ σ T) (t : Int32) : Inv (m_up σ 26 0 t) (m_up σ 26 0 t) (T + 1) :=
  Inv_congr h (by omega) (fun j hj => m_up_ne σ _ _ (by omega)) (fun j hj _ => m_up_ne σ _ _ (by omega)) (fun f hf => by rw [m_up_get, if_neg (by omega)])
theorem Inv_okN {κ μ : Mem} {T : Nat} (h : Inv κ μ T) : ∃ N, okN κ N := by
  obtain ⟨U, N, C, M, -, -, hCR, -⟩ := h
  exact ⟨N, fun k hk => ⟨(hCR k hk).1, (M.1 k hk).2.1⟩⟩
theorem iw_ok (v b : Int32) : iw v b ≠ 0 ↔ (¬ v < 0 ∧ v ≤ b) := by
  unfold iw
  by_cases h1 : v < 0
  · rw [if_pos h1]; simp [h1]
  · rw [if_neg h1]
    by_cases h2 : b < v
    · rw [if_pos h2]
      have : ¬ v ≤ b := by rw [Int32.le_iff_toInt_le]; rw [Int32.lt_iff_toInt_lt] at h2; omega
      simp [this]
    · rw [if_neg h2]
      have : v ≤ b := by rw [Int32.le_iff_toInt_le]; rw [Int32.lt_iff_toInt_lt] at h2; omega
      simp [h1, this]
theorem iw_isCh (x : Int32) : iw x 7 ≠ 0 ↔ isCh x := by
  constructor
  · exact fun h => iw_ch h
  · rintro ⟨k, hk, rfl⟩
    exact (iw_ok _ _).mpr ⟨nI_pos (by omega), (show nI k ≤ nI 7 from nI_le (by omega) (by decide))⟩
theorem iw_k {k : Nat} (hk : k < 8) : ¬ iw (nI k) 7 = 0 := (iw_isCh _).mpr ⟨k, hk, rfl⟩
theorem ip_ok (w g : Int32) : tP w g = 0 ↔ okW w ∧ okG g := by
  unfold tP ip
  have h1 := iw_ok w 800000
  have h2 := iw_ok g 16000
  by_cases a : iw w 800000 = 0
  · rw [if_pos a, if_pos rfl]
    exact ⟨fun z => absurd z (by decide), fun z => absurd a (h1.mpr z.1)⟩
  · rw [if_neg a]
    by_cases b : iw g 16000 = 0
    · rw [if_pos b, if_pos rfl]
      exact ⟨fun z => absurd z (by decide), fun z => absurd b (h2.mpr z.2)⟩
    · rw [if_neg b, if_neg (by decide)]
      exact ⟨fun _ => ⟨h1.mp a, h2.mp b⟩, fun _ => rfl⟩
theorem tW_ok (x w : Int32) : (¬ isCh x → tW x w = 1) ∧ (isCh x → ¬ okW w → tW x w = 2) ∧ (isCh x → okW w → tW x w = 0) := by
  unfold tW
  refine ⟨fun h => ?_, fun h h2 => ?_, fun h h2 => ?_⟩
  · rw [if_pos (Decidable.byContradiction (fun z => h ((iw_isCh x).mp z)))]
  · rw [if_neg ((iw_isCh x).mpr h), if_pos (Decidable.byContradiction (fun z => h2 ((iw_ok _ _).mp z)))]
  · rw [if_neg ((iw_isCh x).mpr h), if_neg ((iw_ok _ _).mpr h2)]
theorem tH_ok (x v : Int32) : (¬ isCh x → tH x v = 1) ∧ (isCh x → ¬ okV v → tH x v = 2) ∧ (isCh x → okV v → tH x v = 0) := by
  unfold tH
  refine ⟨fun h => ?_, fun h h2 => ?_, fun h h2 => ?_⟩
  · rw [if_pos (Decidable.byContradiction (fun z => h ((iw_isCh x).mp z)))]
  · rw [if_neg ((iw_isCh x).mpr h), if_pos (Decidable.byContradiction (fun z => h2 ((iw_ok _ _).mp z)))]
  · rw [if_neg ((iw_isCh x).mpr h), if_neg ((iw_ok _ _).mpr h2)]
theorem tC_ok (x : Int32) : (¬ isCh x → tC x = 1) ∧ (isCh x → tC x = 0) := by
  unfold tC
  refine ⟨fun h => ?_, fun h => ?_⟩
  · rw [if_pos (Decidable.byContradiction (fun z => h ((iw_isCh x).mp z)))]
  · rw [if_neg ((iw_isCh x).mpr h)]
theorem tV_ok (v : Int32) : (¬ okV v → tV v = 1) ∧ (okV v → tV v = 0) := by
  unfold tV
  refine ⟨fun h => ?_, fun h => ?_⟩
  · rw [if_pos (Decidable.byContradiction (fun z => h ((iw_ok _ _).mp z)))]
  · rw [if_neg ((iw_ok _ _).mpr h)]
theorem t2_ok (x y : Int32) : (¬ (isCh x ∧ isCh y) → t2 x y = 1) ∧ (isCh x ∧ isCh y → t2 x y = 0) := by
  unfold t2
  refine ⟨fun h => ?_, fun h => ?_⟩
  · by_cases a : iw x 7 = 0
    · rw [if_pos a]
    · rw [if_neg a, if_pos (Decidable.byContradiction (fun z => h ⟨(iw_isCh x).mp a, (iw_isCh y).mp z⟩))]
  · rw [if_neg ((iw_isCh x).mpr h.1), if_neg ((iw_isCh y).mpr h.2)]
theorem tR_ok (x y : Int32) : (¬ (isCh x ∧ isCh y) → tR x y = 1) ∧ (isCh x ∧ isCh y → x = y → tR x y = 2) ∧ (isCh x ∧ isCh y → x ≠ y → tR x y = 0) := by
  unfold tR
  refine ⟨fun h => ?_, fun h h2 => ?_, fun h h2 => ?_⟩
  · by_cases a : iw x 7 = 0
    · rw [if_pos a]
    · rw [if_neg a, if_pos (Decidable.byContradiction (fun z => h ⟨(iw_isCh x).mp a, (iw_isCh y).mp z⟩))]
  · rw [if_neg ((iw_isCh x).mpr h.1), if_neg ((iw_isCh y).mpr h.2), if_pos h2]
  · rw [if_neg ((iw_isCh x).mpr h.1), if_neg ((iw_isCh y).mpr h.2), if_neg h2]
theorem tL_ok (x a b d : Int32) : (¬ isCh x → tL x a b d = 1) ∧ (isCh x → ¬ (okW a ∧ okW b ∧ okG d) → tL x a b d = 2) ∧ (isCh x → okW a ∧ okW b ∧ okG d → hd b a 1 ≠ 0 → tL x a b d = 3) ∧ (isCh x → okW a ∧ okW b ∧ okG d → hd b a 1 = 0 → tL x a b d = 0) := by
  unfold tL
  refine ⟨fun h => ?_, fun h h2 => ?_, fun h h2 h3 => ?_, fun h h2 h3 => ?_⟩
  · rw [if_pos (Decidable.byContradiction (fun z => h ((iw_isCh x).mp z)))]
  · rw [if_neg ((iw_isCh x).mpr h)]
    by_cases q1 : iw a 800000 = 0
    · rw [if_pos q1]
    · rw [if_neg q1]
      by_cases q2 : iw b 800000 = 0
      · rw [if_pos q2]
      · rw [if_neg q2, if_pos (Decidable.byContradiction (fun z => h2 ⟨(iw_ok _ _).mp q1, (iw_ok _ _).mp q2, (iw_ok _ _).mp z⟩))]
  · rw [if_neg ((iw_isCh x).mpr h), if_neg ((iw_ok _ _).mpr h2.1), if_neg ((iw_ok _ _).mpr h2.2.1), if_neg ((iw_ok _ _).mpr h2.2.2), if_neg h3]
  · rw [if_neg ((iw_isCh x).mpr h), if_neg ((iw_ok _ _).mpr h2.1), if_neg ((iw_ok _ _).mpr h2.2.1), if_neg ((iw_ok _ _).mpr h2.2.2), if_pos h3]
def sgv (v z : Int32) : Prop := (v = 0 ∧ okW z) ∨ (v = 1 ∧ okW z) ∨ (v = 2 ∧ okG z)
theorem tG_ok (x v z : Int32) : (¬ isCh x → tG x v z = 1) ∧ (isCh x → ¬ sgv v z → tG x v z = 2) ∧ (isCh x → sgv v z → tG x v z = 0) := by
  unfold tG
  refine ⟨fun h => ?_, fun h h2 => ?_, fun h h2 => ?_⟩
  · rw [if_pos (Decidable.byContradiction (fun z => h ((iw_isCh x).mp z)))]
  · rw [if_neg ((iw_isCh x).mpr h)]
    by_cases q1 : iw v 2 = 0
    · rw [if_pos q1]
    · rw [if_neg q1]
      obtain ⟨j, hj, rfl⟩ : ∃ j : Nat, j < 3 ∧ v = nI j := by
        obtain ⟨j, hj, rfl⟩ := nI_of2 (n := 2) (M := 2) rfl ((iw_ok _ _).mp q1).1 ((iw_ok _ _).mp q1).2
        exact ⟨j, by omega, rfl⟩
      by_cases q2 : nI j = 2
      · rw [if_pos q2, if_pos (Decidable.byContradiction (fun q => h2 (Or.inr (Or.inr ⟨q2, (iw_ok _ _).mp q⟩))))]
      · rw [if_neg q2, if_pos (Decidable.byContradiction (fun q => ?_))]
        have q3 := (iw_ok _ _).mp q
        match j, hj, q2, h2 with
        | 0, _, _, h2 => exact h2 (Or.inl ⟨rfl, q3⟩)
        | 1, _, _, h2 => exact h2 (Or.inr (Or.inl ⟨rfl, q3⟩))
        | 2, _, q2, _ => exact q2 rfl
  · rw [if_neg ((iw_isCh x).mpr h)]
    rcases h2 with ⟨rfl, q⟩ | ⟨rfl, q⟩ | ⟨rfl, q⟩
    · rw [if_neg (by decide), if_neg (by decide), if_neg ((iw_ok _ _).mpr q)]
    · rw [if_neg (by decide), if_neg (by decide), if_neg ((iw_ok _ _).mpr q)]
    · rw [if_neg (by decide), if_pos rfl, if_neg ((iw_ok _ _).mpr q)]
theorem m_up26 (σ : Mem) (t : Int32) : m_up σ 26 0 t 26 0 = t := rfl
-- which number the law gives an exception
def cdA (u : String) : Int32 := if u = xIO then 1 else if u = xIA then 2 else 3
def cdN (u : String) : Int32 := if u = xIO then 1 else 2
def cd1 (_ : String) : Int32 := 1
theorem cd1_ne (u : String) : cd1 u ≠ 0 := show (1 : Int32) ≠ 0 by decide
-- calls that change nothing
theorem sx_fits {σ : Mem} {T : Nat} {w g r2 : Int32} {σ2 : Mem} {u : String} (I : Inv σ σ T) (h1 : XX_fits σ w g u) (h2 : PM_fits σ w g r2 σ2) : σ2 26 0 = cd1 u ∧ cd1 u ≠ 0 ∧ Inv σ2 σ2 (T + 1) := by
  obtain ⟨rfl, h1⟩ := h1
  obtain ⟨-, rfl⟩ := h2
  refine ⟨?_, by decide, Inv_t I _⟩
  rw [m_up26]
  have h := ip_ok w g
  unfold tP at h ⊢
  by_cases q : ip w g = 0
  · rw [if_pos q]; rfl
  · rw [if_neg q] at h; exact absurd (h.mp rfl) h1
theorem ft_eq {σ : Mem} {U : Nat → Nat → Nat} {N : Nat → Nat} (h : CR σ σ U N) (w g : Int32) : ∀ n, n ≤ 8 → ftb σ w g n = ftM σ w g n := by
  intro n
  induction n with
  | zero => intro _; rfl
  | succ n ih =>
    intro hn
    obtain ⟨-, -, e3, e4, e5, e6, -⟩ := h n (by omega)
    simp only [ftb, ftM]
    rw [ih (by omega), e3, e4, e5, e6, fit_eq]
    have z : ∀ a : Int32, a ||| 0 = a := fun a => by simp
    rw [z]
theorem sm_fits {σ : Mem} {T : Nat} {w g r r2 : Int32} {σ1 σ2 : Mem} (I : Inv σ σ T) (h1 : PX_fits σ w g r σ1) (h2 : PM_fits σ1 w g r2 σ2) : σ2 26 0 = 0 ∧ r2 = r ∧ Inv σ2 σ2 (T + 1) := by
  obtain ⟨hok, rfl, rfl⟩ := h1
  obtain ⟨rfl, rfl⟩ := h2
  have ht := (ip_ok w g).mpr hok
  rw [ht]
  refine ⟨rfl, ?_, Inv_t I _⟩
  rw [if_pos rfl]
  obtain ⟨U, N, C, -, -, -, hCR, -⟩ := I
  exact (ft_eq hCR w g 8 (by omega)).symm
theorem sx_signs {σ : Mem} {T : Nat} {x v z r2 : Int32} {σ2 : Mem} {u : String} (I : Inv σ σ T) (h1 : XX_signs σ x v z u) (h2 : PM_signs σ x v z r2 σ2) : σ2 26 0 = cdN u ∧ cdN u ≠ 0 ∧ Inv σ2 σ2 (T + 1) := by
  have ht := tG_ok x v z
  have key : tG x v z = cdN u ∧ cdN u ≠ 0 := by
    rcases h1 with ⟨rfl, q⟩ | ⟨rfl, q, q2⟩
    · exact ⟨ht.1 q, by decide⟩
    · exact ⟨ht.2.1 q q2, by decide⟩
  rcases h2 with ⟨-, -, rfl⟩ | ⟨q, -⟩
  · rw [key.1]; exact ⟨rfl, key.2, Inv_t I _⟩
  · exact absurd (key.1.symm.trans q) key.2
theorem sm_signs {σ : Mem} {T : Nat} {x v z r r2 : Int32} {σ1 σ2 : Mem} (I : Inv σ σ T) (h1 : PX_signs σ x v z r σ1) (h2 : PM_signs σ1 x v z r2 σ2) : σ2 26 0 = 0 ∧ r2 = r ∧ Inv σ2 σ2 (T + 1) := by
  obtain ⟨⟨k, hk, rfl, hr⟩, rfl⟩ := h1
  have ht : tG (nI k) v z = 0 := (tG_ok _ v z).2.2 ⟨k, hk, rfl⟩ (by
    rcases hr with ⟨a, b, -⟩ | ⟨a, b, -⟩ | ⟨a, b, -⟩
    · exact Or.inl ⟨a, b⟩
    · exact Or.inr (Or.inl ⟨a, b⟩)
    · exact Or.inr (Or.inr ⟨a, b⟩))
  rcases h2 with ⟨q, -⟩ | ⟨-, k2, hk2, e, rfl, rfl⟩
  · exact absurd ht q
  · have := ch_inj hk hk2 e
    subst this
    refine ⟨rfl, ?_, Inv_t I _⟩
    obtain ⟨U, N, C, -, -, -, hCR, -⟩ := I
    obtain ⟨-, -, -, e4, e5, e6, -⟩ := hCR k hk
    rcases hr with ⟨rfl, -, rfl⟩ | ⟨rfl, -, rfl⟩ | ⟨rfl, -, rfl⟩
    · rw [if_pos rfl, e4]
    · rw [if_neg (by decide), if_pos rfl, e5]
    · rw [if_neg (by decide), if_neg (by decide), e6]
theorem sx_chute {σ : Mem} {T : Nat} {x v r2 : Int32} {N : Nat → Nat} {σ2 : Mem} {u : String} (I : Inv σ σ T) (h1 : XX_chute σ x v N u) (h2 : PM_chute σ x v r2 σ2) : σ2 26 0 = cdN u ∧ cdN u ≠ 0 ∧ Inv σ2 σ2 (T + 1) := by
  have ht := tH_ok x v
  have key : tH x v = cdN u ∧ cdN u ≠ 0 := by
    rcases h1 with ⟨rfl, q⟩ | ⟨rfl, q, q2⟩
    · exact ⟨ht.1 q, by decide⟩
    · exact ⟨ht.2.1 q q2, by decide⟩
  rcases h2 with ⟨-, -, rfl⟩ | ⟨q, -⟩
  · rw [key.1]; exact ⟨rfl, key.2, Inv_t I _⟩
  · exact absurd (key.1.symm.trans q) key.2
theorem okN_un {σ : Mem} {N N' : Nat → Nat} (h : okN σ N) (h' : okN σ N') {k : Nat} (hk : k < 8) : N k = N' k := by
  have a := h k hk
  have b := h' k hk
  exact (nI_eq (by omega) (by omega)).mp (a.1.symm.trans b.1)
theorem CR_okN {κ μ : Mem} {U : Nat → Nat → Nat} {N : Nat → Nat} {C : Nat} (M : MIx (μ 27) (μ 28) (μ 30) U N C) (h : CR κ μ U N) : okN κ N := fun k hk => ⟨(h k hk).1, (M.1 k hk).2.1⟩
theorem sm_chute {σ : Mem} {T : Nat} {x v r r2 : Int32} {N : Nat → Nat} (hN : okN σ N) {σ1 σ2 : Mem} (I : Inv σ σ T) (h1 : PX_chute σ x v N r σ1) (h2 : PM_chute σ1 x v r2 σ2) : σ2 26 0 = 0 ∧ r2 = r ∧ Inv σ2 σ2 (T + 1) := by
  obtain ⟨k, hk, rfl, hv, rfl, rfl⟩ := h1
  have ht : tH (nI k) v = 0 := (tH_ok _ v).2.2 ⟨k, hk, rfl⟩ hv
  rcases h2 with ⟨q, -⟩ | ⟨-, k2, hk2, e, rfl, rfl⟩
  · exact absurd ht q
  · have := ch_inj hk hk2 e
    subst this
    refine ⟨rfl, ?_, Inv_t I _⟩
    obtain ⟨U, N2, C, M, -, -, hCR, -⟩ := I
    have eN : N k = N2 k := okN_un hN (CR_okN M hCR) hk
    obtain ⟨e2, e1, e3, e4, e5, e6, e7⟩ := hCR k hk
    have z1 := mi_many M hk
    have z2 := mi_zero M hk (x := σ1 28) (row := σ1 (k + 10)) (fun i hi => (e1 i hi).1)
    have z3 := mi_zero M hk (x := σ1 29) (row := σ1 (k + 18)) (fun i hi => (e1 i hi).2)
    unfold chM chC
    rw [z1, z2, z3, e3, e4, e5, e6, e7, e2, eN]
    obtain ⟨j, hj, rfl⟩ := okV_of hv
    match j, hj with
    | 0, _ => rfl
    | 1, _ => rfl
    | 2, _ => rfl
    | 3, _ => rfl
    | 4, _ => rfl
    | 5, _ => rfl
    | 6, _ => rfl
    | 7, _ => rfl
theorem sx_below {σ : Mem} {T : Nat} {x w r2 : Int32} {N : Nat → Nat} {σ2 : Mem} {u : String} (I : Inv σ σ T) (h1 : XX_below σ x w N u) (h2 : PM_below σ x w r2 σ2) : σ2 26 0 = cdN u ∧ cdN u ≠ 0 ∧ Inv σ2 σ2 (T + 1) := by
  have ht := tW_ok x w
  obtain ⟨-, rfl⟩ := h2
  rcases h1 with ⟨rfl, q⟩ | ⟨rfl, q, q2⟩
  · rw [ht.1 q]; exact ⟨rfl, by decide, Inv_t I _⟩
  · rw [ht.2.1 q q2]; exact ⟨rfl, by decide, Inv_t I _⟩
theorem sm_below {σ : Mem} {T : Nat} {x w r r2 : Int32} {N : Nat → Nat} (hN : okN σ N) {σ1 σ2 : Mem} (I : Inv σ σ T) (h1 : PX_below σ x w N r σ1) (h2 : PM_below σ1 x w r2 σ2) : σ2 26 0 = 0 ∧ r2 = r ∧ Inv σ2 σ2 (T + 1) := by
  obtain ⟨k, hk, rfl, hw, rfl, rfl⟩ := h1
  have ht := (tW_ok (nI k) w).2.2 ⟨k, hk, rfl⟩ hw
  obtain ⟨rfl, rfl⟩ := h2
  rw [ht, if_pos rfl]
  refine ⟨rfl, ?_, Inv_t I _⟩
  obtain ⟨U, N2, C, M, -, -, hCR, -⟩ := I
  rw [okN_un hN (CR_okN M hCR) hk]
  exact mi_blw M hk w (fun i hi => ((hCR k hk).2.1 i hi).1)
theorem sx_heavier {σ : Mem} {T : Nat} {x y r2 : Int32} {N : Nat → Nat} {σ2 : Mem} {u : String} (I : Inv σ σ T) (h1 : XX_heavier σ x y N u) (h2 : PM_heavier σ x y r2 σ2) : σ2 26 0 = cd1 u ∧ cd1 u ≠ 0 ∧ Inv σ2 σ2 (T + 1) := by
  have ht := (t2_ok x y).1 h1.2
  rcases h2 with ⟨-, -, rfl⟩ | ⟨q, -⟩
  · rw [ht]; exact ⟨rfl, cd1_ne u, Inv_t I _⟩
  · exact absurd (ht.symm.trans q) (by decide)
theorem cm_eq2 (a b : Int32) : cmM (sg a b) = cmC a b := by
  unfold cmM cmC
  have e : ∀ z : Int32, (sg a b &&& z = 0) = (hd a b z = 0) := fun z => by
    apply propext
    have := hd_val a b z
    constructor
    · intro h; exact Decidable.byContradiction (fun q => (this.mp q) h)
    · intro h; exact Decidable.byContradiction (fun q => (this.mpr q) h)
  simp only [e]
theorem sm_heavier {σ : Mem} {T : Nat} {x y r r2 : Int32} {N : Nat → Nat} (hN : okN σ N) {σ1 σ2 : Mem} (I : Inv σ σ T) (h1 : PX_heavier σ x y N r σ1) (h2 : PM_heavier σ1 x y r2 σ2) : σ2 26 0 = 0 ∧ r2 = r ∧ Inv σ2 σ2 (T + 1) := by
  obtain ⟨a, ha, rfl, b, hb, rfl, rfl, rfl⟩ := h1
  have ht := (t2_ok (nI a) (nI b)).2 ⟨⟨a, ha, rfl⟩, ⟨b, hb, rfl⟩⟩
  rcases h2 with ⟨q, -⟩ | ⟨-, rfl, rfl⟩
  · exact absurd ht q
  · refine ⟨rfl, ?_, Inv_t I _⟩
    obtain ⟨U, N2, C, M, -, -, hCR, -⟩ := I
    have hN2 := CR_okN M hCR
    rw [okN_un hN hN2 ha, okN_un hN hN2 hb, cm_eq2, mi_hv M ha (row := σ1 (a + 10)) (fun i hi => ((hCR a ha).2.1 i hi).1), mi_hv M hb (row := σ1 (b + 10)) (fun i hi => ((hCR b hb).2.1 i hi).1)]
theorem sx_gauge {σ : Mem} {T : Nat} {v r2 : Int32} {σ2 : Mem} {u : String} (I : Inv σ σ T) (h1 : XX_gauge σ v u) (h2 : PM_gauge σ v r2 σ2) : σ2 26 0 = cd1 u ∧ cd1 u ≠ 0 ∧ Inv σ2 σ2 (T + 1) := by
  obtain ⟨-, rfl⟩ := h2
  rw [(tV_ok v).1 h1.2]
  exact ⟨rfl, cd1_ne u, Inv_t I _⟩
theorem sm_gauge {σ : Mem} {T : Nat} {v r r2 : Int32} {σ1 σ2 : Mem} (I : Inv σ σ T) (h1 : PX_gauge σ v r σ1) (h2 : PM_gauge σ1 v r2 σ2) : σ2 26 0 = 0 ∧ r2 = r ∧ Inv σ2 σ2 (T + 1) := by
  obtain ⟨hv, rfl, rfl⟩ := h1
  obtain ⟨rfl, rfl⟩ := h2
  rw [(tV_ok v).2 hv]
  refine ⟨rfl, ?_, Inv_t I _⟩
  obtain ⟨U, N, C, -, -, -, -, hG, -⟩ := I
  obtain ⟨a1, a2, a3, a4, a5, a6, a7, a8, a9, -⟩ := hG
  unfold gqM gC
  rw [a1, a2, a3, a4, a6, a7, a8, a9]
  obtain ⟨j, hj, rfl⟩ := okV_of hv
  match j, hj with
  | 0, _ => rfl
  | 1, _ => rfl
  | 2, _ => rfl
  | 3, _ => rfl
  | 4, _ => rfl
  | 5, _ => rfl
  | 6, _ => rfl
  | 7, _ => rfl
theorem sx_weight {σ : Mem} {T : Nat} {x v r2 : Int32} {N : Nat → Nat} (hN : okN σ N) {σ2 : Mem} {u : String} (I : Inv σ σ T) (h1 : XX_weight σ x v N u) (h2 : PM_weight σ x v r2 σ2) : σ2 26 0 = cdN u ∧ cdN u ≠ 0 ∧ Inv σ2 σ2 (T + 1) := by
  rcases h1 with ⟨rfl, q⟩ | ⟨rfl, k, hk, rfl, q⟩
  · rcases h2 with ⟨-, -, rfl⟩ | ⟨z, -⟩ | ⟨z, -⟩
    · exact ⟨rfl, by decide, Inv_t I _⟩
    · exact absurd ((iw_isCh x).mp z) q
    · exact absurd ((iw_isCh x).mp z) q
  · rcases h2 with ⟨z, -⟩ | ⟨-, p, hp, hat, -⟩ | ⟨-, -, -, rfl⟩
    · exact absurd z (iw_k hk)
    · exfalso
      obtain ⟨U, N2, C, M, -, -, hCR, -⟩ := I
      obtain ⟨i, hi, e, -⟩ := (mi_at M hk hp).mp hat
      exact q ⟨i, by rw [okN_un hN (CR_okN M hCR) hk]; exact hi, e⟩
    · exact ⟨rfl, by decide, Inv_t I _⟩
theorem sm_weight {σ : Mem} {T : Nat} {x v r r2 : Int32} {N : Nat → Nat} (hN : okN σ N) {σ1 σ2 : Mem} (I : Inv σ σ T) (h1 : PX_weight σ x v N r σ1) (h2 : PM_weight σ1 x v r2 σ2) : σ2 26 0 = 0 ∧ r2 = r ∧ Inv σ2 σ2 (T + 1) := by
  obtain ⟨k, hk, rfl, q, hq, rfl, rfl, rfl⟩ := h1
  obtain ⟨U, N2, C, M, hC, hCT, hCR, hGR, hcl⟩ := id I
  have eN := okN_un hN (CR_okN M hCR) hk
  rw [eN] at hq
  have hlt := ((M.1 k hk).1.1 q hq).1
  have h12 := (M.1 k hk).2.1
  rcases h2 with ⟨z, -⟩ | ⟨-, p, hp, hat, rfl, rfl⟩ | ⟨-, -, z, -⟩
  · exact absurd z (iw_k hk)
  · obtain ⟨i, hi, e, rfl⟩ := (mi_at M hk hp).mp hat
    have := (nI_eq (by omega) (by omega)).mp e
    subst this
    exact ⟨rfl, ((hCR k hk).2.1 q hq).1.symm, Inv_t I _⟩
  · exact absurd ((mi_at M hk hlt).mpr ⟨q, hq, rfl, rfl⟩) (z _ hlt)
theorem sx_girth {σ : Mem} {T : Nat} {x v r2 : Int32} {N : Nat → Nat} (hN : okN σ N) {σ2 : Mem} {u : String} (I : Inv σ σ T) (h1 : XX_girth σ x v N u) (h2 : PM_girth σ x v r2 σ2) : σ2 26 0 = cdN u ∧ cdN u ≠ 0 ∧ Inv σ2 σ2 (T + 1) := by
  rcases h1 with ⟨rfl, q⟩ | ⟨rfl, k, hk, rfl, q⟩
  · rcases h2 with ⟨-, -, rfl⟩ | ⟨z, -⟩ | ⟨z, -⟩
    · exact ⟨rfl, by decide, Inv_t I _⟩
    · exact absurd ((iw_isCh x).mp z) q
    · exact absurd ((iw_isCh x).mp z) q
  · rcases h2 with ⟨z, -⟩ | ⟨-, p, hp, hat, -⟩ | ⟨-, -, -, rfl⟩
    · exact absurd z (iw_k hk)
    · exfalso
      obtain ⟨U, N2, C, M, -, -, hCR, -⟩ := I
      obtain ⟨i, hi, e, -⟩ := (mi_at M hk hp).mp hat
      exact q ⟨i, by rw [okN_un hN (CR_okN M hCR) hk]; exact hi, e⟩
    · exact ⟨rfl, by decide, Inv_t I _⟩
theorem sm_girth {σ : Mem} {T : Nat} {x v r r2 : Int32} {N : Nat → Nat} (hN : okN σ N) {σ1 σ2 : Mem} (I : Inv σ σ T) (h1 : PX_girth σ x v N r σ1) (h2 : PM_girth σ1 x v r2 σ2) : σ2 26 0 = 0 ∧ r2 = r ∧ Inv σ2 σ2 (T + 1) := by
  obtain ⟨k, hk, rfl, q, hq, rfl, rfl, rfl⟩ := h1
  obtain ⟨U, N2, C, M, hC, hCT, hCR, hGR, hcl⟩ := id I
  have eN := okN_un hN (CR_okN M hCR) hk
  rw [eN] at hq
  have hlt := ((M.1 k hk).1.1 q hq).1
  have h12 := (M.1 k hk).2.1
  rcases h2 with ⟨z, -⟩ | ⟨-, p, hp, hat, rfl, rfl⟩ | ⟨-, -, z, -⟩
  · exact absurd z (iw_k hk)
  · obtain ⟨i, hi, e, rfl⟩ := (mi_at M hk hp).mp hat
    have := (nI_eq (by omega) (by omega)).mp e
    subst this
    exact ⟨rfl, ((hCR k hk).2.1 q hq).2.symm, Inv_t I _⟩
  · exact absurd ((mi_at M hk hlt).mpr ⟨q, hq, rfl, rfl⟩) (z _ hlt)
theorem sx_alike {σ : Mem} {T : Nat} {x y r2 : Int32} {N : Nat → Nat} {σ2 : Mem} {u : String} (I : Inv σ σ T) (h1 : XX_alike σ x y N u) (h2 : PM_alike σ x y r2 σ2) : σ2 26 0 = cd1 u ∧ cd1 u ≠ 0 ∧ Inv σ2 σ2 (T + 1) := by
  have ht := (t2_ok x y).1 h1.2
  rcases h2 with ⟨-, -, rfl⟩ | ⟨q, -⟩
  · rw [ht]; exact ⟨rfl, cd1_ne u, Inv_t I _⟩
  · exact absurd (ht.symm.trans q) (by decide)
theorem sm_alike {σ : Mem} {T : Nat} {x y r r2 : Int32} {N : Nat → Nat} (hN : okN σ N) {σ1 σ2 : Mem} (I : Inv σ σ T) (h1 : PX_alike σ x y N r σ1) (h2 : PM_alike σ1 x y r2 σ2) : σ2 26 0 = 0 ∧ r2 = r ∧ Inv σ2 σ2 (T + 1) := by
  obtain ⟨a, ha, rfl, b, hb, rfl, i, rfl, hi, hg, hbd, rfl⟩ := h1
  have ht := (t2_ok (nI a) (nI b)).2 ⟨⟨a, ha, rfl⟩, ⟨b, hb, rfl⟩⟩
  obtain ⟨U, N2, C, M, hC, hCT, hCR, hGR, hcl⟩ := id I
  have hN2 := CR_okN M hCR
  rw [okN_un hN hN2 ha, okN_un hN hN2 hb] at hi hbd
  have ka := (M.1 a ha).2.1
  have kb := (M.1 b hb).2.1
  rcases h2 with ⟨q, -⟩ | ⟨-, j, hj, rfl, hgj, hbj, rfl⟩
  · exact absurd ht q
  · have gi : ∀ t, good σ1 (nI a) (nI b) t → t < N2 a ∧ t < N2 b ∧ (t ≤ 12 → hd (σ1 (a + 10) t) (σ1 (b + 10) t) 16 ≠ 0 ∧ hd (σ1 (a + 18) t) (σ1 (b + 18) t) 16 ≠ 0) ∨ 12 < t := fun t ⟨p, q, hp, hq, h1, h2, h3, h4⟩ => by
      rcases Nat.lt_or_ge 12 t with z | z
      · exact Or.inr z
      · obtain ⟨i1, k1, e1, rfl⟩ := (mi_at M ha hp).mp h1
        obtain ⟨i2, k2, e2, rfl⟩ := (mi_at M hb hq).mp h2
        have d1 := (nI_eq (by omega) (by omega)).mp e1
        have d2 := (nI_eq (by omega) (by omega)).mp e2
        subst d1; subst d2
        refine Or.inl ⟨k1, k2, fun _ => ?_⟩
        rw [((hCR a ha).2.1 t k1).1, ((hCR a ha).2.1 t k1).2, ((hCR b hb).2.1 t k2).1, ((hCR b hb).2.1 t k2).2]
        exact ⟨h3, h4⟩
    have bi : ∀ t, t < N2 a → t < N2 b → bad σ1 (nI a) (nI b) t → hd (σ1 (a + 10) t) (σ1 (b + 10) t) 16 = 0 ∨ hd (σ1 (a + 18) t) (σ1 (b + 18) t) 16 = 0 := fun t k1 k2 hz => by
      have l1 := ((M.1 a ha).1.1 t k1).1
      have l2 := ((M.1 b hb).1.1 t k2).1
      rcases hz with z | z | ⟨p, q, hp, hq, h1, h2, h3⟩
      · exact absurd ((mi_at M ha l1).mpr ⟨t, k1, rfl, rfl⟩) (z _ l1)
      · exact absurd ((mi_at M hb l2).mpr ⟨t, k2, rfl, rfl⟩) (z _ l2)
      · obtain ⟨i1, j1, e1, rfl⟩ := (mi_at M ha hp).mp h1
        obtain ⟨i2, j2, e2, rfl⟩ := (mi_at M hb hq).mp h2
        have d1 := (nI_eq (by omega) (by omega)).mp e1
        have d2 := (nI_eq (by omega) (by omega)).mp e2
        subst d1; subst d2
        rw [((hCR a ha).2.1 t k1).1, ((hCR a ha).2.1 t k1).2, ((hCR b hb).2.1 t k2).1, ((hCR b hb).2.1 t k2).2]
        exact h3
    refine ⟨rfl, ?_, Inv_t I _⟩
    congr 1
    rcases Nat.lt_trichotomy j i with z | z | z
    · exfalso
      have h1 := hg j z
      rcases bi j (by omega) (by omega) (hbj (by omega)) with q | q
      · exact h1.1 q
      · exact h1.2 q
    · exact z
    · exfalso
      rcases gi i (hgj i z) with ⟨k1, k2, h1⟩ | q
      · rcases hbd (by omega) with q | q
        · exact (h1 (by omega)).1 q
        · exact (h1 (by omega)).2 q
      · omega

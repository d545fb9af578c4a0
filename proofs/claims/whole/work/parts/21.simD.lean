theorem e0i (a : Int32) : a = 0 ↔ a.toInt = 0 := ⟨fun z => by rw [z]; rfl, fun z => Int32.toInt_inj.mp z⟩
theorem okW_pos {w : Int32} (h : okW w) : 0 ≤ w.toInt := by
  have := h.1
  rw [Int32.lt_iff_toInt_lt] at this
  have z : (0 : Int32).toInt = 0 := rfl
  omega
theorem okG_pos {w : Int32} (h : okG w) : 0 ≤ w.toInt := by
  have := h.1
  rw [Int32.lt_iff_toInt_lt] at this
  have z : (0 : Int32).toInt = 0 := rfl
  omega
theorem gl_eq {w x : Int32} (hw : 0 ≤ w.toInt) (hx : 0 ≤ x.toInt) : gl w x = lgM w x ∧ 0 ≤ (gl w x).toInt := by
  have z : (0 : Int32).toInt = 0 := rfl
  have h1 := hd_1 w x
  unfold lgM
  by_cases x0 : x = 0
  · rw [gl_0 x0]
    refine ⟨?_, hw⟩
    by_cases w0 : w ≤ 0
    · rw [if_pos w0, x0]
      rw [Int32.le_iff_toInt_le] at w0
      exact (e0i w).mpr (by omega)
    · rw [if_neg w0, if_pos x0]
  · have x1 : x.toInt ≠ 0 := z_ne.mp x0
    by_cases hh : hd w x 1 = 0
    · rw [gl_k x0 hh]
      refine ⟨?_, hx⟩
      have h2 : ¬ (w.toInt ≠ 0 ∧ x.toInt ≠ 0 ∧ w.toInt < x.toInt) := fun q => (h1.mpr q) hh
      by_cases w0 : w ≤ 0
      · rw [if_pos w0]
      · rw [if_neg w0, if_neg x0]
        rw [Int32.le_iff_toInt_le] at w0
        rw [if_pos (by rw [Int32.le_iff_toInt_le]; omega)]
    · rw [gl_w x0 hh]
      have h2 := h1.mp hh
      refine ⟨?_, hw⟩
      rw [if_neg (by rw [Int32.le_iff_toInt_le]; omega), if_neg x0, if_neg (by rw [Int32.le_iff_toInt_le]; omega)]
theorem gh_eq {w x : Int32} (hw : 0 ≤ w.toInt) (hx : 0 ≤ x.toInt) : gh w x = gtM w x ∧ 0 ≤ (gh w x).toInt := by
  have z : (0 : Int32).toInt = 0 := rfl
  have h1 := hd_4 w x
  unfold gtM
  by_cases x0 : x = 0
  · rw [gh_0 x0]
    refine ⟨?_, hw⟩
    by_cases w0 : w ≤ x
    · rw [if_pos w0, x0]
      rw [Int32.le_iff_toInt_le, x0] at w0
      exact (e0i w).mpr (by omega)
    · rw [if_neg w0]
  · have x1 : x.toInt ≠ 0 := z_ne.mp x0
    by_cases hh : hd w x 4 = 0
    · rw [gh_k x0 hh]
      refine ⟨?_, hx⟩
      have h2 : ¬ (w.toInt ≠ 0 ∧ x.toInt ≠ 0 ∧ x.toInt < w.toInt) := fun q => (h1.mpr q) hh
      rw [if_pos (by rw [Int32.le_iff_toInt_le]; omega)]
    · rw [gh_w x0 hh]
      have h2 := h1.mp hh
      refine ⟨?_, hw⟩
      rw [if_neg (by rw [Int32.le_iff_toInt_le]; omega)]
theorem st_eq {w b z s : Int32} {n : Nat} (hs : s = nI n) (hn : n ≤ 600) (hb : n = 0 → b = 0) : stk w b z = stM b s z w := by
  unfold stk stM
  by_cases h : s ≤ 0
  · rw [if_pos h]
    have n0 : n = 0 := by
      rcases Nat.eq_zero_or_pos n with q | q
      · exact q
      · rw [hs] at h; exact absurd h (nI_nle q (by omega))
    have h0 : hd w b 1 = 0 := Decidable.byContradiction (fun q => ((hd_1 w b).mp q).2.1 ((e0i b).mp (hb n0)))
    rw [if_pos h0]
  · rw [if_neg h]
theorem gr_send {κ μ κ' μ' : Mem} {T : Nat} {w g : Int32} (h : GR κ μ T) (hT : T ≤ 600) (hw : okW w) (hg : okG g) (hk : κ' 0 = rgC κ w g 0) (hm : ∀ f, 11 ≤ f → μ' 26 f = gM μ w g 26 f) : GR κ' μ' (T + 1) := by
  obtain ⟨a1, a2, a3, a4, a5, a6, a7, a8, a9, b1, b2, b3, s, s1, s2, s3⟩ := h
  have w0 := okW_pos hw
  have g0 := okG_pos hg
  have q1 := gl_eq w0 b1
  have q2 := gh_eq w0 b2
  have q3 := gh_eq g0 b3
  unfold GR
  rw [hk, hm 11 (by omega), hm 12 (by omega), hm 13 (by omega), hm 14 (by omega), hm 15 (by omega), hm 16 (by omega), hm 17 (by omega), hm 18 (by omega), hm 19 (by omega)]
  refine ⟨?_, ?_, ?_, ?_, rfl, ?_, a7, a8, a9, q1.2, q2.2, q3.2, s + 1, by omega, ?_, fun z => by omega⟩
  · show gl w (κ 0 1) = lgM w (μ 26 11)
    rw [← a1]; exact q1.1
  · show gh w (κ 0 2) = gtM w (μ 26 12)
    rw [← a2]; exact q2.1
  · show gh g (κ 0 3) = gtM g (μ 26 13)
    rw [← a3]; exact q3.1
  · show stk w (κ 0 6) (κ 0 4) = stM (μ 26 15) (μ 26 16) (μ 26 14) w
    rw [← a4, ← a5, ← a6]
    exact st_eq s2 (by omega) s3
  · show κ 0 5 + 1 = μ 26 16 + 1
    rw [a6]
  · show κ 0 5 + 1 = nI (s + 1)
    rw [s2]; exact nI_1 s
theorem gr_as {κ μ κ' μ' : Mem} {T : Nat} {w g : Int32} (h : GR κ μ T) (hk : κ' 0 = asC κ w g 0) (hm : ∀ f, 11 ≤ f → μ' 26 f = asM μ w g 26 f) : GR κ' μ' T := by
  obtain ⟨a1, a2, a3, a4, a5, a6, a7, a8, a9, b1, b2, b3, s, s1, s2, s3⟩ := h
  unfold GR
  rw [hk, hm 11 (by omega), hm 12 (by omega), hm 13 (by omega), hm 14 (by omega), hm 15 (by omega), hm 16 (by omega), hm 17 (by omega), hm 18 (by omega), hm 19 (by omega)]
  refine ⟨a1, a2, a3, a4, a5, a6, ?_, rfl, rfl, b1, b2, b3, s, s1, s2, s3⟩
  show κ 0 7 + 1 = μ 26 17 + 1
  rw [a7]
theorem rgC_ne (σ : Mem) (w g : Int32) {j : Nat} (h : j ≠ 0) : rgC σ w g j = σ j := by
  unfold rgC
  rw [m_up_ne _ _ _ h, m_up_ne _ _ _ h, m_up_ne _ _ _ h, m_up_ne _ _ _ h, m_up_ne _ _ _ h, m_up_ne _ _ _ h]
theorem asC_ne (σ : Mem) (w g : Int32) {j : Nat} (h : j ≠ 0) : asC σ w g j = σ j := by
  unfold asC
  rw [m_up_ne _ _ _ h, m_up_ne _ _ _ h, m_up_ne _ _ _ h]
theorem gM_ne (σ : Mem) (w g : Int32) {j : Nat} (h : j ≠ 26) : gM σ w g j = σ j := by
  unfold gM
  rw [m_up_ne _ _ _ h, m_up_ne _ _ _ h, m_up_ne _ _ _ h, m_up_ne _ _ _ h, m_up_ne _ _ _ h, m_up_ne _ _ _ h]
theorem asM_ne (σ : Mem) (w g : Int32) {j : Nat} (h : j ≠ 26) : asM σ w g j = σ j := by
  unfold asM
  rw [m_up_ne _ _ _ h, m_up_ne _ _ _ h, m_up_ne _ _ _ h]
theorem put_ne (σ : Mem) (f : Nat) (w g c : Int32) {j : Nat} (h : j < 26 ∨ 31 ≤ j) : m_put σ f w g c j = σ j := by
  unfold m_put
  rw [m_up_ne _ _ _ (by omega), m_up_ne _ _ _ (by omega), m_up_ne _ _ _ (by omega), m_up_ne _ _ _ (by omega), m_up_ne _ _ _ (by omega)]
theorem gM_congr {σ τ : Mem} (w g : Int32) (h : ∀ f, 0 < f → σ 26 f = τ 26 f) {f : Nat} (hf : 11 ≤ f) : gM σ w g 26 f = gM τ w g 26 f := by
  simp only [gM, m_up_get, h 11 (by omega), h 12 (by omega), h 13 (by omega), h 14 (by omega), h 15 (by omega), h 16 (by omega), h f (by omega)]
theorem sx_send {σ : Mem} {T : Nat} {w g r2 : Int32} {N : Nat → Nat} {σ2 : Mem} {u : String} (I : Inv σ σ T) (h1 : XX_send σ w g N u) (h2 : PM_send σ w g r2 σ2) : σ2 26 0 = cd1 u ∧ cd1 u ≠ 0 ∧ Inv σ2 σ2 (T + 1) := by
  have ht : tP w g ≠ 0 := fun z => h1.2 ((ip_ok w g).mp z)
  have ht1 : tP w g = 1 := by
    unfold tP at ht ⊢
    by_cases q : ip w g = 0
    · rw [if_pos q]
    · rw [if_neg q] at ht; exact absurd rfl ht
  rcases h2 with ⟨-, -, rfl⟩ | ⟨q, -⟩
  · rw [ht1]; exact ⟨rfl, cd1_ne u, Inv_t I _⟩
  · exact absurd q ht
theorem first_un {P : Nat → Prop} {i j : Nat} (h1 : P i) (h2 : ∀ a, a < i → ¬ P a) (h3 : P j) (h4 : ∀ a, a < j → ¬ P a) : i = j := by
  rcases Nat.lt_trichotomy i j with z | z | z
  · exact absurd h1 (h4 i z)
  · exact z
  · exact absurd h3 (h2 j z)
theorem put_27 (σ : Mem) (f : Nat) (w g c : Int32) : m_put σ f w g c 27 = upd (σ 27) f c := rfl
theorem put_28 (σ : Mem) (f : Nat) (w g c : Int32) : m_put σ f w g c 28 = upd (σ 28) f w := rfl
theorem put_29 (σ : Mem) (f : Nat) (w g c : Int32) : m_put σ f w g c 29 = upd (σ 29) f g := rfl
theorem put_30 (σ : Mem) (f : Nat) (w g c : Int32) : m_put σ f w g c 30 = upd (σ 30) f (σ 26 5) := rfl
theorem put_0 (σ : Mem) (f : Nat) (w g c : Int32) : m_put σ f w g c 26 0 = σ 26 0 := rfl
theorem put_5 (σ : Mem) (f : Nat) (w g c : Int32) : m_put σ f w g c 26 5 = σ 26 5 + 1 := rfl
theorem gM_0 (σ : Mem) (w g : Int32) : gM σ w g 26 0 = σ 26 0 := rfl
theorem gM_5 (σ : Mem) (w g : Int32) : gM σ w g 26 5 = σ 26 5 := rfl
theorem asM_0 (σ : Mem) (w g : Int32) : asM σ w g 26 0 = σ 26 0 := rfl
theorem asM_5 (σ : Mem) (w g : Int32) : asM σ w g 26 5 = σ 26 5 := rfl
theorem up_0 (σ : Mem) : m_up σ 26 0 0 26 0 = 0 := rfl
theorem up_5 (σ : Mem) : m_up σ 26 0 0 26 5 = σ 26 5 := rfl
theorem sm_send {σ : Mem} {T : Nat} {w g r r2 : Int32} {N : Nat → Nat} (hN : okN σ N) (hT : T ≤ 600) {σ1 σ2 : Mem} (I : Inv σ σ T) (h1 : PX_send σ w g N r σ1) (h2 : PM_send σ1 w g r2 σ2) : σ2 26 0 = 0 ∧ r2 = r ∧ Inv σ2 σ2 (T + 1) := by
  obtain ⟨⟨ow, og⟩, h1⟩ := h1
  obtain ⟨U, N2, C, M, hC, hCT, hCR, hGR, hcl⟩ := I
  have hN2 := CR_okN M hCR
  have eN : ∀ k, k < 8 → N k = N2 k := fun k hk => okN_un hN hN2 hk
  have ht := (ip_ok w g).mpr ⟨ow, og⟩
  have hh : ∀ j, 26 ≤ j → σ1 j = σ j := fun j hj => by
    rcases h1 with ⟨i, hi, -, -, -, q, -, rfl⟩ | ⟨-, -, rfl⟩
    · rw [ins_o _ _ _ hi (Or.inl hj), rgC_ne _ _ _ (by omega)]
    · rw [asC_ne _ _ _ (by omega), rgC_ne _ _ _ (by omega)]
  have htk : ∀ k, k < 8 → (takes (rgC σ w g) N w g k ↔ takM σ1 w g k) := fun k hk => by
    obtain ⟨-, -, e3, e4, e5, e6, e7⟩ := hCR k hk
    have h12 := (M.1 k hk).2.1
    unfold takes takM
    rw [rgC_ne σ w g (show k + 2 ≠ 0 by omega), hh 27 (by omega), hh 31 (by omega), hh 32 (by omega), hh 33 (by omega), hh 34 (by omega), hh 35 (by omega), e3, e4, e5, e6, e7, fit_eq, mi_many M hk, eN k hk, show (12 : Int32) = nI 12 from rfl, nI_leI (by omega) (by omega)]
    constructor
    · rintro ⟨a, b, c⟩; exact ⟨a, by omega, c⟩
    · rintro ⟨a, b, c⟩; exact ⟨a, by omega, c⟩
  have hgs : ∀ f, 0 < f → m_up σ1 26 0 0 26 f = σ 26 f := fun f hf => by rw [m_up_get, if_neg (by omega), hh 26 (by omega)]
  rcases h2 with ⟨z, -⟩ | ⟨-, h2⟩
  · exact absurd ht z
  · rcases h1 with ⟨i, hi, rfl, t1, t2, q, hq, rfl⟩ | ⟨rfl, t2, rfl⟩
    · rcases h2 with ⟨i2, hi2, rfl, u1, u2, f, hf, hfe, rfl⟩ | ⟨-, u2, -⟩
      · have ei : i = i2 := first_un (P := fun k => k < 8 ∧ takM (m_ins (rgC σ w g) i q (N i) w g) w g k) ⟨hi, (htk i hi).mp t1⟩ (fun a ha z => t2 a ha ((htk a z.1).mpr z.2)) ⟨hi2, u1⟩ (fun a ha z => u2 a ha z.2)
        subst ei
        rw [hh 27 (by omega)] at hfe
        rw [eN i hi] at hq hh hgs ⊢
        have hlt : N2 i < 12 := by have := t1.2.1; rw [eN i hi] at this; exact this
        have hql : q ≤ N2 i := hq.1
        have hqU : plU (σ 28) (U i) (N2 i) w q := by
          refine ⟨hq.1, hq.2.imp id (fun ⟨z1, z2, z3⟩ => ⟨z1, fun a ha => ?_, fun hlt => ?_⟩)⟩
          · have := z2 a ha
            rw [rgC_ne σ w g (show i + 10 ≠ 0 by omega), ((hCR i hi).2.1 a (by omega)).1] at this
            exact this
          · have := z3 hlt
            rw [rgC_ne σ w g (show i + 10 ≠ 0 by omega), ((hCR i hi).2.1 q hlt).1] at this
            exact this
        have M2 := mi_ins M hi hlt hf hfe (okW_pos ow) (by omega) hqU
        have r27 : m_put (gM (m_up (m_ins (rgC σ w g) i q (N2 i) w g) 26 0 0) w g) f w g (nI i) 27 = upd (σ 27) f (nI i) := by rw [put_27, gM_ne _ _ _ (by omega), m_up_ne _ _ _ (by omega), hh 27 (by omega)]
        have r28 : m_put (gM (m_up (m_ins (rgC σ w g) i q (N2 i) w g) 26 0 0) w g) f w g (nI i) 28 = upd (σ 28) f w := by rw [put_28, gM_ne _ _ _ (by omega), m_up_ne _ _ _ (by omega), hh 28 (by omega)]
        have r29 : m_put (gM (m_up (m_ins (rgC σ w g) i q (N2 i) w g) 26 0 0) w g) f w g (nI i) 29 = upd (σ 29) f g := by rw [put_29, gM_ne _ _ _ (by omega), m_up_ne _ _ _ (by omega), hh 29 (by omega)]
        have r30 : m_put (gM (m_up (m_ins (rgC σ w g) i q (N2 i) w g) 26 0 0) w g) f w g (nI i) 30 = upd (σ 30) f (nI C) := by rw [put_30, gM_ne _ _ _ (by omega), m_up_ne _ _ _ (by omega), hh 30 (by omega), gM_5, up_5, hh 26 (by omega), hC]
        have rlo : ∀ j, j < 26 → m_put (gM (m_up (m_ins (rgC σ w g) i q (N2 i) w g) 26 0 0) w g) f w g (nI i) j = m_ins (rgC σ w g) i q (N2 i) w g j := fun j hj => by
          rw [put_ne _ _ _ _ _ (Or.inl hj), gM_ne _ _ _ (by omega), m_up_ne _ _ _ (by omega)]
        have rhi : ∀ j, 31 ≤ j → m_put (gM (m_up (m_ins (rgC σ w g) i q (N2 i) w g) 26 0 0) w g) f w g (nI i) j = σ j := fun j hj => by
          rw [put_ne _ _ _ _ _ (Or.inr hj), gM_ne _ _ _ (by omega), m_up_ne _ _ _ (by omega), hh j (by omega)]
        have hne : ∀ d, d < 8 → ∀ j, j < N2 d → U d j ≠ f := fun d hd j hj z => by
          have h1 : σ 27 (U d j) = nI d := ((M.1 d hd).1.1 j hj).2
          rw [z, hfe] at h1
          exact ch_m1 hd h1
        refine ⟨by rw [put_0, gM_0, up_0], rfl, insU U i q (N2 i) f, addN N2 i, C + 1, ?_, ?_, by omega, ?_, ?_, fun c hc8 => ?_⟩
        · rw [r27, r28, r30]; exact M2
        · rw [put_5, gM_5, up_5, hh 26 (by omega), hC]; exact nI_1 C
        · have hz : CR (rgC σ w g) σ U N2 := CR_congr hCR (fun j h1 h2 => rgC_ne σ w g (by omega)) (fun j _ _ => rfl)
          refine CR_congr (cr_ins (μ' := m_put (gM (m_up (m_ins (rgC σ w g) i q (N2 i) w g) 26 0 0) w g) f w g (nI i)) hz hi hql (fun d hd j hj => ?_) ⟨?_, ?_⟩ (fun j h1 h2 => rhi j h1)) (fun j h1 h2 => rlo j h2) (fun j h1 h2 => rfl)
          · rw [r28, r29, upd_n _ _ (hne d hd j hj), upd_n _ _ (hne d hd j hj)]; exact ⟨rfl, rfl⟩
          · rw [r28, upd_s]
          · rw [r29, upd_s]
        · refine gr_send hGR hT ow og ?_ (fun f2 hf2 => ?_)
          · rw [rlo 0 (by omega), ins_o _ _ _ hi (Or.inr (by omega))]
          · rw [← gM_congr w g hgs hf2]
            unfold m_put
            rw [m_up_get, if_neg (by omega), m_up_get, if_neg (by omega), m_up_get, if_neg (by omega), m_up_get, if_neg (by omega), m_up_get, if_neg (by omega)]
        · rw [rhi 35 (by omega)]; exact hcl c hc8
      · exact absurd ((htk i hi).mp t1) (u2 i hi)
    · rcases h2 with ⟨i2, hi2, -, u1, -⟩ | ⟨rfl, u2, rfl⟩
      · exact absurd ((htk i2 hi2).mpr u1) (t2 i2 hi2)
      · have rlo : ∀ j, j < 26 → asM (gM (m_up (asC (rgC σ w g) w g) 26 0 0) w g) w g j = asC (rgC σ w g) w g j := fun j hj => by
          rw [asM_ne _ _ _ (by omega), gM_ne _ _ _ (by omega), m_up_ne _ _ _ (by omega)]
        have rhi : ∀ j, 27 ≤ j → asM (gM (m_up (asC (rgC σ w g) w g) 26 0 0) w g) w g j = σ j := fun j hj => by
          rw [asM_ne _ _ _ (by omega), gM_ne _ _ _ (by omega), m_up_ne _ _ _ (by omega), hh j (by omega)]
        refine ⟨by rw [asM_0, gM_0, up_0], rfl, U, N2, C, ?_, ?_, by omega, CR_congr hCR (fun j h1 h2 => ?_) (fun j h1 h2 => rhi j (by omega)), ?_, fun c hc8 => ?_⟩
        · rw [rhi 27 (by omega), rhi 28 (by omega), rhi 30 (by omega)]; exact M
        · rw [asM_5, gM_5, up_5, hh 26 (by omega)]; exact hC
        · rw [rlo j h2, asC_ne _ _ _ (by omega), rgC_ne _ _ _ (by omega)]
        · refine gr_as (κ := rgC σ w g) (μ := gM (m_up (asC (rgC σ w g) w g) 26 0 0) w g) (w := w) (g := g) (gr_send hGR hT ow og rfl (fun f2 hf2 => gM_congr w g hgs hf2)) (rlo 0 (by omega)) (fun f2 _ => rfl)
        · rw [rhi 35 (by omega)]; exact hcl c hc8
-- pour
def RR (κ μ : Mem) (U : Nat → Nat → Nat) (N : Nat → Nat) (C : Nat) : Prop := MIx (μ 27) (μ 28) (μ 30) U N C ∧ μ 26 5 = nI C ∧ CR κ μ U N
theorem psteps_hi {a b : Nat} (ha : a < 8) (hb : b < 8) : ∀ (t : Nat) {κ κ' : Mem} {N N' : Nat → Nat} {p p' : Nat}, psteps a b t κ N p κ' N' p' → ∀ j, (26 ≤ j ∨ j < 2) → κ' j = κ j := by
  intro t
  induction t with
  | zero => intro κ κ' N N' p p' h j _; rw [h.1]
  | succ t ih =>
    intro κ κ' N N' p p' h j hj
    obtain ⟨κ1, N1, p1, h1, h2⟩ := h
    rw [← ih h1 j hj]
    rcases h2 with ⟨-, rfl, -⟩ | ⟨-, -, q, -, rfl, -⟩
    · rfl
    · rw [rem_o _ ha hj, ins_o _ _ _ hb hj]
theorem NN_comm (N : Nat → Nat) {a b : Nat} (hab : a ≠ b) : addN (subN N a) b = subN (addN N b) a := by
  funext c
  by_cases ca : c = a
  · subst ca
    rw [addN_ne _ hab, subN_self, subN_self, addN_ne _ hab]
  · by_cases cb : c = b
    · subst cb
      rw [addN_self, subN_ne _ ca, subN_ne _ ca, addN_self]
    · rw [addN_ne _ cb, subN_ne _ ca, subN_ne _ ca, addN_ne _ cb]
theorem UU_comm (U : Nat → Nat → Nat) {a b : Nat} (hab : a ≠ b) (p n q m f : Nat) : insU (remU U a p n) b q m f = remU (insU U b q m f) a p n := by
  funext c
  by_cases ca : c = a
  · subst ca
    rw [insU_ne _ _ _ _ hab, remU_self, remU_self, insU_ne _ _ _ _ hab]
  · by_cases cb : c = b
    · subst cb
      rw [insU_self, remU_ne _ _ _ ca, remU_ne _ _ _ ca, insU_self]
    · rw [insU_ne _ _ _ _ cb, remU_ne _ _ _ ca, remU_ne _ _ _ ca, insU_ne _ _ _ _ cb]
theorem mov_ne (σ : Mem) (f : Nat) (c : Int32) {j : Nat} (h1 : j ≠ 26) (h2 : j ≠ 27) (h3 : j ≠ 30) : m_mov σ f c j = σ j := by
  unfold m_mov
  rw [m_up_ne _ _ _ h1, m_up_ne _ _ _ h3, m_up_ne _ _ _ h2]
theorem p_sim {a b : Nat} (ha : a < 8) (hb : b < 8) (hab : a ≠ b) {κ μ : Mem} {U : Nat → Nat → Nat} {N : Nat → Nat} {C : Nat} (hC : C < 100000) (R0 : RR κ μ U N C) : ∀ (t : Nat) {κ' μ' : Mem} {U' : Nat → Nat → Nat} {N' N2' : Nat → Nat} {C' p' p2' : Nat}, t ≤ N a → psteps a b t κ N 0 κ' N' p' → pstepsM a b t μ U N C 0 μ' U' N2' C' p2' → N2' = N' ∧ p2' = p' ∧ RR κ' μ' U' N' C' ∧ p' ≤ t ∧ N' a = N a - (t - p') ∧ C' ≤ C + t ∧ (∀ j, j ≠ 26 → j ≠ 27 → j ≠ 30 → μ' j = μ j) ∧ ∀ f, f ≠ 5 → μ' 26 f = μ 26 f := by
  have h12 := (R0.1.1 a ha).2.1
  intro t
  induction t with
  | zero =>
    intro κ' μ' U' N' N2' C' p' p2' _ h1 h2
    obtain ⟨rfl, rfl, rfl⟩ := h1
    obtain ⟨rfl, rfl, rfl, rfl, rfl⟩ := h2
    exact ⟨rfl, rfl, R0, Nat.le_refl _, by omega, by omega, fun _ _ _ _ => rfl, fun _ _ => rfl⟩
  | succ t ih =>
    intro κ' μ' U' N' N2' C' p' p2' ht h1 h2
    obtain ⟨κ1, N1, p1, h1, s1⟩ := h1
    obtain ⟨μ1, U1, N2, C1, p2, h2, s2⟩ := h2
    obtain ⟨rfl, rfl, ⟨M, hM5, hCR⟩, i1, i2, i3, i4, i5⟩ := ih (by omega) h1 h2
    have hp : p2 < N2 a := by omega
    have ra := (hCR a ha).2.1 p2 hp
    obtain ⟨-, -, e3, e4, e5, e6, -⟩ := hCR b hb
    have efit : fitC (κ1 (b + 2) 3) (κ1 (b + 2) 4) (κ1 (b + 2) 5) (κ1 (b + 2) 6) (κ1 (a + 10) p2) (κ1 (a + 18) p2) = fitM (μ1 31 b) (μ1 32 b) (μ1 33 b) (μ1 34 b) (μ1 28 (U1 a p2)) (μ1 29 (U1 a p2)) := by
      rw [fit_eq, e3, e4, e5, e6, ra.1, ra.2]
    unfold pstep at s1
    unfold pstepM at s2
    rw [efit] at s1
    rcases s1 with ⟨c1, rfl, rfl, rfl⟩ | ⟨c1, c2, q, hq, rfl, rfl, hpA⟩
    · rcases s2 with ⟨-, rfl, rfl, rfl, rfl, rfl⟩ | ⟨d1, d2, -⟩
      · exact ⟨rfl, rfl, ⟨M, hM5, hCR⟩, by omega, by omega, by omega, i4, i5⟩
      · exact absurd c1 (fun z => z.elim (fun z => by omega) d2)
    · rcases s2 with ⟨d1, -⟩ | ⟨d1, d2, q2, hq2, rfl, rfl, rfl, rfl, hpB⟩
      · exact absurd d1 (fun z => z.elim (fun z => by omega) c2)
      · have hpA := hpA.symm
        have hpB := hpB.symm
        subst hpA
        subst hpB
        have hqU : plU (μ1 28) (U1 b) (N2 b) (μ1 28 (U1 a p2)) q := by
          rw [ra.1] at hq
          refine ⟨hq.1, hq.2.imp id (fun ⟨z1, z2, z3⟩ => ⟨z1, fun x hx => ?_, fun hlt => ?_⟩)⟩
          · have := z2 x hx
            have hql := hq.1
            rw [((hCR b hb).2.1 x (by omega)).1] at this
            exact this
          · have := z3 hlt
            rw [((hCR b hb).2.1 q hlt).1] at this
            exact this
        have eq := plU_un hqU hq2
        subst eq
        have M2 := mi_mov M ha hb hab hp c1 (by omega) hq2
        have hql := hq2.1
        refine ⟨NN_comm N2 hab, rfl, ⟨?_, ?_, ?_⟩, by omega, ?_, by omega, fun j n1 n2 n3 => by rw [mov_ne _ _ _ n1 n2 n3]; exact i4 j n1 n2 n3, fun f hf => ?_⟩
        · rw [← NN_comm N2 hab]
          have r27 : m_mov μ1 (U1 a p2) (nI b) 27 = upd (μ1 27) (U1 a p2) (nI b) := rfl
          have r28 : m_mov μ1 (U1 a p2) (nI b) 28 = μ1 28 := rfl
          have r30 : m_mov μ1 (U1 a p2) (nI b) 30 = upd (μ1 30) (U1 a p2) (nI C1) := by rw [← hM5]; rfl
          rw [r27, r28, r30]; exact M2
        · show μ1 26 5 + 1 = nI (C1 + 1)
          rw [hM5]; exact nI_1 C1
        · rw [UU_comm U1 hab]
          have hz := cr_ins (μ' := m_mov μ1 (U1 a p2) (nI b)) (f := U1 a p2) (w := κ1 (a + 10) p2) (g := κ1 (a + 18) p2) hCR hb hql (fun d hd j hj => ⟨rfl, rfl⟩) ⟨ra.1.symm, ra.2.symm⟩ (fun j j1 j2 => mov_ne _ _ _ (by omega) (by omega) (by omega))
          have hy := cr_rem (μ' := m_mov μ1 (U1 a p2) (nI b)) (c := a) (q := p2) hz ha (by rw [addN_ne _ hab]; exact hp) (fun j _ _ _ => rfl)
          rw [addN_ne _ hab] at hy
          exact hy
        · rw [subN_self, addN_ne _ hab]; omega
        · show m_mov μ1 (U1 a p2) (nI b) 26 f = μ 26 f
          unfold m_mov
          rw [m_up_get, if_neg (by omega), m_up_ne _ _ _ (by omega), m_up_ne _ _ _ (by omega)]
          exact i5 f hf
theorem sx_pour {σ : Mem} {T : Nat} {x y r2 : Int32} {U : Nat → Nat → Nat} {N N0 : Nat → Nat} {C : Nat} {σ2 : Mem} {u : String} (I : Inv σ σ T) (h1 : XX_pour σ x y N0 u) (h2 : PM_pour σ x y U N C r2 σ2) : σ2 26 0 = cdN u ∧ cdN u ≠ 0 ∧ Inv σ2 σ2 (T + 1) := by
  have ht := tR_ok x y
  have key : tR x y = cdN u ∧ cdN u ≠ 0 := by
    rcases h1 with ⟨rfl, q⟩ | ⟨rfl, q, q2, q3⟩
    · exact ⟨ht.1 q, by decide⟩
    · exact ⟨ht.2.1 ⟨q, q2⟩ q3, by decide⟩
  rcases h2 with ⟨-, -, rfl⟩ | ⟨q, -⟩
  · rw [key.1]; exact ⟨rfl, key.2, Inv_t I _⟩
  · exact absurd (key.1.symm.trans q) key.2
theorem sm_pour {σ : Mem} {T : Nat} {x y r r2 : Int32} {U : Nat → Nat → Nat} {N : Nat → Nat} {C : Nat} (hT : T ≤ 600) (M : MIx (σ 27) (σ 28) (σ 30) U N C) (hC : σ 26 5 = nI C) (hCT : C ≤ 12 * T) (hCR : CR σ σ U N) (hGR : GR σ σ T) (hcl : ∀ c, c < 8 → σ 35 c = 0 ∨ σ 35 c = 1) {σ1 σ2 : Mem} (h1 : PX_pour σ x y N r σ1) (h2 : PM_pour σ1 x y U N C r2 σ2) : σ2 26 0 = 0 ∧ r2 = r ∧ Inv σ2 σ2 (T + 1) := by
  obtain ⟨a, ha, rfl, b, hb, rfl, hab, N', p', hp', rfl, hN', hps⟩ := h1
  have hh := psteps_hi ha hb _ hps
  have ht := (tR_ok (nI a) (nI b)).2.2 ⟨⟨a, ha, rfl⟩, ⟨b, hb, rfl⟩⟩ (fun z => hab (ch_inj ha hb z))
  rcases h2 with ⟨z, -⟩ | ⟨-, a2, ha2, ea, b2, hb2, eb, -, U', N2', C', p2', -, rfl, M', hC', hC12, hpm⟩
  · exact absurd ht z
  · have := ch_inj ha ha2 ea
    subst this
    have := ch_inj hb hb2 eb
    subst this
    have R0 : RR σ (m_up σ1 26 0 0) U N C := by
      refine ⟨?_, ?_, CR_congr hCR (fun j _ _ => rfl) (fun j h1 h2 => by rw [m_up_ne _ _ _ (by omega), hh j (by omega)])⟩
      · rw [m_up_ne _ _ _ (by omega), m_up_ne _ _ _ (by omega), m_up_ne _ _ _ (by omega), hh 27 (by omega), hh 28 (by omega), hh 30 (by omega)]; exact M
      · show σ1 26 5 = nI C
        rw [hh 26 (by omega)]; exact hC
    obtain ⟨rfl, rfl, ⟨Mz, hz5, hCz⟩, -, -, -, j1, j2⟩ := p_sim ha hb hab (by omega) R0 (N a) (Nat.le_refl _) hps hpm
    refine ⟨?_, rfl, U', N2', C', Mz, hz5, by omega, CR_congr hCz (fun j h1 h2 => ?_) (fun j h1 h2 => rfl), GR_congr hGR (by omega) ?_ (fun f hf => ?_), fun c hc8 => ?_⟩
    · rw [j2 0 (by omega)]; rfl
    · rw [j1 j (by omega) (by omega) (by omega), m_up_ne _ _ _ (by omega)]
    · rw [j1 0 (by omega) (by omega) (by omega), m_up_ne _ _ _ (by omega), hh 0 (by omega)]
    · rw [j2 f (by omega), m_up_get, if_neg (by omega), hh 26 (by omega)]
    · rw [j1 35 (by omega) (by omega) (by omega), m_up_ne _ _ _ (by omega), hh 35 (by omega)]; exact hcl c hc8
-- sweep
theorem ssteps_hi {a : Nat} (ha : a < 8) : ∀ (t : Nat) {κ κ' : Mem} {N N' : Nat → Nat} {p p' : Nat}, ssteps a t κ N p κ' N' p' → ∀ j, 26 ≤ j → κ' j = κ j := by
  intro t
  induction t with
  | zero => intro κ κ' N N' p p' h j _; rw [h.1]
  | succ t ih =>
    intro κ κ' N N' p p' h j hj
    obtain ⟨κ1, N1, p1, h1, h2⟩ := h
    rw [← ih h1 j hj]
    rcases h2 with ⟨-, rfl, -⟩ | ⟨-, rfl, -⟩
    · rfl
    · rw [rem_o _ ha (Or.inl hj), asC_ne _ _ _ (by omega)]
theorem s_sim {a : Nat} (ha : a < 8) {κ μ : Mem} {U : Nat → Nat → Nat} {N : Nat → Nat} {C T : Nat} (R0 : RR κ μ U N C) (G0 : GR κ μ T) : ∀ (t : Nat) {κ' μ' : Mem} {U' : Nat → Nat → Nat} {N' N2' : Nat → Nat} {p' p2' : Nat}, t ≤ N a → ssteps a t κ N 0 κ' N' p' → sstepsM a t μ U N 0 μ' U' N2' p2' → N2' = N' ∧ p2' = p' ∧ RR κ' μ' U' N' C ∧ GR κ' μ' T ∧ p' ≤ t ∧ N' a = N a - (t - p') ∧ (∀ j, j ≠ 26 → j ≠ 27 → μ' j = μ j) ∧ μ' 26 0 = μ 26 0 := by
  have h12 := (R0.1.1 a ha).2.1
  intro t
  induction t with
  | zero =>
    intro κ' μ' U' N' N2' p' p2' _ h1 h2
    obtain ⟨rfl, rfl, rfl⟩ := h1
    obtain ⟨rfl, rfl, rfl, rfl⟩ := h2
    exact ⟨rfl, rfl, R0, G0, Nat.le_refl _, by omega, fun _ _ _ => rfl, rfl⟩
  | succ t ih =>
    intro κ' μ' U' N' N2' p' p2' ht h1 h2
    obtain ⟨κ1, N1, p1, h1, s1⟩ := h1
    obtain ⟨μ1, U1, N2, p2, h2, s2⟩ := h2
    obtain ⟨rfl, rfl, ⟨M, hM5, hCR⟩, hG, i1, i2, i4, i5⟩ := ih (by omega) h1 h2
    have hp : p2 < N2 a := by omega
    have ra := (hCR a ha).2.1 p2 hp
    obtain ⟨-, -, e3, e4, e5, e6, -⟩ := hCR a ha
    have efit : fitC (κ1 (a + 2) 3) (κ1 (a + 2) 4) (κ1 (a + 2) 5) (κ1 (a + 2) 6) (κ1 (a + 10) p2) (κ1 (a + 18) p2) = fitM (μ1 31 a) (μ1 32 a) (μ1 33 a) (μ1 34 a) (μ1 28 (U1 a p2)) (μ1 29 (U1 a p2)) := by
      rw [fit_eq, e3, e4, e5, e6, ra.1, ra.2]
    unfold sstep at s1
    unfold sstepM at s2
    rw [efit, ra.1, ra.2] at s1
    rcases s1 with ⟨c1, rfl, rfl, rfl⟩ | ⟨c1, rfl, rfl, hpA⟩
    · rcases s2 with ⟨-, rfl, rfl, rfl, rfl⟩ | ⟨d1, -⟩
      · exact ⟨rfl, rfl, ⟨M, hM5, hCR⟩, hG, by omega, by omega, i4, i5⟩
      · exact absurd d1 c1
    · rcases s2 with ⟨d1, -⟩ | ⟨d1, rfl, rfl, rfl, hpB⟩
      · exact absurd c1 d1
      · have hpA := hpA.symm
        have hpB := hpB.symm
        subst hpA
        subst hpB
        have rne : ∀ j, j ≠ 26 → j ≠ 27 → m_up (asM μ1 (μ1 28 (U1 a p2)) (μ1 29 (U1 a p2))) 27 (U1 a p2) (-1) j = μ1 j := fun j n1 n2 => by
          rw [m_up_ne _ _ _ n2, asM_ne _ _ _ n1]
        refine ⟨rfl, rfl, ⟨mi_rem M ha hp, hM5, ?_⟩, ?_, by omega, ?_, fun j n1 n2 => by rw [rne j n1 n2]; exact i4 j n1 n2, i5⟩
        · have hz : CR (asC κ1 (μ1 28 (U1 a p2)) (μ1 29 (U1 a p2))) μ1 U1 N2 := CR_congr hCR (fun j h1 h2 => asC_ne _ _ _ (by omega)) (fun j _ _ => rfl)
          exact cr_rem hz ha hp (fun j h1 h2 h3 => rne j (by omega) (by omega))
        · refine gr_as hG (w := μ1 28 (U1 a p2)) (g := μ1 29 (U1 a p2)) ?_ (fun f hf => ?_)
          · rw [rem_o _ ha (Or.inr (by omega))]
          · rw [m_up_ne _ _ _ (by omega)]
        · rw [subN_self]; omega
theorem sx_sweep {σ : Mem} {T : Nat} {x r2 : Int32} {U : Nat → Nat → Nat} {N N0 : Nat → Nat} {C : Nat} {σ2 : Mem} {u : String} (I : Inv σ σ T) (h1 : XX_sweep σ x N0 u) (h2 : PM_sweep σ x U N C r2 σ2) : σ2 26 0 = cd1 u ∧ cd1 u ≠ 0 ∧ Inv σ2 σ2 (T + 1) := by
  have ht := (tC_ok x).1 h1.2
  rcases h2 with ⟨-, -, rfl⟩ | ⟨q, -⟩
  · rw [ht]; exact ⟨rfl, cd1_ne u, Inv_t I _⟩
  · exact absurd (ht.symm.trans q) (by decide)
theorem sm_sweep {σ : Mem} {T : Nat} {x r r2 : Int32} {U : Nat → Nat → Nat} {N : Nat → Nat} {C : Nat} (M : MIx (σ 27) (σ 28) (σ 30) U N C) (hC : σ 26 5 = nI C) (hCT : C ≤ 12 * T) (hCR : CR σ σ U N) (hGR : GR σ σ T) (hcl : ∀ c, c < 8 → σ 35 c = 0 ∨ σ 35 c = 1) {σ1 σ2 : Mem} (h1 : PX_sweep σ x N r σ1) (h2 : PM_sweep σ1 x U N C r2 σ2) : σ2 26 0 = 0 ∧ r2 = r ∧ Inv σ2 σ2 (T + 1) := by
  obtain ⟨a, ha, rfl, N', p', hp', rfl, hN', hps⟩ := h1
  have hh := ssteps_hi ha _ hps
  have ht := (tC_ok (nI a)).2 ⟨a, ha, rfl⟩
  rcases h2 with ⟨z, -⟩ | ⟨-, a2, ha2, ea, U', N2', p2', -, rfl, M', hC', hpm⟩
  · exact absurd ht z
  · have := ch_inj ha ha2 ea
    subst this
    have R0 : RR σ (m_up σ1 26 0 0) U N C := by
      refine ⟨?_, ?_, CR_congr hCR (fun j _ _ => rfl) (fun j h1 h2 => by rw [m_up_ne _ _ _ (by omega), hh j (by omega)])⟩
      · rw [m_up_ne _ _ _ (by omega), m_up_ne _ _ _ (by omega), m_up_ne _ _ _ (by omega), hh 27 (by omega), hh 28 (by omega), hh 30 (by omega)]; exact M
      · show σ1 26 5 = nI C
        rw [hh 26 (by omega)]; exact hC
    have G0 : GR σ (m_up σ1 26 0 0) (T + 1) := GR_congr hGR (by omega) rfl (fun f hf => by rw [m_up_get, if_neg (by omega), hh 26 (by omega)])
    obtain ⟨rfl, rfl, ⟨Mz, hz5, hCz⟩, hGz, -, -, j1, j2⟩ := s_sim ha R0 G0 (N a) (Nat.le_refl _) hps hpm
    refine ⟨by rw [j2]; rfl, rfl, U', N2', C, Mz, hz5, by omega, CR_congr hCz (fun j h1 h2 => ?_) (fun j h1 h2 => rfl), GR_congr hGz (by omega) ?_ (fun f hf => rfl), fun c hc8 => ?_⟩
    · rw [j1 j (by omega) (by omega), m_up_ne _ _ _ (by omega)]
    · rw [j1 0 (by omega) (by omega), m_up_ne _ _ _ (by omega)]
    · rw [j1 35 (by omega) (by omega), m_up_ne _ _ _ (by omega), hh 35 (by omega)]; exact hcl c hc8

def insu (u : Nat → Nat) (q n p : Nat) : Nat → Nat := fun a => if a = q then p else if q < a ∧ a ≤ n then u (a - 1) else u a
def remu (u : Nat → Nat) (q n : Nat) : Nat → Nat := fun a => if q ≤ a ∧ a + 1 < n then u (a + 1) else u a
def insU (U : Nat → Nat → Nat) (c q n p : Nat) : Nat → Nat → Nat := fun d => if d = c then insu (U c) q n p else U d
def remU (U : Nat → Nat → Nat) (c q n : Nat) : Nat → Nat → Nat := fun d => if d = c then remu (U c) q n else U d
theorem insU_self (U : Nat → Nat → Nat) (c q n p : Nat) : insU U c q n p c = insu (U c) q n p := if_pos rfl
theorem insU_ne (U : Nat → Nat → Nat) {c d : Nat} (q n p : Nat) (h : d ≠ c) : insU U c q n p d = U d := if_neg h
theorem remU_self (U : Nat → Nat → Nat) (c q n : Nat) : remU U c q n c = remu (U c) q n := if_pos rfl
theorem remU_ne (U : Nat → Nat → Nat) {c d : Nat} (q n : Nat) (h : d ≠ c) : remU U c q n d = U d := if_neg h
theorem addN_self (N : Nat → Nat) (c : Nat) : addN N c c = N c + 1 := if_pos rfl
theorem addN_ne (N : Nat → Nat) {c d : Nat} (h : d ≠ c) : addN N c d = N d := if_neg h
theorem subN_self (N : Nat → Nat) (c : Nat) : subN N c c = N c - 1 := if_pos rfl
theorem subN_ne (N : Nat → Nat) {c d : Nat} (h : d ≠ c) : subN N c d = N d := if_neg h
theorem upd_s (f : Nat → Int32) (k : Nat) (x : Int32) : upd f k x k = x := if_pos rfl
theorem upd_n (f : Nat → Int32) {k j : Nat} (x : Int32) (h : j ≠ k) : upd f k x j = f j := if_neg h
theorem ch_m1 {c : Nat} (h : c < 8) : (-1 : Int32) ≠ nI c := fun z => nI_m1 (p := c) (by omega) z.symm
theorem ch_ne {c d : Nat} (hc : c < 8) (hd : d < 8) (h : d ≠ c) : nI c ≠ nI d := fun z => h (ch_inj hc hd z).symm
theorem remu_e {u : Nat → Nat} {q n j : Nat} (hj : j < n - 1) : remu u q n j = u (if q ≤ j then j + 1 else j) := by
  unfold remu
  by_cases h : q ≤ j
  · rw [if_pos ⟨h, by omega⟩, if_pos h]
  · rw [if_neg (fun z => h z.1), if_neg h]
theorem Lst_congr {Q Q' : Nat → Prop} {u : Nat → Nat} {n : Nat} (h : Lst Q u n) (e : ∀ p, p < 96 → (Q p ↔ Q' p)) : Lst Q' u n :=
  ⟨fun i hi => ⟨(h.1 i hi).1, (e _ (h.1 i hi).1).mp (h.1 i hi).2⟩, fun p hp hq => h.2.1 p hp ((e p hp).mpr hq), h.2.2⟩
theorem mi_rem {h r t : Nat → Int32} {U : Nat → Nat → Nat} {N : Nat → Nat} {C : Nat} (M : MIx h r t U N C) {c i : Nat} (hc : c < 8) (hi : i < N c) : MIx (upd h (U c i) (-1)) r t (remU U c i (N c)) (subN N c) C := by
  refine ⟨fun d hd => ?_, fun p hp => ?_⟩
  · by_cases e : d = c
    · subst e
      rw [remU_self, subN_self]
      obtain ⟨hL, h12, hA⟩ := M.1 d hd
      refine ⟨⟨fun j hj => ?_, fun p hp hq => ?_, fun a b ha hb hab => ?_⟩, by omega, fun a b hab hb => ?_⟩
      · rw [remu_e hj]
        have hj' : (if i ≤ j then j + 1 else j) < N d := by split <;> omega
        refine ⟨(hL.1 _ hj').1, ?_⟩
        show upd h (U d i) (-1) _ = nI d
        rw [upd_n h _ (fun z => by have := hL.2.2 _ _ hj' hi z; split at this <;> omega)]
        exact (hL.1 _ hj').2
      · have hq : upd h (U d i) (-1) p = nI d := hq
        by_cases e2 : p = U d i
        · rw [e2, upd_s] at hq; exact absurd hq (ch_m1 hd)
        · rw [upd_n h _ e2] at hq
          obtain ⟨j, hj, rfl⟩ := hL.2.1 p hp hq
          have hji : j ≠ i := fun z => e2 (by rw [z])
          by_cases h2 : j < i
          · exact ⟨j, by omega, by rw [remu_e (by omega), if_neg (by omega)]⟩
          · exact ⟨j - 1, by omega, by rw [remu_e (by omega), if_pos (by omega)]; congr 1; omega⟩
      · rw [remu_e ha, remu_e hb] at hab
        have := hL.2.2 _ _ (by split <;> omega) (by split <;> omega) hab
        split at this <;> split at this <;> omega
      · rw [remu_e (by omega), remu_e hb]
        exact hA _ _ (by split <;> split <;> omega) (by split <;> omega)
    · rw [remU_ne U _ _ e, subN_ne N e]
      obtain ⟨hL, h12, hA⟩ := M.1 d hd
      refine ⟨Lst_congr hL (fun p hp => ?_), h12, hA⟩
      have hc2 : h (U c i) = nI c := ((M.1 c hc).1.1 i hi).2
      by_cases e2 : p = U c i
      · rw [e2, upd_s, hc2]
        exact ⟨fun z => absurd z (ch_ne hc hd e), fun z => absurd z (ch_m1 hd)⟩
      · rw [upd_n h _ e2]
  · by_cases e2 : p = U c i
    · rw [e2, upd_s]; exact Or.inl rfl
    · rw [upd_n h _ e2]; exact M.2 p hp
/-- the place for a weight among n parcels -/
def plU (r : Nat → Int32) (u : Nat → Nat) (n : Nat) (w : Int32) (q : Nat) : Prop := q ≤ n ∧ ((w = 0 ∧ q = n) ∨ (w ≠ 0 ∧ (∀ a, a < q → hd (r (u a)) w 2 ≠ 0) ∧ (q < n → hd (r (u q)) w 2 = 0)))
theorem insu_e {u : Nat → Nat} {q n p a : Nat} (ha : a ≠ q) (hn : a < n + 1) : insu u q n p a = u (if q < a then a - 1 else a) := by
  unfold insu
  rw [if_neg ha]
  by_cases h : q < a
  · rw [if_pos ⟨h, by omega⟩, if_pos h]
  · rw [if_neg (fun z => h z.1), if_neg h]
theorem insu_s {u : Nat → Nat} {q n p : Nat} : insu u q n p q = p := if_pos rfl
theorem mi_ins {h r t : Nat → Int32} {U : Nat → Nat → Nat} {N : Nat → Nat} {C : Nat} (M : MIx h r t U N C) {c f q : Nat} {w : Int32} (hc : c < 8) (hlt : N c < 12) (hf : f < 96) (hfe : h f = -1) (hw : 0 ≤ w.toInt) (hC : C < 2 ^ 31) (hq : plU r (U c) (N c) w q) : MIx (upd h f (nI c)) (upd r f w) (upd t f (nI C)) (insU U c q (N c) f) (addN N c) (C + 1) := by
  have hz0 : w = 0 → w.toInt = 0 := fun z => by rw [z]; rfl
  have hz1 : w ≠ 0 → w.toInt ≠ 0 := z_ne.mp
  have hCi : (nI C).toInt = (C : Int) := nI_toInt hC
  have hne : ∀ d, d < 8 → ∀ j, j < N d → U d j ≠ f := fun d hd j hj z => by
    have h1 := ((M.1 d hd).1.1 j hj).2
    have h1 : h (U d j) = nI d := h1
    rw [z, hfe] at h1
    exact ch_m1 hd h1
  have hpos : ∀ d, d < 8 → ∀ j, j < N d → 0 ≤ (r (U d j)).toInt ∧ ∃ m : Nat, m < C ∧ (t (U d j)).toInt = (m : Int) := fun d hd j hj => by
    rcases M.2 (U d j) ((M.1 d hd).1.1 j hj).1 with z | ⟨-, z1, m, z2, z3⟩
    · have h1 : h (U d j) = nI d := ((M.1 d hd).1.1 j hj).2
      rw [z] at h1
      exact absurd h1 (ch_m1 hd)
    · exact ⟨z1, m, z2, by rw [z3]; exact nI_toInt (by omega)⟩
  have hAH : ∀ a b, a ≠ f → b ≠ f → (AH (upd r f w) (upd t f (nI C)) a b ↔ AH r t a b) := fun a b ha hb => by
    unfold AH
    rw [upd_n r _ ha, upd_n r _ hb, upd_n t _ ha, upd_n t _ hb]
  refine ⟨fun d hd8 => ?_, fun p hp => ?_⟩
  · by_cases e : d = c
    · subst e
      rw [insU_self, addN_self]
      obtain ⟨hL, h12, hA⟩ := M.1 d hd8
      refine ⟨⟨fun j hj => ?_, fun p hp hq2 => ?_, fun a b ha hb hab => ?_⟩, by omega, fun a b hab hb => ?_⟩
      · by_cases ej : j = q
        · subst ej
          rw [insu_s]
          exact ⟨hf, upd_s _ _ _⟩
        · rw [insu_e ej hj]
          have hj' : (if q < j then j - 1 else j) < N d := by have := hq.1; split <;> omega
          refine ⟨(hL.1 _ hj').1, ?_⟩
          show upd h f (nI d) _ = nI d
          rw [upd_n h _ (hne d hd8 _ hj')]
          exact (hL.1 _ hj').2
      · have hq2 : upd h f (nI d) p = nI d := hq2
        by_cases e2 : p = f
        · exact ⟨q, by have := hq.1; omega, by rw [insu_s, e2]⟩
        · rw [upd_n h _ e2] at hq2
          obtain ⟨j, hj, rfl⟩ := hL.2.1 p hp hq2
          by_cases h2 : j < q
          · exact ⟨j, by omega, by rw [insu_e (by omega) (by omega), if_neg (by omega)]⟩
          · exact ⟨j + 1, by omega, by rw [insu_e (by omega) (by omega), if_pos (by omega)]; rfl⟩
      · have hqn := hq.1
        by_cases ea : a = q
        · by_cases eb : b = q
          · omega
          · rw [ea, insu_s, insu_e eb hb] at hab
            exact absurd hab.symm (hne d hd8 _ (by split <;> omega))
        · by_cases eb : b = q
          · rw [eb, insu_s, insu_e ea ha] at hab
            exact absurd hab (hne d hd8 _ (by split <;> omega))
          · rw [insu_e ea ha, insu_e eb hb] at hab
            have := hL.2.2 _ _ (by split <;> omega) (by split <;> omega) hab
            split at this <;> split at this <;> omega
      · have hqn := hq.1
        by_cases ea : a = q
        · rw [ea, insu_s, insu_e (by omega) hb, if_pos (by omega)]
          have hb1 : b - 1 < N d := by omega
          have hx := hpos d hd8 (b - 1) hb1
          have hnb := hne d hd8 (b - 1) hb1
          unfold AH
          rw [upd_s, upd_n r _ hnb, upd_n t _ hnb, upd_s]
          rcases hq.2 with ⟨-, z⟩ | ⟨hw1, -, hw3⟩
          · omega
          · have hw2 := hz1 hw1
            have hqq : ¬ ((r (U d q)).toInt ≠ 0 ∧ w.toInt ≠ 0 ∧ (r (U d q)).toInt ≤ w.toInt) := fun z => (hd_2 _ _).mpr z (hw3 (by omega))
            have hxq := hpos d hd8 q (by omega)
            rcases Nat.lt_or_ge q (b - 1) with z | z
            · have hz := hA q (b - 1) z hb1
              unfold AH at hz
              omega
            · have ez : b - 1 = q := by omega
              rw [ez] at hx ⊢
              omega
        · by_cases eb : b = q
          · rw [eb, insu_s, insu_e ea (by omega), if_neg (by omega)]
            have ha1 : a < N d := by omega
            obtain ⟨hx1, m, hx2, hx3⟩ := hpos d hd8 a ha1
            have hna := hne d hd8 a ha1
            unfold AH
            rw [upd_s, upd_n r _ hna, upd_n t _ hna, upd_s, hCi, hx3]
            rcases hq.2 with ⟨z, -⟩ | ⟨hw1, hw3, -⟩
            · have := hz0 z
              omega
            · have := (hd_2 _ _).mp (hw3 a (by omega))
              omega
          · rw [insu_e ea (by omega), insu_e eb hb, hAH _ _ (hne d hd8 _ (by split <;> omega)) (hne d hd8 _ (by split <;> omega))]
            exact hA _ _ (by split <;> split <;> omega) (by split <;> omega)
    · rw [insU_ne U _ _ _ e, addN_ne N e]
      obtain ⟨hL, h12, hA⟩ := M.1 d hd8
      refine ⟨Lst_congr hL (fun p hp => ?_), h12, fun a b hab hb => (hAH _ _ (hne d hd8 _ (by omega)) (hne d hd8 _ hb)).mpr (hA a b hab hb)⟩
      by_cases e2 : p = f
      · rw [e2, upd_s, hfe]
        exact ⟨fun z => absurd z (ch_m1 hd8), fun z => absurd z (ch_ne hc hd8 e)⟩
      · rw [upd_n h _ e2]
  · by_cases e2 : p = f
    · rw [e2, upd_s, upd_s, upd_s]
      exact Or.inr ⟨⟨c, hc, rfl⟩, hw, C, by omega, rfl⟩
    · rw [upd_n h _ e2, upd_n r _ e2, upd_n t _ e2]
      rcases M.2 p hp with z | ⟨z1, z2, m, z3, z4⟩
      · exact Or.inl z
      · exact Or.inr ⟨z1, z2, m, by omega, z4⟩
/-- a place is always there, and it is one -/
theorem plU_ex (r : Nat → Int32) (u : Nat → Nat) (n : Nat) (w : Int32) : ∃ q, plU r u n w q := by
  by_cases hw : w = 0
  · exact ⟨n, Nat.le_refl _, Or.inl ⟨hw, rfl⟩⟩
  · obtain ⟨q, hq, hm⟩ := pk_least (fun q => q = n ∨ hd (r (u q)) w 2 = 0) ⟨n, Or.inl rfl⟩
    refine ⟨q, ?_, Or.inr ⟨hw, fun a ha z => hm a ha (Or.inr z), fun hlt => hq.resolve_left (by omega)⟩⟩
    rcases Nat.lt_or_ge n q with z | z
    · exact absurd (Or.inl rfl) (hm n z)
    · exact z
theorem plU_un {r : Nat → Int32} {u : Nat → Nat} {n : Nat} {w : Int32} {q q2 : Nat} (h1 : plU r u n w q) (h2 : plU r u n w q2) : q = q2 := by
  rcases h1 with ⟨a1, ⟨b1, c1⟩ | ⟨b1, c1, d1⟩⟩ <;> rcases h2 with ⟨a2, ⟨b2, c2⟩ | ⟨b2, c2, d2⟩⟩
  · omega
  · exact absurd b1 b2
  · exact absurd b2 b1
  · rcases Nat.lt_trichotomy q q2 with z | z | z
    · exact absurd (d1 (by omega)) (c2 q z)
    · exact z
    · exact absurd (d2 (by omega)) (c1 q2 z)
theorem sum8 : ∀ c, c < 8 → (if nI c = nI 0 then 1 else 0) + (if nI c = nI 1 then 1 else 0) + (if nI c = nI 2 then 1 else 0) + (if nI c = nI 3 then 1 else 0) + (if nI c = nI 4 then 1 else 0) + (if nI c = nI 5 then 1 else 0) + (if nI c = nI 6 then 1 else 0) + (if nI c = nI 7 then 1 else 0) = 1 := by decide +kernel
theorem ct_home8 {h : Nat → Int32} {n : Nat} (hh : ∀ p, p < n → ∃ c, c < 8 ∧ h p = nI c) : ct (fHome h (nI 0)) n + ct (fHome h (nI 1)) n + ct (fHome h (nI 2)) n + ct (fHome h (nI 3)) n + ct (fHome h (nI 4)) n + ct (fHome h (nI 5)) n + ct (fHome h (nI 6)) n + ct (fHome h (nI 7)) n = n := by
  induction n with
  | zero => rfl
  | succ n ih =>
    have h1 := ih (fun p hp => hh p (by omega))
    obtain ⟨c, hc, e⟩ := hh n (by omega)
    have h2 := sum8 c hc
    simp only [ct, fHome, e, decide_eq_true_eq] at h1 h2 ⊢
    omega
theorem mi_free {h r t : Nat → Int32} {U : Nat → Nat → Nat} {N : Nat → Nat} {C : Nat} (M : MIx h r t U N C) {c : Nat} (hc : c < 8) (hlt : N c < 12) : ∃ f, f < 96 ∧ h f = -1 ∧ ∀ a, a < f → h a ≠ -1 := by
  by_cases hex : ∃ p, p < 96 ∧ h p = -1
  · obtain ⟨f, hf, hm⟩ := pk_least (fun p => p < 96 ∧ h p = -1) hex
    exact ⟨f, hf.1, hf.2, fun a ha z => hm a ha ⟨by omega, z⟩⟩
  · exfalso
    have h8 := ct_home8 (h := h) (n := 96) (fun p hp => by
      rcases M.2 p hp with z | ⟨z, -⟩
      · exact absurd ⟨p, hp, z⟩ hex
      · exact z)
    have key : ∀ d, d < 8 → ct (fHome h (nI d)) 96 = N d ∧ N d ≤ 12 := fun d hd => ⟨mi_many M hd, (M.1 d hd).2.1⟩
    rw [(key 0 (by decide)).1, (key 1 (by decide)).1, (key 2 (by decide)).1, (key 3 (by decide)).1, (key 4 (by decide)).1, (key 5 (by decide)).1, (key 6 (by decide)).1, (key 7 (by decide)).1] at h8
    have k0 := (key 0 (by decide)).2
    have k1 := (key 1 (by decide)).2
    have k2 := (key 2 (by decide)).2
    have k3 := (key 3 (by decide)).2
    have k4 := (key 4 (by decide)).2
    have k5 := (key 5 (by decide)).2
    have k6 := (key 6 (by decide)).2
    have k7 := (key 7 (by decide)).2
    rcases (show c = 0 ∨ c = 1 ∨ c = 2 ∨ c = 3 ∨ c = 4 ∨ c = 5 ∨ c = 6 ∨ c = 7 by omega) with rfl | rfl | rfl | rfl | rfl | rfl | rfl | rfl <;> omega
theorem cz_ct (r : Nat → Int32) (n : Nat) : cz r n = ct (fun i => decide (r i = 0)) n := by
  induction n with
  | zero => rfl
  | succ n ih =>
    show cz r n + _ = ct _ n + _
    rw [ih]
    simp
theorem mi_zero {h r t : Nat → Int32} {U : Nat → Nat → Nat} {N : Nat → Nat} {C : Nat} (M : MIx h r t U N C) {c : Nat} (hc : c < 8) {x row : Nat → Int32} (hrow : ∀ i, i < N c → row i = x (U c i)) : ct (fZero h x (nI c)) 96 = cz row (N c) := by
  rw [Lst_ct (M.1 c hc).1 (fZero h x (nI c)) (fun p => decide (x p = 0)) (fun p _ => by simp [fZero]), cz_ct]
  exact ct_congr (fun i hi => by rw [hrow i hi])
theorem blw_ct (r : Nat → Int32) (w : Int32) (n : Nat) : blw r w n = nI (ct (fun i => decide (hd (r i) w 1 ≠ 0)) n) := by
  induction n with
  | zero => rfl
  | succ n ih =>
    show blw r w n + b1 (hd (r n) w 1) = nI (ct _ n + _)
    rw [ih, ← nI_add]
    congr 1
    rcases hd_01 (r n) w 1 with z | z <;> simp [z, b1] <;> rfl
theorem mi_blw {h r t : Nat → Int32} {U : Nat → Nat → Nat} {N : Nat → Nat} {C : Nat} (M : MIx h r t U N C) {c : Nat} (hc : c < 8) {row : Nat → Int32} (w : Int32) (hrow : ∀ i, i < N c → row i = r (U c i)) : nI (ct (fBlw h r (nI c) w) 96) = blw row w (N c) := by
  rw [blw_ct, Lst_ct (M.1 c hc).1 (fBlw h r (nI c) w) (fun p => decide (hd (r p) w 1 ≠ 0)) (fun p _ => by simp [fBlw])]
  congr 1
  exact ct_congr (fun i hi => by rw [hrow i hi])
theorem hvM_spec (h r : Nat → Int32) (c : Int32) (n : Nat) : 0 ≤ (hvM h r c n).toInt ∧ (∀ p, p < n → h p = c → (r p).toInt ≤ (hvM h r c n).toInt) ∧ (hvM h r c n = 0 ∨ ∃ p, p < n ∧ h p = c ∧ hvM h r c n = r p) := by
  induction n with
  | zero => exact ⟨Int.le_refl 0, fun p hp => absurd hp (Nat.not_lt_zero p), Or.inl rfl⟩
  | succ n ih =>
    obtain ⟨i1, i2, i3⟩ := ih
    show 0 ≤ (if h n = c then (if r n ≤ hvM h r c n then hvM h r c n else r n) else hvM h r c n).toInt ∧ (∀ p, p < n + 1 → h p = c → (r p).toInt ≤ (if h n = c then (if r n ≤ hvM h r c n then hvM h r c n else r n) else hvM h r c n).toInt) ∧ ((if h n = c then (if r n ≤ hvM h r c n then hvM h r c n else r n) else hvM h r c n) = 0 ∨ ∃ p, p < n + 1 ∧ h p = c ∧ (if h n = c then (if r n ≤ hvM h r c n then hvM h r c n else r n) else hvM h r c n) = r p)
    by_cases h1 : h n = c
    · rw [if_pos h1]
      by_cases h2 : r n ≤ hvM h r c n
      · rw [if_pos h2]
        rw [Int32.le_iff_toInt_le] at h2
        refine ⟨i1, fun p hp hc => ?_, i3.imp id (fun ⟨p, a, b, d⟩ => ⟨p, by omega, b, d⟩)⟩
        rcases Nat.lt_or_ge p n with z | z
        · exact i2 p z hc
        · rw [show p = n by omega]; exact h2
      · rw [if_neg h2]
        rw [Int32.le_iff_toInt_le] at h2
        refine ⟨by omega, fun p hp hc => ?_, Or.inr ⟨n, by omega, h1, rfl⟩⟩
        rcases Nat.lt_or_ge p n with z | z
        · have := i2 p z hc
          omega
        · rw [show p = n by omega]; exact Int.le_refl _
    · rw [if_neg h1]
      refine ⟨i1, fun p hp hc => ?_, i3.imp id (fun ⟨p, a, b, d⟩ => ⟨p, by omega, b, d⟩)⟩
      rcases Nat.lt_or_ge p n with z | z
      · exact i2 p z hc
      · rw [show p = n by omega] at hc; exact absurd hc h1
theorem cz_suffix (r : Nat → Int32) (n : Nat) (hs : ∀ i j, i < j → j < n → r i = 0 → r j = 0) : ∃ k, k ≤ n ∧ cz r n = n - k ∧ (∀ i, i < k → r i ≠ 0) ∧ ∀ i, k ≤ i → i < n → r i = 0 := by
  induction n with
  | zero => exact ⟨0, Nat.le_refl _, rfl, fun i hi => absurd hi (Nat.not_lt_zero i), fun i _ hi => absurd hi (Nat.not_lt_zero i)⟩
  | succ n ih =>
    obtain ⟨k, k1, k2, k3, k4⟩ := ih (fun i j h1 h2 => hs i j h1 (by omega))
    by_cases h : r n = 0
    · refine ⟨k, by omega, ?_, k3, fun i h1 h2 => ?_⟩
      · show cz r n + (if r n = 0 then 1 else 0) = _
        rw [if_pos h, k2]; omega
      · rcases Nat.lt_or_ge i n with z | z
        · exact k4 i h1 z
        · rw [show i = n by omega]; exact h
    · have hk : k = n := by
        rcases Nat.lt_or_ge k n with z | z
        · exact absurd (hs k n z (by omega) (k4 k (Nat.le_refl _) z)) h
        · omega
      refine ⟨n + 1, Nat.le_refl _, ?_, fun i h1 => ?_, fun i h1 h2 => by omega⟩
      · show cz r n + (if r n = 0 then 1 else 0) = _
        rw [if_neg h, k2]; omega
      · rcases Nat.lt_or_ge i n with z | z
        · exact k3 i (by omega)
        · rw [show i = n by omega]; exact h
theorem mi_hv {h r t : Nat → Int32} {U : Nat → Nat → Nat} {N : Nat → Nat} {C : Nat} (M : MIx h r t U N C) {c : Nat} (hc : c < 8) {row : Nat → Int32} (hrow : ∀ i, i < N c → row i = r (U c i)) : hvM h r (nI c) 96 = hvC row (N c) := by
  obtain ⟨hL, h12, hA⟩ := M.1 c hc
  have hpos : ∀ j, j < N c → 0 ≤ (r (U c j)).toInt := fun j hj => by
    rcases M.2 (U c j) (hL.1 j hj).1 with z | ⟨-, z1, -⟩
    · have h1 : h (U c j) = nI c := (hL.1 j hj).2
      rw [z] at h1
      exact absurd h1 (ch_m1 hc)
    · exact z1
  have e0 : ∀ a : Int32, a = 0 ↔ a.toInt = 0 := fun a => ⟨fun z => by rw [z]; rfl, fun z => Int32.toInt_inj.mp z⟩
  obtain ⟨k, k1, k2, k3, k4⟩ := cz_suffix row (N c) (fun i j h1 h2 h3 => by
    rw [hrow i (by omega)] at h3
    rw [hrow j h2]
    have := hA i j h1 h2
    have h4 := hpos j h2
    rw [e0] at h3 ⊢
    unfold AH at this
    omega)
  obtain ⟨v1, v2, v3⟩ := hvM_spec h r (nI c) 96
  have hub : ∀ V : Int32, 0 ≤ V.toInt → (∀ p, p < 96 → h p = nI c → (r p).toInt ≤ V.toInt) → (V = 0 ∨ ∃ p, p < 96 ∧ h p = nI c ∧ V = r p) → hvM h r (nI c) 96 = V := fun V w1 w2 w3 => by
    apply Int32.toInt_inj.mp
    have z : (0 : Int32).toInt = 0 := rfl
    have a1 : (hvM h r (nI c) 96).toInt ≤ V.toInt := by
      rcases v3 with q | ⟨p, q1, q2, q3⟩
      · rw [q, z]; exact w1
      · rw [q3]; exact w2 p q1 q2
    have a2 : V.toInt ≤ (hvM h r (nI c) 96).toInt := by
      rcases w3 with q | ⟨p, q1, q2, q3⟩
      · rw [q, z]; exact v1
      · rw [q3]; exact v2 p q1 q2
    omega
  unfold hvC
  rw [k2]
  by_cases hk : N c - k < N c
  · rw [if_pos hk, show N c - (N c - k) - 1 = k - 1 by omega, hrow _ (by omega)]
    refine hub _ (hpos _ (by omega)) (fun p hp hh => ?_) (Or.inr ⟨_, (hL.1 _ (by omega)).1, (hL.1 _ (by omega)).2, rfl⟩)
    obtain ⟨i, hi, rfl⟩ := hL.2.1 p hp hh
    have hx := hpos (k - 1) (by omega)
    rcases Nat.lt_or_ge i k with z | z
    · rcases Nat.lt_or_ge i (k - 1) with y | y
      · have := hA i (k - 1) y (by omega)
        have n1 := k3 i z
        have n2 := k3 (k - 1) (by omega)
        rw [hrow _ (by omega), z_ne] at n1 n2
        unfold AH at this
        omega
      · rw [show i = k - 1 by omega]; exact Int.le_refl _
    · have := k4 i z hi
      rw [hrow i hi, e0] at this
      omega
  · rw [if_neg hk]
    refine hub 0 (Int.le_refl 0) (fun p hp hh => ?_) (Or.inl rfl)
    obtain ⟨i, hi, rfl⟩ := hL.2.1 p hp hh
    have := k4 i (by omega) hi
    rw [hrow i hi] at this
    rw [this]; exact Int.le_refl _
theorem mi_take {h r t : Nat → Int32} {U : Nat → Nat → Nat} {N : Nat → Nat} {C : Nat} (M : MIx h r t U N C) {c q f : Nat} {w : Int32} (hc : c < 8) (hq : q < N c) (h1 : r (U c q) = w) (h2 : ∀ a, a < q → r (U c a) ≠ w) (hf : f < 96) (hfh : h f = nI c) (hfr : r f = w) (hmin : ∀ a, a < 96 → h a = nI c → r a = w → ¬ t a < t f) : f = U c q := by
  obtain ⟨hL, h12, hA⟩ := M.1 c hc
  obtain ⟨j, hj, rfl⟩ := hL.2.1 f hf hfh
  rcases Nat.lt_trichotomy j q with z | z | z
  · exact absurd hfr (h2 j z)
  · rw [z]
  · exfalso
    have h3 := hA q j z hj
    have h4 := hmin (U c q) (hL.1 q hq).1 (hL.1 q hq).2 h1
    unfold AH at h3
    rw [Int32.lt_iff_toInt_lt] at h4
    rw [h1, hfr] at h3
    omega

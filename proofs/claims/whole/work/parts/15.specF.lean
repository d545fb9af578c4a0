theorem pa_at {σ : Mem} {U : Nat → Nat → Nat} {N : Nat → Nat} {C : Nat} (M : MIx (σ 27) (σ 28) (σ 30) U N C) {a i : Nat} (ha : a < 8) (hi : i < N a) {r : Int32} (h : (∃ p : Nat, p < 96 ∧ r = nI p ∧ isAt σ (nI a) (nI i) p ∧ ∀ b, b < p → ¬ isAt σ (nI a) (nI i) b) ∨ (r = -1 ∧ ∀ b, b < 96 → ¬ isAt σ (nI a) (nI i) b)) : r = nI (U a i) ∧ U a i < 96 := by
  have h12 := (M.1 a ha).2.1
  rcases h with ⟨p, hp, hr, hat, -⟩ | ⟨-, hnn⟩
  · obtain ⟨j, hj, ej, rfl⟩ := (mi_at M ha hp).mp hat
    have := (nI_eq (by omega) (by omega)).mp ej
    subst this
    exact ⟨hr, hp⟩
  · have hlt := ((M.1 a ha).1.1 i hi).1
    exact absurd ((mi_at M ha hlt).mpr ⟨i, hi, rfl, rfl⟩) (hnn _ hlt)
def m_mov (σ : Mem) (f : Nat) (c : Int32) : Mem := m_up (m_up (m_up σ 27 f c) 30 f (σ 26 5)) 26 5 (σ 26 5 + 1)
def pstepM (a b : Nat) (σ : Mem) (U : Nat → Nat → Nat) (N : Nat → Nat) (C p : Nat) (σ' : Mem) (U' : Nat → Nat → Nat) (N' : Nat → Nat) (C' p' : Nat) : Prop :=
  ((12 ≤ N b ∨ fitM (σ 31 b) (σ 32 b) (σ 33 b) (σ 34 b) (σ 28 (U a p)) (σ 29 (U a p)) = 0) ∧ σ' = σ ∧ U' = U ∧ N' = N ∧ C' = C ∧ p' = p + 1) ∨
  (N b < 12 ∧ fitM (σ 31 b) (σ 32 b) (σ 33 b) (σ 34 b) (σ 28 (U a p)) (σ 29 (U a p)) ≠ 0 ∧ ∃ q : Nat, plU (σ 28) (U b) (N b) (σ 28 (U a p)) q ∧ σ' = m_mov σ (U a p) (nI b) ∧ U' = insU (remU U a p (N a)) b q (N b) (U a p) ∧ N' = addN (subN N a) b ∧ C' = C + 1 ∧ p' = p)
def pstepsM (a b : Nat) : Nat → Mem → (Nat → Nat → Nat) → (Nat → Nat) → Nat → Nat → Mem → (Nat → Nat → Nat) → (Nat → Nat) → Nat → Nat → Prop
  | 0, σ, U, N, C, p, σ', U', N', C', p' => σ' = σ ∧ U' = U ∧ N' = N ∧ C' = C ∧ p' = p
  | t + 1, σ, U, N, C, p, σ', U', N', C', p' => ∃ (σ1 : Mem) (U1 : Nat → Nat → Nat) (N1 : Nat → Nat) (C1 p1 : Nat), pstepsM a b t σ U N C p σ1 U1 N1 C1 p1 ∧ pstepM a b σ1 U1 N1 C1 p1 σ' U' N' C' p'
theorem upd_upd (f : Nat → Int32) (k : Nat) (x y : Int32) : upd (upd f k x) k y = upd f k y := by
  funext j
  by_cases h : j = k <;> simp [upd, h]
theorem upd_self (f : Nat → Int32) (k : Nat) : upd f k (f k) = f := by
  funext j
  by_cases h : j = k <;> simp [upd, h]
theorem mi_mov {h r t : Nat → Int32} {U : Nat → Nat → Nat} {N : Nat → Nat} {C : Nat} (M : MIx h r t U N C) {a b p q : Nat} (ha : a < 8) (hb : b < 8) (hab : a ≠ b) (hp : p < N a) (hlt : N b < 12) (hC : C < 2 ^ 31) (hq : plU r (U b) (N b) (r (U a p)) q) : MIx (upd h (U a p) (nI b)) r (upd t (U a p) (nI C)) (insU (remU U a p (N a)) b q (N b) (U a p)) (addN (subN N a) b) (C + 1) := by
  have hL := (M.1 a ha).1
  have M1 := mi_rem M ha hp
  have e1 : subN N a b = N b := subN_ne N (fun z => hab z.symm)
  have e2 : remU U a p (N a) b = U b := remU_ne U _ _ (fun z => hab z.symm)
  have hw : 0 ≤ (r (U a p)).toInt := by
    rcases M.2 (U a p) (hL.1 p hp).1 with z | ⟨-, z1, -⟩
    · have h1 : h (U a p) = nI a := (hL.1 p hp).2
      rw [z] at h1
      exact absurd h1 (ch_m1 ha)
    · exact z1
  have M2 := mi_ins M1 (c := b) (f := U a p) (q := q) (w := r (U a p)) hb (by rw [e1]; exact hlt) (hL.1 p hp).1 (upd_s _ _ _) hw hC (by rw [e1, e2]; exact hq)
  rw [upd_upd, upd_self, e1] at M2
  exact M2
def sstepM (a : Nat) (σ : Mem) (U : Nat → Nat → Nat) (N : Nat → Nat) (p : Nat) (σ' : Mem) (U' : Nat → Nat → Nat) (N' : Nat → Nat) (p' : Nat) : Prop :=
  (fitM (σ 31 a) (σ 32 a) (σ 33 a) (σ 34 a) (σ 28 (U a p)) (σ 29 (U a p)) ≠ 0 ∧ σ' = σ ∧ U' = U ∧ N' = N ∧ p' = p + 1) ∨
  (fitM (σ 31 a) (σ 32 a) (σ 33 a) (σ 34 a) (σ 28 (U a p)) (σ 29 (U a p)) = 0 ∧ σ' = m_up (asM σ (σ 28 (U a p)) (σ 29 (U a p))) 27 (U a p) (-1) ∧ U' = remU U a p (N a) ∧ N' = subN N a ∧ p' = p)
def sstepsM (a : Nat) : Nat → Mem → (Nat → Nat → Nat) → (Nat → Nat) → Nat → Mem → (Nat → Nat → Nat) → (Nat → Nat) → Nat → Prop
  | 0, σ, U, N, p, σ', U', N', p' => σ' = σ ∧ U' = U ∧ N' = N ∧ p' = p
  | t + 1, σ, U, N, p, σ', U', N', p' => ∃ (σ1 : Mem) (U1 : Nat → Nat → Nat) (N1 : Nat → Nat) (p1 : Nat), sstepsM a t σ U N p σ1 U1 N1 p1 ∧ sstepM a σ1 U1 N1 p1 σ' U' N' p'

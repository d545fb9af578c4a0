theorem nI_m1 {p : Nat} (h : p < 96) : ¬ nI p = -1 := fun z => nI_pos (n := p) (by omega) (by rw [z]; decide)
theorem isAt_26 (σ : Mem) (t x v : Int32) (p : Nat) : isAt (m_up σ 26 0 t) x v p ↔ isAt σ x v p := Iff.rfl
theorem i32_nlt_of_le {a b : Int32} (h : a ≤ b) : ¬ b < a := by
  rw [Int32.le_iff_toInt_le] at h
  rw [Int32.lt_iff_toInt_lt]
  omega
theorem i32_lt_of_nle {a b : Int32} (h : ¬ a ≤ b) : b < a := by
  rw [Int32.le_iff_toInt_le] at h
  rw [Int32.lt_iff_toInt_lt]
  omega
theorem i32_irr (a : Int32) : ¬ a < a := by
  rw [Int32.lt_iff_toInt_lt]
  omega
/-- both chutes hold at place t parcels that are the same under = -/
def good (σ : Mem) (x y : Int32) (t : Nat) : Prop := ∃ p q : Nat, p < 96 ∧ q < 96 ∧ isAt σ x (nI t) p ∧ isAt σ y (nI t) q ∧ hd (σ 28 p) (σ 28 q) 16 ≠ 0 ∧ hd (σ 29 p) (σ 29 q) 16 ≠ 0
def bad (σ : Mem) (x y : Int32) (t : Nat) : Prop := (∀ a, a < 96 → ¬ isAt σ x (nI t) a) ∨ (∀ a, a < 96 → ¬ isAt σ y (nI t) a) ∨ ∃ p q : Nat, p < 96 ∧ q < 96 ∧ isAt σ x (nI t) p ∧ isAt σ y (nI t) q ∧ (hd (σ 28 p) (σ 28 q) 16 = 0 ∨ hd (σ 29 p) (σ 29 q) 16 = 0)

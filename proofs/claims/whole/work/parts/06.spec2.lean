/-- how many parcels each chute holds -/
def okN (σ : Mem) (N : Nat → Nat) : Prop := ∀ k, k < 8 → σ (k + 2) 2 = nI (N k) ∧ N k ≤ 12
def asC (σ : Mem) (w g : Int32) : Mem := m_up (m_up (m_up σ 0 7 (σ 0 7 + 1)) 0 8 w) 0 9 g
def gl (w x : Int32) : Int32 := if x = 0 then w else if hd w x 1 = 0 then x else w
def gh (w x : Int32) : Int32 := if x = 0 then w else if hd w x 4 = 0 then x else w
def stk (w b z : Int32) : Int32 := if hd w b 1 = 0 then z + 1 else 1
def rgC (σ : Mem) (w g : Int32) : Mem := m_up (m_up (m_up (m_up (m_up (m_up σ 0 1 (gl w (σ 0 1))) 0 2 (gh w (σ 0 2))) 0 3 (gh g (σ 0 3))) 0 4 (stk w (σ 0 6) (σ 0 4))) 0 6 w) 0 5 (σ 0 5 + 1)
theorem m_up_self (σ : Mem) (j i : Nat) : m_up σ j i (σ j i) = σ := by
  funext a b
  rw [m_up_get]
  by_cases h : a = j ∧ b = i
  · rw [if_pos h, h.1, h.2]
  · rw [if_neg h]
def isCh (x : Int32) : Prop := ∃ k : Nat, k < 8 ∧ x = nI k
def okW (v : Int32) : Prop := ¬ v < 0 ∧ v ≤ 800000
def okG (v : Int32) : Prop := ¬ v < 0 ∧ v ≤ 16000
def m_lim (σ : Mem) (k : Nat) (a b c : Int32) : Mem := m_up (m_up (m_up σ (k + 2) 4 a) (k + 2) 5 b) (k + 2) 6 c
def n3 (a b c : Int32) : Int32 := b1 (b1 a) + b1 (b1 b) + b1 (b1 c)
theorem ch_inj {a b : Nat} (ha : a < 8) (hb : b < 8) (h : nI a = nI b) : a = b := (nI_eq (by omega) (by omega)).mp h
/-- a chute takes a parcel -/
def takes (σ : Mem) (N : Nat → Nat) (w g : Int32) (k : Nat) : Prop := σ (k + 2) 7 = 0 ∧ N k < 12 ∧ fitC (σ (k + 2) 3) (σ (k + 2) 4) (σ (k + 2) 5) (σ (k + 2) 6) w g ≠ 0
/-- the place for a weight in chute k of n parcels -/
def plq (σ : Mem) (k n : Nat) (w : Int32) (q : Nat) : Prop := q ≤ n ∧ ((w = 0 ∧ q = n) ∨ (w ≠ 0 ∧ (∀ a, a < q → hd (σ (k + 10) a) w 2 ≠ 0) ∧ (q < n → hd (σ (k + 10) q) w 2 = 0)))
theorem okN_rgC {σ : Mem} {N : Nat → Nat} (h : okN σ N) (w g : Int32) : okN (rgC σ w g) N := fun k hk => by
  simp only [rgC, m_up_get]
  simp
  exact h k hk
def ftb (σ : Mem) (w g : Int32) : Nat → Int32
  | 0 => 0
  | k + 1 => if fitC (σ (k + 2) 3) (σ (k + 2) 4) (σ (k + 2) 5) (σ (k + 2) 6) w g = 0 then ftb σ w g k else ftb σ w g k ||| ((1 : Int32) <<< (nI k &&& 31))
def blw (r : Nat → Int32) (w : Int32) : Nat → Int32
  | 0 => 0
  | n + 1 => blw r w n + b1 (hd (r n) w 1)
def okV (v : Int32) : Prop := ¬ v < 0 ∧ v ≤ 7
theorem okV_j {v : Int32} {j : Nat} (hj : j < 8) (h : v = nI j) : okV v := by
  subst h
  exact ⟨nI_pos (by omega), (show nI j ≤ nI 7 from nI_le (by omega) (by decide))⟩
theorem okV_of {v : Int32} (h : okV v) : ∃ j : Nat, j < 8 ∧ v = nI j := by
  obtain ⟨j, hj, rfl⟩ := nI_of2 (n := 7) (M := 7) rfl h.1 h.2
  exact ⟨j, by omega, rfl⟩
theorem okV_no {v : Int32} (h0 : ¬ v = 0) (h1 : ¬ v = 1) (h2 : ¬ v = 2) (h3 : ¬ v = 3) (h4 : ¬ v = 4) (h5 : ¬ v = 5) (h6 : ¬ v = 6) (h7 : ¬ v = 7) : ¬ okV v := fun h => by
  obtain ⟨j, hj, rfl⟩ := okV_of h
  match j, hj with
  | 0, _ => exact h0 rfl
  | 1, _ => exact h1 rfl
  | 2, _ => exact h2 rfl
  | 3, _ => exact h3 rfl
  | 4, _ => exact h4 rfl
  | 5, _ => exact h5 rfl
  | 6, _ => exact h6 rfl
  | 7, _ => exact h7 rfl
def chC (σ : Mem) (N : Nat → Nat) (k : Nat) (v : Int32) : Int32 := if v = 0 then σ (k + 2) 3 else if v = 1 then σ (k + 2) 4 else if v = 2 then σ (k + 2) 5 else if v = 3 then σ (k + 2) 6 else if v = 4 then b1 (σ (k + 2) 7) else if v = 5 then σ (k + 2) 2 else if v = 6 then nI (cz (σ (k + 10)) (N k)) else nI (cz (σ (k + 18)) (N k))
def gC (σ : Mem) (v : Int32) : Int32 := if v = 0 then σ 0 1 else if v = 1 then σ 0 2 else if v = 2 then σ 0 3 else if v = 3 then σ 0 4 else if v = 4 then σ 0 5 else if v = 5 then σ 0 7 else if v = 6 then σ 0 8 else σ 0 9
theorem pl_of {v y : Int32} {n : Nat} (hy : y = nI n) (hn : n ≤ 12) (h : ¬ v < 0 ∧ v < y) : ∃ q : Nat, q < n ∧ v = nI q := by
  obtain ⟨j, hj, rfl⟩ := nI_of h.1
  exact ⟨j, (nI_ltI hj (by omega)).mp (hy ▸ h.2), rfl⟩
theorem pl_to {v y : Int32} {n q : Nat} (hy : y = nI n) (hn : n ≤ 12) (hq : q < n) (hv : v = nI q) : ¬ v < 0 ∧ v < y := by
  subst hv; subst hy
  exact ⟨nI_pos (by omega), nI_lt hq (by omega)⟩
theorem min_I {a b : Nat} {x y : Int32} (hx : x = nI a) (hy : y = nI b) (ha : a ≤ 12) (hb : b ≤ 12) : (if y < x then y else x) = nI (min a b) := by
  subst hx; subst hy
  by_cases h : b < a
  · rw [if_pos (nI_lt h (by omega)), Nat.min_eq_right (by omega)]
  · rw [if_neg (nI_nlt (by omega) (by omega)), Nat.min_eq_left (by omega)]
def cmC (a b : Int32) : Int32 := if hd a b 4 = 0 then (if hd a b 1 = 0 then (if hd a b 16 = 0 then 2 else 0) else -1) else 1
def addN (N : Nat → Nat) (k : Nat) : Nat → Nat := fun j => if j = k then N k + 1 else N j
def subN (N : Nat → Nat) (k : Nat) : Nat → Nat := fun j => if j = k then N k - 1 else N j
theorem okN_ins {σ : Mem} {N : Nat → Nat} (h : okN σ N) {k q : Nat} {w g : Int32} (hk : k < 8) (hlt : N k < 12) : okN (m_ins σ k q (N k) w g) (addN N k) := fun j hj => by
  by_cases e : j = k
  · subst e
    simp [m_ins, addN, upd]
    omega
  · have e2 : ¬ j + 2 = k + 2 := by omega
    have e3 : ¬ j + 2 = k + 10 := by omega
    have e4 : ¬ j + 2 = k + 18 := by omega
    simp only [m_ins, addN, if_neg e, if_neg e2, if_neg e3, if_neg e4]
    exact h j hj
theorem okN_rem {σ : Mem} {N : Nat → Nat} (h : okN σ N) {k q : Nat} (hk : k < 8) : okN (m_rem σ k q (N k)) (subN N k) := fun j hj => by
  by_cases e : j = k
  · subst e
    have := (h j hj).2
    simp [m_rem, m_sh, subN, upd]
    omega
  · have e2 : ¬ j + 2 = k + 2 := by omega
    have e3 : ¬ j + 2 = k + 10 := by omega
    have e4 : ¬ j + 2 = k + 18 := by omega
    simp only [m_rem, m_sh, subN, if_neg e, if_neg e2, if_neg e3, if_neg e4]
    exact h j hj
theorem okN_asC {σ : Mem} {N : Nat → Nat} (h : okN σ N) (w g : Int32) : okN (asC σ w g) N := fun k hk => by
  simp only [asC, m_up_get]
  simp
  exact h k hk
/-- one parcel of chute a is offered to chute b -/
def pstep (a b : Nat) (σ : Mem) (N : Nat → Nat) (p : Nat) (σ' : Mem) (N' : Nat → Nat) (p' : Nat) : Prop :=
  ((12 ≤ N b ∨ fitC (σ (b + 2) 3) (σ (b + 2) 4) (σ (b + 2) 5) (σ (b + 2) 6) (σ (a + 10) p) (σ (a + 18) p) = 0) ∧ σ' = σ ∧ N' = N ∧ p' = p + 1) ∨
  (N b < 12 ∧ fitC (σ (b + 2) 3) (σ (b + 2) 4) (σ (b + 2) 5) (σ (b + 2) 6) (σ (a + 10) p) (σ (a + 18) p) ≠ 0 ∧ ∃ q : Nat, plq σ b (N b) (σ (a + 10) p) q ∧ σ' = m_rem (m_ins σ b q (N b) (σ (a + 10) p) (σ (a + 18) p)) a p (N a) ∧ N' = subN (addN N b) a ∧ p' = p)
def psteps (a b : Nat) : Nat → Mem → (Nat → Nat) → Nat → Mem → (Nat → Nat) → Nat → Prop
  | 0, σ, N, p, σ', N', p' => σ' = σ ∧ N' = N ∧ p' = p
  | t + 1, σ, N, p, σ', N', p' => ∃ (σ1 : Mem) (N1 : Nat → Nat) (p1 : Nat), psteps a b t σ N p σ1 N1 p1 ∧ pstep a b σ1 N1 p1 σ' N' p'
/-- one parcel of chute a is looked at by its own chute -/
def sstep (a : Nat) (σ : Mem) (N : Nat → Nat) (p : Nat) (σ' : Mem) (N' : Nat → Nat) (p' : Nat) : Prop :=
  (fitC (σ (a + 2) 3) (σ (a + 2) 4) (σ (a + 2) 5) (σ (a + 2) 6) (σ (a + 10) p) (σ (a + 18) p) ≠ 0 ∧ σ' = σ ∧ N' = N ∧ p' = p + 1) ∨
  (fitC (σ (a + 2) 3) (σ (a + 2) 4) (σ (a + 2) 5) (σ (a + 2) 6) (σ (a + 10) p) (σ (a + 18) p) = 0 ∧ σ' = m_rem (asC σ (σ (a + 10) p) (σ (a + 18) p)) a p (N a) ∧ N' = subN N a ∧ p' = p)
def ssteps (a : Nat) : Nat → Mem → (Nat → Nat) → Nat → Mem → (Nat → Nat) → Nat → Prop
  | 0, σ, N, p, σ', N', p' => σ' = σ ∧ N' = N ∧ p' = p
  | t + 1, σ, N, p, σ', N', p' => ∃ (σ1 : Mem) (N1 : Nat → Nat) (p1 : Nat), ssteps a t σ N p σ1 N1 p1 ∧ sstep a σ1 N1 p1 σ' N' p'
theorem gl_0 {w x : Int32} (h : x = 0) : gl w x = w := by unfold gl; rw [if_pos h]
theorem gl_k {w x : Int32} (h : ¬ x = 0) (h2 : hd w x 1 = 0) : gl w x = x := by unfold gl; rw [if_neg h, if_pos h2]
theorem gl_w {w x : Int32} (h : ¬ x = 0) (h2 : ¬ hd w x 1 = 0) : gl w x = w := by unfold gl; rw [if_neg h, if_neg h2]
theorem gh_0 {w x : Int32} (h : x = 0) : gh w x = w := by unfold gh; rw [if_pos h]
theorem gh_k {w x : Int32} (h : ¬ x = 0) (h2 : hd w x 4 = 0) : gh w x = x := by unfold gh; rw [if_neg h, if_pos h2]
theorem gh_w {w x : Int32} (h : ¬ x = 0) (h2 : ¬ hd w x 4 = 0) : gh w x = w := by unfold gh; rw [if_neg h, if_neg h2]

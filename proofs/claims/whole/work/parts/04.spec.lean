/-! what the methods answer, over numbers -/
def sg (a b : Int32) : Int32 := if a = 0 then 32 else if b = 0 then 32 else if b ≤ a then (if a ≤ b then 26 else 44) else 35
def sgM (a b : Int32) : Int32 := if a = 0 then 32 else if b = 0 then 32 else if a = b then 26 else if b ≤ a then 44 else 35
theorem i32_le_antisymm {a b : Int32} (h1 : a ≤ b) (h2 : b ≤ a) : a = b := by
  rw [Int32.le_iff_toInt_le] at h1 h2
  exact Int32.toInt_inj.mp (by omega)
theorem i32_le_refl (a : Int32) : a ≤ a := by
  rw [Int32.le_iff_toInt_le]
  omega
theorem sgM_eq (a b : Int32) : sgM a b = sg a b := by
  unfold sgM sg
  by_cases h1 : a = 0
  · rw [if_pos h1, if_pos h1]
  · rw [if_neg h1, if_neg h1]
    by_cases h2 : b = 0
    · rw [if_pos h2, if_pos h2]
    · rw [if_neg h2, if_neg h2]
      by_cases h3 : a = b
      · subst h3
        rw [if_pos rfl, if_pos (i32_le_refl a), if_pos (i32_le_refl a)]
      · rw [if_neg h3]
        by_cases h4 : b ≤ a
        · rw [if_pos h4, if_pos h4, if_neg (fun h5 => h3 (i32_le_antisymm h5 h4))]
        · rw [if_neg h4, if_neg h4]
def hd (a b z : Int32) : Int32 := if sg a b &&& z = 0 then 0 else 1
def b1 (z : Int32) : Int32 := if z = 0 then 0 else 1
def iw (v b : Int32) : Int32 := if v < 0 then 0 else if b < v then 0 else 1
def ip (v b : Int32) : Int32 := if iw v 800000 = 0 then 0 else if iw b 16000 = 0 then 0 else 1
theorem iw_nar (v b : Int32) : narrow .boolean (.int (iw v b)) = .int (iw v b) := by
  unfold iw
  by_cases h1 : v < 0
  · rw [if_pos h1]; rfl
  · rw [if_neg h1]
    by_cases h2 : b < v
    · rw [if_pos h2]; rfl
    · rw [if_neg h2]; rfl
theorem ix8 {v : Int32} (h1 : ¬ v < 0) (h2 : v < 8) : ∃ k : Nat, k < 8 ∧ v = nI k := by
  obtain ⟨j, hj, rfl⟩ := nI_of h1
  exact ⟨j, (nI_ltI hj (by decide)).mp (show nI j < nI 8 from h2), rfl⟩
theorem ix8n1 {v : Int32} {k : Nat} (hk : k < 8) (e : v = nI k) (h : v < 0) : False := nI_pos (n := k) (by omega) (e ▸ h)
theorem ix8n2 {v : Int32} {k : Nat} (hk : k < 8) (e : v = nI k) (h : ¬ v < 8) : False := h (by rw [e]; exact (show nI k < nI 8 from nI_lt hk (by decide)))
def fitC (kd lo hi wi w g : Int32) : Int32 :=
  if kd = 0 then (if hd lo w 2 = 0 then 0 else if hd w hi 1 = 0 then 0 else if hd g wi 2 = 0 then 0 else 1)
  else if kd = 1 then (if hd w lo 1 = 0 then (if hd w hi 8 = 0 then (if hd g wi 4 = 0 then 1 else 0) else 0) else 0)
  else if kd = 2 then (if hd w lo 16 = 0 then (if hd g wi 16 = 0 then 0 else 1) else 1)
  else if kd = 3 then (if hd w lo 32 = 0 then 0 else if hd w hi 32 = 0 then 0 else if hd g wi 32 = 0 then 0 else 1)
  else (if hd w hi 4 = 0 then (if hd w lo 1 = 0 then (if hd g wi 8 = 0 then 0 else 1) else 1) else 1)
/-- how many of the first n are 0 -/
def cz (r : Nat → Int32) : Nat → Nat
  | 0 => 0
  | n + 1 => cz r n + if r n = 0 then 1 else 0
theorem cz_le (r : Nat → Int32) (n : Nat) : cz r n ≤ n := by
  induction n with
  | zero => exact Nat.le_refl 0
  | succ n ih =>
    show cz r n + (if r n = 0 then 1 else 0) ≤ n + 1
    split <;> omega
theorem cz_s1 {r : Nat → Int32} {i : Nat} {x : Int32} (hx : x = nI (cz r i)) (h : r i = 0) : x + b1 1 = nI (cz r (i + 1)) := by
  rw [hx, show b1 1 = nI 1 from rfl, nI_add]
  simp [cz, h]
theorem cz_s0 {r : Nat → Int32} {i : Nat} {x : Int32} (hx : x = nI (cz r i)) (h : ¬ r i = 0) : x + b1 0 = nI (cz r (i + 1)) := by
  rw [hx, show b1 0 = nI 0 from rfl, nI_add]
  simp [cz, h]
def hvC (r : Nat → Int32) (n : Nat) : Int32 := if cz r n < n then r (n - cz r n - 1) else 0
theorem hv_sub {n u : Nat} {x : Int32} (hx : x = nI n) (h : u < n) : x - nI u - 1 = nI (n - u - 1) := by
  rw [hx, pk_sub (by omega)]
  exact pk_sub (a := n - u) (b := 1) (by omega)
theorem hv_neg {n u : Nat} {x : Int32} (hx : x = nI n) (h : n ≤ u) (hu : u ≤ 12) : ¬ 0 ≤ x - nI u - 1 := by
  rw [hx]
  intro h2
  have h3 : (nI n - nI u - 1 : Int32).toInt < 0 := by
    have : ∀ a b : Nat, a ≤ b → b ≤ 12 → (nI a - nI b - 1 : Int32).toInt < 0 := by
      have key : ∀ b, b < 13 → ∀ a, a < b + 1 → (nI a - nI b - 1 : Int32).toInt < 0 := by decide +kernel
      exact fun a b h1 h2 => key b (by omega) a (by omega)
    exact this n u h hu
  rw [Int32.le_iff_toInt_le] at h2
  have h4 : (0 : Int32).toInt = 0 := rfl
  omega
/-- a row with its places from q to i - 1 moved up -/
def shf (r : Nat → Int32) (q i : Nat) : Nat → Int32 := fun a => if q ≤ a ∧ a < i then r (a + 1) else r a
def m_sh (σ : Mem) (k q i : Nat) (cv : Int32) : Mem := fun j => if j = k + 2 then upd (σ j) 2 cv else if j = k + 10 then shf (σ j) q i else if j = k + 18 then shf (σ j) q i else σ j
theorem m_sh_0 (σ : Mem) (k q : Nat) (cv : Int32) : m_up σ (k + 2) 2 cv = m_sh σ k q q cv := by
  funext j a
  have hz : ∀ r : Nat → Int32, shf r q q = r := fun r => by funext b; simp only [shf]; rw [if_neg (by omega)]
  simp only [m_up, m_sh, hz]
  split <;> (try split) <;> (try split) <;> rfl
theorem m_sh_step (σ : Mem) {k q i : Nat} (cv : Int32) (hq : q ≤ i) : m_up (m_up (m_sh σ k q i cv) (k + 10) i (m_sh σ k q i cv (k + 10) (i + 1))) (k + 18) i (m_up (m_sh σ k q i cv) (k + 10) i (m_sh σ k q i cv (k + 10) (i + 1)) (k + 18) (i + 1)) = m_sh σ k q (i + 1) cv := by
  funext j a
  have e1 : ∀ r : Nat → Int32, shf r q i (i + 1) = r (i + 1) := fun r => by simp only [shf]; rw [if_neg (by omega)]
  have e2 : ∀ (r : Nat → Int32) (b : Nat), shf r q (i + 1) b = if b = i then r (i + 1) else shf r q i b := fun r b => by
    simp only [shf]
    by_cases hb : b = i
    · subst hb
      rw [if_pos (by omega), if_pos rfl]
    · rw [if_neg hb]
      by_cases h2 : q ≤ b ∧ b < i
      · rw [if_pos h2, if_pos (by omega)]
      · rw [if_neg h2, if_neg (by omega)]
  by_cases j2 : j = k + 2
  · subst j2
    simp [m_up, m_sh]
  · by_cases j10 : j = k + 10
    · subst j10
      simp only [m_up_get, m_sh]
      simp [e1, e2]
    · by_cases j18 : j = k + 18
      · subst j18
        simp only [m_up_get, m_sh]
        simp [e1, e2]
      · simp [m_up, m_sh, j2, j10, j18]
/-- a chute without its parcel at q -/
def m_rem (σ : Mem) (k q n : Nat) : Mem := m_sh σ k q (n - 1) (nI (n - 1))
/-- a row with its places from p + 1 to n moved down -/
def sdf (r : Nat → Int32) (p n : Nat) : Nat → Int32 := fun a => if p < a ∧ a ≤ n then r (a - 1) else r a
def m_sd (σ : Mem) (k p n : Nat) : Mem := fun j => if j = k + 10 then sdf (σ j) p n else if j = k + 18 then sdf (σ j) p n else σ j
theorem m_sd_0 (σ : Mem) (k n : Nat) : m_sd σ k n n = σ := by
  funext j a
  have hz : ∀ r : Nat → Int32, sdf r n n = r := fun r => by funext b; simp only [sdf]; rw [if_neg (by omega)]
  simp only [m_sd, hz]
  split <;> (try split) <;> rfl
theorem m_sd_step (σ : Mem) {k p n : Nat} (hp : 0 < p) (hn : p ≤ n) : m_up (m_up (m_sd σ k p n) (k + 10) p (m_sd σ k p n (k + 10) (p - 1))) (k + 18) p (m_up (m_sd σ k p n) (k + 10) p (m_sd σ k p n (k + 10) (p - 1)) (k + 18) (p - 1)) = m_sd σ k (p - 1) n := by
  funext j a
  have e1 : ∀ r : Nat → Int32, sdf r p n (p - 1) = r (p - 1) := fun r => by simp only [sdf]; rw [if_neg (by omega)]
  have e2 : ∀ (r : Nat → Int32) (b : Nat), sdf r (p - 1) n b = if b = p then r (p - 1) else sdf r p n b := fun r b => by
    simp only [sdf]
    by_cases hb : b = p
    · subst hb
      rw [if_pos (by omega), if_pos rfl]
    · rw [if_neg hb]
      by_cases h2 : p < b ∧ b ≤ n
      · rw [if_pos h2, if_pos (by omega)]
      · rw [if_neg h2, if_neg (by omega)]
  by_cases j10 : j = k + 10
  · subst j10
    simp only [m_up_get, m_sd]
    simp [e1, e2]
  · by_cases j18 : j = k + 18
    · subst j18
      simp only [m_up_get, m_sd]
      simp [e1, e2]
    · simp [m_up, m_sd, j10, j18]
def insf (r : Nat → Int32) (q n : Nat) (x : Int32) : Nat → Int32 := fun a => if a = q then x else if q < a ∧ a ≤ n then r (a - 1) else r a
/-- a chute with a parcel more at q -/
def m_ins (σ : Mem) (k q n : Nat) (w g : Int32) : Mem := fun j => if j = k + 2 then upd (σ j) 2 (nI (n + 1)) else if j = k + 10 then insf (σ j) q n w else if j = k + 18 then insf (σ j) q n g else σ j
theorem m_ins_of (σ : Mem) {k q n : Nat} (w g : Int32) : m_up (m_up (m_up (m_sd σ k q n) (k + 10) q w) (k + 18) q g) (k + 2) 2 (nI (n + 1)) = m_ins σ k q n w g := by
  funext j a
  by_cases j2 : j = k + 2
  · subst j2
    simp [m_up, m_sd, m_ins]
  · by_cases j10 : j = k + 10
    · subst j10
      simp [m_up, m_sd, m_ins, insf, sdf, upd]
    · by_cases j18 : j = k + 18
      · subst j18
        simp [m_up, m_sd, m_ins, insf, sdf, upd]
      · simp [m_up, m_sd, m_ins, j2, j10, j18]

/-! what the model's methods answer -/
def fitM (kd lo hi wi w g : Int32) : Int32 :=
  if kd = 0 then (if hd w lo 8 = 0 then 0 else if hd w hi 1 = 0 then 0 else if hd g wi 2 = 0 then 0 else 1)
  else if kd = 1 then (if hd w lo 1 = 0 then (if hd w hi 8 = 0 then (if hd g wi 4 = 0 then 1 else 0) else 0) else 0)
  else if kd = 2 then (if hd w lo 16 = 0 then (if hd g wi 16 = 0 then 0 else 1) else 1)
  else if kd = 3 then (if hd w lo 32 = 0 then 0 else if hd w hi 32 = 0 then 0 else if hd g wi 32 = 0 then 0 else 1)
  else (if hd w hi 4 = 0 then (if hd w lo 1 = 0 then (if hd g wi 8 = 0 then 0 else 1) else 1) else 1)
/-- how many of the first n places have a property -/
def ct (f : Nat → Bool) : Nat → Nat
  | 0 => 0
  | n + 1 => ct f n + if f n = true then 1 else 0
theorem ct_le (f : Nat → Bool) (n : Nat) : ct f n ≤ n := by
  induction n with
  | zero => exact Nat.le_refl 0
  | succ n ih =>
    show ct f n + (if f n = true then 1 else 0) ≤ n + 1
    split <;> omega
theorem ct_1 {f : Nat → Bool} {i : Nat} {x : Int32} (hx : x = nI (ct f i)) (h : f i = true) : x + 1 = nI (ct f (i + 1)) := by
  rw [hx]
  simp only [ct, h, if_true]
  exact nI_add (ct f i) 1
theorem ct_0 {f : Nat → Bool} {i : Nat} {x : Int32} (hx : x = nI (ct f i)) (h : ¬ f i = true) : x + 0 = nI (ct f (i + 1)) := by
  rw [hx]
  simp only [ct, if_neg h]
  exact nI_add (ct f i) 0
def fHome (h : Nat → Int32) (c : Int32) : Nat → Bool := fun p => decide (h p = c)
def fZero (h r : Nat → Int32) (c : Int32) : Nat → Bool := fun p => decide (h p = c ∧ r p = 0)
def fBlw (h r : Nat → Int32) (c w : Int32) : Nat → Bool := fun p => decide (h p = c ∧ hd (r p) w 1 ≠ 0)
def ahd (h c : Nat → Int32) (a b : Nat) : Int32 :=
  if h a ≤ 0 then (if h b ≤ 0 then (if c b ≤ c a then 0 else 1) else 0) else (if h b ≤ 0 then 1 else if h a = h b then (if c b ≤ c a then 0 else 1) else if h b ≤ h a then 0 else 1)
theorem ahd_nar (h c : Nat → Int32) (a b : Nat) : ahd h c a b = 0 ∨ ahd h c a b = 1 := by
  unfold ahd
  repeat' split
  all_goals first | exact Or.inl rfl | exact Or.inr rfl
def fAhd (σ : Mem) (a : Nat) : Nat → Bool := fun p => decide (σ 27 p = σ 27 a ∧ p ≠ a ∧ ahd (σ 28) (σ 30) p a ≠ 0)
def pl (σ : Mem) (a : Nat) : Nat := ct (fAhd σ a) 96
/-- slot p holds the parcel at place v of chute c -/
def isAt (σ : Mem) (c v : Int32) (p : Nat) : Prop := σ 27 p = c ∧ nI (pl σ p) = v
def m_put (σ : Mem) (f : Nat) (w g c : Int32) : Mem := m_up (m_up (m_up (m_up (m_up σ 27 f c) 28 f w) 29 f g) 30 f (σ 26 5)) 26 5 (σ 26 5 + 1)
def asM (σ : Mem) (w g : Int32) : Mem := m_up (m_up (m_up σ 26 17 (σ 26 17 + 1)) 26 18 w) 26 19 g
def tS (σ : Mem) (x v : Int32) : Int32 := if iw x 7 = 0 then 1 else if iw v 4 = 0 then 2 else if nI (ct (fHome (σ 27) x) 96) ≤ 0 then 0 else 3
def tL (x a b d : Int32) : Int32 := if iw x 7 = 0 then 1 else if iw a 800000 = 0 then 2 else if iw b 800000 = 0 then 2 else if iw d 16000 = 0 then 2 else if hd b a 1 = 0 then 0 else 3
def tC (x : Int32) : Int32 := if iw x 7 = 0 then 1 else 0
def tP (w g : Int32) : Int32 := if ip w g = 0 then 1 else 0
def tG (x v z : Int32) : Int32 := if iw x 7 = 0 then 1 else if iw v 2 = 0 then 2 else if v = 2 then (if iw z 16000 = 0 then 2 else 0) else (if iw z 800000 = 0 then 2 else 0)
def tH (x v : Int32) : Int32 := if iw x 7 = 0 then 1 else if iw v 7 = 0 then 2 else 0
def tW (x w : Int32) : Int32 := if iw x 7 = 0 then 1 else if iw w 800000 = 0 then 2 else 0
def t2 (x y : Int32) : Int32 := if iw x 7 = 0 then 1 else if iw y 7 = 0 then 1 else 0
def tR (x y : Int32) : Int32 := if iw x 7 = 0 then 1 else if iw y 7 = 0 then 1 else if x = y then 2 else 0
def tV (v : Int32) : Int32 := if iw v 7 = 0 then 1 else 0
def p1 (a : Int32) : Int32 := if a ≤ 0 then 0 else 1
theorem iw_ch {x : Int32} (h : ¬ iw x 7 = 0) : ∃ k : Nat, k < 8 ∧ x = nI k := by
  unfold iw at h
  by_cases h1 : x < 0
  · rw [if_pos h1] at h; exact absurd rfl h
  · rw [if_neg h1] at h
    by_cases h2 : 7 < x
    · rw [if_pos h2] at h; exact absurd rfl h
    · obtain ⟨j, hj, rfl⟩ := nI_of h1
      refine ⟨j, ?_, rfl⟩
      rcases Nat.lt_or_ge j 8 with q | q
      · exact q
      · exact absurd (show nI 7 < nI j from nI_lt (by omega) hj) h2
theorem iw_one {v b : Int32} (h : ¬ iw v b = 0) : iw v b = 1 := by
  unfold iw at h ⊢
  by_cases h1 : v < 0
  · rw [if_pos h1] at h; exact absurd rfl h
  · rw [if_neg h1] at h ⊢
    by_cases h2 : b < v
    · rw [if_pos h2] at h; exact absurd rfl h
    · rw [if_neg h2]
theorem tS_ch {σ : Mem} {x v : Int32} (h : tS σ x v = 0) : ∃ k : Nat, k < 8 ∧ x = nI k := iw_ch (fun z => by simp [tS, z] at h)
theorem tL_ch {x a b d : Int32} (h : tL x a b d = 0) : ∃ k : Nat, k < 8 ∧ x = nI k := iw_ch (fun z => by simp [tL, z] at h)
theorem tC_ch {x : Int32} (h : tC x = 0) : ∃ k : Nat, k < 8 ∧ x = nI k := iw_ch (fun z => by simp [tC, z] at h)
theorem tG_ch {x v z : Int32} (h : tG x v z = 0) : ∃ k : Nat, k < 8 ∧ x = nI k := iw_ch (fun q => by simp [tG, q] at h)
theorem tH_ch {x v : Int32} (h : tH x v = 0) : ∃ k : Nat, k < 8 ∧ x = nI k := iw_ch (fun z => by simp [tH, z] at h)
theorem tW_ch {x v : Int32} (h : tW x v = 0) : ∃ k : Nat, k < 8 ∧ x = nI k := iw_ch (fun z => by simp [tW, z] at h)
theorem t2_ch {x y : Int32} (h : t2 x y = 0) : (∃ k : Nat, k < 8 ∧ x = nI k) ∧ ∃ k : Nat, k < 8 ∧ y = nI k :=
  ⟨iw_ch (fun z => by simp [t2, z] at h), iw_ch (fun z => by
    by_cases q : iw x 7 = 0
    · simp [t2, q] at h
    · simp [t2, q, z] at h)⟩
theorem tR_ch {x y : Int32} (h : tR x y = 0) : ((∃ k : Nat, k < 8 ∧ x = nI k) ∧ ∃ k : Nat, k < 8 ∧ y = nI k) ∧ x ≠ y :=
  ⟨⟨iw_ch (fun z => by simp [tR, z] at h), iw_ch (fun z => by
    by_cases q : iw x 7 = 0
    · simp [tR, q] at h
    · simp [tR, q, z] at h)⟩, fun e => by
    by_cases q : iw x 7 = 0
    · simp [tR, q] at h
    · by_cases q2 : iw y 7 = 0
      · simp [tR, q, q2] at h
      · simp [tR, q, q2, e] at h⟩
def stM (b s z w : Int32) : Int32 := if s ≤ 0 then z + 1 else if hd w b 1 = 0 then z + 1 else 1
def lgM (w x : Int32) : Int32 := if w ≤ 0 then x else if x = 0 then w else if x ≤ w then x else w
def gtM (w x : Int32) : Int32 := if w ≤ x then x else w
def gM (σ : Mem) (w g : Int32) : Mem := m_up (m_up (m_up (m_up (m_up (m_up σ 26 14 (stM (σ 26 15) (σ 26 16) (σ 26 14) w)) 26 15 w) 26 16 (σ 26 16 + 1)) 26 11 (lgM w (σ 26 11))) 26 12 (gtM w (σ 26 12))) 26 13 (gtM g (σ 26 13))
def takM (σ : Mem) (w g : Int32) (k : Nat) : Prop := σ 35 k = 0 ∧ ¬ 12 ≤ nI (ct (fHome (σ 27) (nI k)) 96) ∧ fitM (σ 31 k) (σ 32 k) (σ 33 k) (σ 34 k) w g ≠ 0
def ftM (σ : Mem) (w g : Int32) : Nat → Int32
  | 0 => 0
  | k + 1 => if fitM (σ 31 k) (σ 32 k) (σ 33 k) (σ 34 k) w g = 0 then ftM σ w g k ||| 0 else ftM σ w g k ||| ((1 : Int32) <<< (nI k &&& 31))
def chM (σ : Mem) (k : Nat) (v : Int32) : Int32 := if v = 0 then σ 31 k else if v = 1 then σ 32 k else if v = 2 then σ 33 k else if v = 3 then σ 34 k else if v = 4 then b1 (σ 35 k) else if v = 5 then nI (ct (fHome (σ 27) (nI k)) 96) else if v = 7 then nI (ct (fZero (σ 27) (σ 29) (nI k)) 96) else nI (ct (fZero (σ 27) (σ 28) (nI k)) 96)
def hvM (h r : Nat → Int32) (c : Int32) : Nat → Int32
  | 0 => 0
  | n + 1 => if h n = c then (if r n ≤ hvM h r c n then hvM h r c n else r n) else hvM h r c n
def cmM (z : Int32) : Int32 := if z &&& 4 = 0 then (if z &&& 1 = 0 then (if z &&& 16 = 0 then 2 else 0) else -1) else 1
def gqM (σ : Mem) (v : Int32) : Int32 := if v = 0 then σ 26 11 else if v = 1 then σ 26 12 else if v = 2 then σ 26 13 else if v = 3 then σ 26 14 else if v = 4 then σ 26 16 else if v = 5 then σ 26 17 else if v = 6 then σ 26 18 else if v = 7 then σ 26 19 else 0
section RW5
variable {p : Program} {l : Launch} {e : Env} {R : Room} {s : State} {m : MethodId} {args : Array Value} {below : List Frame} {meth : Method} {c : Code} {H : Heap} {locs : List Loc} {cells slots : Nat} {Q : State → Prop} {ls : Array Slot} {rest : List Value} {E : Ev} {σ : Mem} {o : Nat → Int64} {g : JFrame}
/-- a place where roads meet, with a number on the stack, the heap moved -/
theorem cut_w {P : Int32 → Prop} {pcj : Nat} (k : ∀ (v : Int32) (H' : Heap) (locs' : List Loc), P v → va_P (e_D E) vwCl (wd E σ o) H' → va_S (LB (e_B E)) s.heap H' locs' → W p l e R s m args below meth c H' locs' cells slots Q (F0 m pcj ls (.int v :: rest))) (h : (∀ (v : Int32) (H' : Heap) (locs' : List Loc), P v → va_P (e_D E) vwCl (wd E σ o) H' → va_S (LB (e_B E)) s.heap H' locs' → W p l e R s m args below meth c H' locs' cells slots Q (F0 m pcj ls (.int v :: rest))) → W p l e R s m args below meth c H locs cells slots Q g) : W p l e R s m args below meth c H locs cells slots Q g := h k
end RW5
/-- the cheapest of those that have a property, the first of equals or any -/
theorem i32_ncyc {a b c : Int32} (h1 : ¬ a < b) (h2 : c < b) : ¬ a < c := by
  rw [Int32.lt_iff_toInt_lt] at *
  omega
section RW6
variable {p : Program} {l : Launch} {e : Env} {R : Room} {s : State} {m : MethodId} {args : Array Value} {below : List Frame} {meth : Method} {c : Code} {H : Heap} {locs : List Loc} {cells slots : Nat} {Q : State → Prop} {cc : ByteArray} {pc : Nat} {ls : Array Slot} {rest : List Value} {E : Ev} {σ : Mem} {o : Nat → Int64}
theorem q_ldv (hexec : p.tables.exec = Jvm.exec) (hb : c.code = cc) (hK : KN E s) (hP : va_P (e_D E) vwCl (wd E σ o) H) {j N : Nat} (ha : (wd E σ o)[j]? = some (e_a E j, .inl (e_c E 0, N, .inl (σ j)))) {x : Int32} {i : Nat} (hx : x = nI i) (hi : i < N) (hN : N < 2 ^ 31) (hdg : decode cc pc = .ok (.iaload, 1)) {v : Int32} (hv : σ j i = v) (kk : W p l e R s m args below meth c H locs cells slots Q (F0 m (pc + 1) ls (.int v :: rest))) : W p l e R s m args below meth c H locs cells slots Q (F0 m pc ls (.int x :: .ref (e_a E j) :: rest)) := q_ld hexec hb hK hP ha hx hi hN hdg (by rw [hv]; exact kk)
theorem q_zldv (hexec : p.tables.exec = Jvm.exec) (hb : c.code = cc) (hK : KN E s) (hP : va_P (e_D E) vwCl (wd E σ o) H) {x : Int32} {i : Nat} (hx : x = nI i) (hi : i < 8) (hdg : decode cc pc = .ok (.baload, 1)) {v : Int32} (hv : σ 35 i = v) (kk : W p l e R s m args below meth c H locs cells slots Q (F0 m (pc + 1) ls (.int v :: rest))) : W p l e R s m args below meth c H locs cells slots Q (F0 m pc ls (.int x :: .ref (e_a E 35) :: rest)) := q_zld hexec hb hK hP hx hi hdg (by rw [hv]; exact kk)
end RW6

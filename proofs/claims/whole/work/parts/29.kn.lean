/-! WHAT IS KNOWN AT THE START -/
theorem kn_str {s : State} {b k : Nat} (h : (Cond.exactly (.string RX1 k) "java/lang/String").before #[Value.ref b] s = true) : ∃ a : Nat, (Term.string RX1 k).eval #[Value.ref b] s none [] s = some (.ref a) := by
  obtain ⟨a, c, cA, kA, q1, -⟩ := Cond.exactly_spec (args := #[Value.ref b]) (first := s) (o := none) (s := s) (idx := []) (t := .string RX1 k) (cls := "java/lang/String") h
  exact ⟨a, q1⟩
theorem kn_D {s : State} {c0 c1 c2 : ClassId} {i0 i1 i2 : Nat → Nat} (h0 : u_Kn s RX0 TX0 8 c0 i0) (h1 : u_Kn s RX1 TX1 10 c1 i1) (h2 : u_Kn s RX2 TX2 20 c2 i2) : va_K (fun k => if k = 0 then c0 else if k = 1 then c1 else c2, fun k => if k = 0 then i0 else if k = 1 then i1 else i2) vwCl [] s := by
  refine ⟨fun c q hq => ?_, fun k q hq => nomatch hq⟩
  have hc : c < 3 := (List.getElem?_eq_some_iff.mp hq).1
  rcases (show c = 0 ∨ c = 1 ∨ c = 2 by omega) with rfl | rfl | rfl
  · cases hq; exact h0
  · cases hq; exact h1
  · cases hq; exact h2
set_option maxHeartbeats 4000000 in
set_option maxRecDepth 100000 in
theorem kn_all {s : State} {b : Nat} (htb : ∀ w ∈ lw_tbl, w.before #[Value.ref b] s = true) (hgv : (Jvm.Cond.and given_1 narrow_1).before #[Value.ref b] s = true) : ∃ (D : va_G) (sa : Nat → Nat), va_K D vwCl [] s ∧ va_AO RX0 s ∧ ∀ (ad : Nat → Nat) (cl : Nat → ClassId), va_K D vwCl [(cl 0, .int), (cl 1, .boolean), (cl 2, .long), (cl 3, .object "ParcelChutes$Chute")] s → KN (D, s.heap.size, ad, cl, sa) s := by
  have hs := flat_of_before _ hgv
  have hts : ∀ w ∈ wsL_law, w.before #[Value.ref b] s = true := fun w h => htb w (wsL_law_in w h)
  have ht : ∀ w ∈ tables_1, w.before #[Value.ref b] s = true := fun w h => htb w (List.mem_append_right _ h)
  obtain ⟨c0, i0, h0⟩ := u_known (C := RX0) (T := TX0) (N := 8) (n := 8) hts (fun w h => (gL_law_X1_init w (by simp only [wsX1_init, List.mem_cons, List.mem_append, h, or_true, true_or])).1) (ht (.instantiable RX0 8) (by decide +kernel))
  obtain ⟨c1, i1, h1⟩ := u_known (C := RX1) (T := TX1) (N := 10) (n := 10) hts (fun w h => (gL_law_X1_init w (by simp only [wsX1_init, List.mem_cons, List.mem_append, h, or_true, true_or])).1) (ht (.instantiable RX1 10) (by decide +kernel))
  obtain ⟨c2, i2, h2⟩ := u_known (C := RX2) (T := TX2) (N := 20) (n := 20) hts (fun w h => (gL_law_X2_init w (by simp only [wsX2_init, List.mem_cons, List.mem_append, h, or_true, true_or])).1) (ht (.instantiable RX2 20) (by decide +kernel))
  obtain ⟨a0, e0⟩ := kn_str (k := 148) (hs (.exactly (.string RX1 148) "java/lang/String") (by decide +kernel))
  obtain ⟨a1, e1⟩ := kn_str (k := 22) (hs (.exactly (.string RX1 22) "java/lang/String") (by decide +kernel))
  obtain ⟨a2, e2⟩ := kn_str (k := 33) (hs (.exactly (.string RX1 33) "java/lang/String") (by decide +kernel))
  obtain ⟨a3, e3⟩ := kn_str (k := 155) (hs (.exactly (.string RX1 155) "java/lang/String") (by decide +kernel))
  obtain ⟨a4, e4⟩ := kn_str (k := 157) (hs (.exactly (.string RX1 157) "java/lang/String") (by decide +kernel))
  obtain ⟨a5, e5⟩ := kn_str (k := 50) (hs (.exactly (.string RX1 50) "java/lang/String") (by decide +kernel))
  obtain ⟨a6, e6⟩ := kn_str (k := 87) (hs (.exactly (.string RX1 87) "java/lang/String") (by decide +kernel))
  obtain ⟨a7, e7⟩ := kn_str (k := 161) (hs (.exactly (.string RX1 161) "java/lang/String") (by decide +kernel))
  obtain ⟨a8, e8⟩ := kn_str (k := 111) (hs (.exactly (.string RX1 111) "java/lang/String") (by decide +kernel))
  have hA : ∀ a : Nat, a < s.heap.size → ¬ LB s.heap.size a := fun a h => Nat.not_le.mpr h
  refine ⟨_, fun j => ([a0, a1, a2, a3, a4, a5, a6, a7, a8] : List Nat).getD j 0, kn_D h0 h1 h2, va_AO.of (ht (.arrayOver (.object "ParcelChutes$Chute")) (by decide +kernel)), fun ad cl hK => ?_⟩
  refine ⟨hK, ⟨va_Nw.of rfl (ht (.methodLinkNest RX1 15 yX0_init RX1) (by decide +kernel)), va_Nw.of rfl (ht (.methodLinkNest RX0 25 yX1_holds RX1) (by decide +kernel)), va_Nw.of rfl (ht (.methodLinkNest RX0 46 yX1_oneIf RX1) (by decide +kernel))⟩, ⟨?_, ?_, ?_, ?_, ?_, ?_, ?_, ?_, ?_⟩, ⟨?_, ?_, ?_⟩, ?_, ?_⟩
  · exact vk_R.of (ht (.stringRef RX1 148 "no such chute") (by decide +kernel)) e0
  · exact vk_R.of (ht (.stringRef RX1 22 "no such sort") (by decide +kernel)) e1
  · exact vk_R.of (ht (.stringRef RX1 33 "the chute holds parcels") (by decide +kernel)) e2
  · exact vk_R.of (ht (.stringRef RX1 155 "no such weight") (by decide +kernel)) e3
  · exact vk_R.of (ht (.stringRef RX1 157 "no such girth") (by decide +kernel)) e4
  · exact vk_R.of (ht (.stringRef RX1 50 "HIGH is less than LOW") (by decide +kernel)) e5
  · exact vk_R.of (ht (.stringRef RX1 87 "no such what") (by decide +kernel)) e6
  · exact vk_R.of (ht (.stringRef RX1 161 "no such parcel") (by decide +kernel)) e7
  · exact vk_R.of (ht (.stringRef RX1 111 "both are one chute") (by decide +kernel)) e8
  · intro X hX
    rcases (show X = xIO ∨ X = xIA ∨ X = xIS ∨ X = xNS by simpa [xAll] using hX) with rfl | rfl | rfl | rfl
    · exact va_Nw.of rfl (ht (.castable xIO xIO) (by decide +kernel))
    · exact va_Nw.of rfl (ht (.castable xIA xIA) (by decide +kernel))
    · exact va_Nw.of rfl (ht (.castable xIS xIS) (by decide +kernel))
    · exact va_Nw.of rfl (ht (.castable xNS xNS) (by decide +kernel))
  · intro X hX
    rcases (show X = "java/lang/RuntimeException" ∨ X = "java/lang/Exception" ∨ X = "java/lang/Throwable" by simpa [xUp] using hX) with rfl | rfl | rfl
    · exact va_Nw.of rfl (ht (.declares (Bundle.initS "java/lang/RuntimeException")) (by decide +kernel))
    · exact va_Nw.of rfl (ht (.declares (Bundle.initS "java/lang/Exception")) (by decide +kernel))
    · exact va_Nw.of rfl (ht (.declares (Bundle.initS "java/lang/Throwable")) (by decide +kernel))
  · intro X hX Y hY hn
    rcases (show X = xIO ∨ X = xIA ∨ X = xIS ∨ X = xNS by simpa [xAll] using hX) with rfl | rfl | rfl | rfl <;> rcases (show Y = xIO ∨ Y = xIA ∨ Y = xIS ∨ Y = xNS by simpa [xAll] using hY) with rfl | rfl | rfl | rfl
    · exact absurd rfl hn
    · exact va_Nc.of (hs (.not (.castable xIO xIA)) (by decide +kernel))
    · exact va_Nc.of (hs (.not (.castable xIO xIS)) (by decide +kernel))
    · exact va_Nc.of (hs (.not (.castable xIO xNS)) (by decide +kernel))
    · exact va_Nc.of (hs (.not (.castable xIA xIO)) (by decide +kernel))
    · exact absurd rfl hn
    · exact va_Nc.of (hs (.not (.castable xIA xIS)) (by decide +kernel))
    · exact va_Nc.of (hs (.not (.castable xIA xNS)) (by decide +kernel))
    · exact va_Nc.of (hs (.not (.castable xIS xIO)) (by decide +kernel))
    · exact va_Nc.of (hs (.not (.castable xIS xIA)) (by decide +kernel))
    · exact absurd rfl hn
    · exact va_Nc.of (hs (.not (.castable xIS xNS)) (by decide +kernel))
    · exact va_Nc.of (hs (.not (.castable xNS xIO)) (by decide +kernel))
    · exact va_Nc.of (hs (.not (.castable xNS xIA)) (by decide +kernel))
    · exact va_Nc.of (hs (.not (.castable xNS xIS)) (by decide +kernel))
    · exact absurd rfl hn
  · exact vx_Zqof (ht (.laysStatic Bundle.tN "UNASSIGNED_STACK" Bundle.steD) (by decide +kernel)) (ht (.initialized Bundle.tN) (by decide +kernel)) (hs (.isRef (.static Bundle.tN "UNASSIGNED_STACK" Bundle.steD)) (by decide +kernel)) hA
  · exact vx_Zqof (ht (.laysStatic Bundle.tN "SUPPRESSED_SENTINEL" Bundle.listD) (by decide +kernel)) (ht (.initialized Bundle.tN) (by decide +kernel)) (hs (.isRef (.static Bundle.tN "SUPPRESSED_SENTINEL" Bundle.listD)) (by decide +kernel)) hA
